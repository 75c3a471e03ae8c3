/** Promises 1 to 9: a new object, machines, ties, sayings, most. */
public final class MachinesTest {
    private static final Due DUE = new Due();

    public static void main(String[] args) {
        newObject();
        machine();
        machineIs();
        as();
        tie();
        say();
        sayingIsAndUnsay();
        most();
        DUE.end();
    }

    private static void newObject() {
        PoliteHall x = new PoliteHall();
        for (int what = 0; what < 8; what++) {
            DUE.is("new: count(" + what + ")", x.count(what), 0);
        }
        for (int k = 1; k <= 6; k++) {
            DUE.is("new: told(" + k + ")", x.told(k), 0);
        }
        DUE.is("new: many", x.many(), 1);
        DUE.is("new: which(0)", x.which(0), 0);
        DUE.is("new: known", x.known(), 12);
        DUE.is("new: restore", x.restore(), Due.NONE);
        DUE.is("new: body(0)", x.body(0), Due.NONE);
        DUE.is("new: put in a missing sheet", x.put(0, 0, 0), Due.NONE);
        DUE.is("new: most was 12", x.most(3), 12);
    }

    private static void machine() {
        PoliteHall x = new PoliteHall();
        int[][] beyond = {{-1, 1, 1}, {6, 1, 1}, {0, 0, 1}, {0, 100, 1}, {0, 1, 0}, {0, 1, 10}, {Integer.MIN_VALUE, 1, 1}, {0, Integer.MAX_VALUE, 1}};
        for (int[] b : beyond) {
            DUE.is("machine beyond", x.machine(b[0], b[1], b[2]), Due.BEYOND);
        }
        DUE.is("count(0) unchanged", x.count(0), 0);
        DUE.is("machine least", x.machine(0, 1, 1), 0);
        DUE.is("machine greatest", x.machine(5, 99, 9), 1);
        for (int i = 2; i < 12; i++) {
            DUE.is("machine " + i, x.machine(i % 6, 10 + i, 5), i);
        }
        DUE.is("a 13th", x.machine(0, 1, 1), Due.FULL);
        DUE.is("a 13th, beyond", x.machine(6, 1, 1), Due.BEYOND);
        DUE.is("count(0)", x.count(0), 12);
        DUE.is("told FULL", x.told(4), 1);
    }

    private static void machineIs() {
        PoliteHall x = new PoliteHall();
        x.machine(3, 17, 4);
        x.machine(5, 99, 9);
        x.machine(0, 1, 1);
        x.tie(0, 1, 5);
        x.tie(0, 2, 5);
        x.tie(1, 0, 5);
        x.say(0, 1, true);
        x.say(0, 2, false);
        x.say(0, 1, false);
        x.say(1, 0, true);
        x.unsay(2);
        int[][] due = {{3, 17, 4, 6, 2, 1}, {5, 99, 9, 1, 1, 1}, {0, 1, 1, 0, 0, 1}};
        for (int m = 0; m < 3; m++) {
            for (int what = 0; what < 6; what++) {
                DUE.is("machineIs(" + m + ", " + what + ")", x.machineIs(m, what), due[m][what]);
            }
        }
        DUE.is("machineIs(-1, 0)", x.machineIs(-1, 0), Due.BEYOND);
        DUE.is("machineIs(3, 0)", x.machineIs(3, 0), Due.BEYOND);
        DUE.is("machineIs(0, -1)", x.machineIs(0, -1), Due.BEYOND);
        DUE.is("machineIs(0, 6)", x.machineIs(0, 6), Due.BEYOND);
        x.tie(0, 1, 0);
        DUE.is("whom it can try, a tie less", x.machineIs(0, 3), 4);
        DUE.is("sayings stay when the tie goes", x.machineIs(0, 4), 2);
    }

    private static void as() {
        PoliteHall x = new PoliteHall();
        String[] above = {"0", "01", "02", "03", "024", "035"};
        for (int kind = 0; kind < 6; kind++) {
            x.machine(kind, 40 + kind, 1);
        }
        for (int m = 0; m < 6; m++) {
            for (int kind = 0; kind < 6; kind++) {
                boolean is = above[m].contains("" + kind);
                DUE.is("as(" + m + ", " + kind + ")", x.as(m, kind), is ? 40 + m : Due.KIND);
            }
        }
        DUE.is("as(6, 0)", x.as(6, 0), Due.BEYOND);
        DUE.is("as(-1, 0)", x.as(-1, 0), Due.BEYOND);
        DUE.is("as(0, 6)", x.as(0, 6), Due.BEYOND);
        DUE.is("as(0, -1)", x.as(0, -1), Due.BEYOND);
    }

    private static void tie() {
        PoliteHall x = Due.hallOf(3, 0);
        DUE.is("tie", x.tie(0, 1, 99), 0);
        DUE.is("tie again", x.tie(0, 1, 1), 99);
        DUE.is("the other way", x.tie(1, 0, 7), 0);
        DUE.is("costs", x.count(7), 8);
        DUE.is("cut", x.tie(0, 1, 0), 1);
        DUE.is("cut again", x.tie(0, 1, 0), 0);
        DUE.is("ties", x.count(1), 1);
        DUE.is("from beyond", x.tie(3, 0, 1), Due.BEYOND);
        DUE.is("to beyond", x.tie(0, -1, 1), Due.BEYOND);
        DUE.is("cost beyond", x.tie(0, 1, 100), Due.BEYOND);
        DUE.is("cost below", x.tie(0, 1, -1), Due.BEYOND);
        DUE.is("one, cost beyond first", x.tie(1, 1, 100), Due.BEYOND);
        DUE.is("both one", x.tie(1, 1, 0), Due.STATE);
        DUE.is("ties unchanged", x.count(1), 1);
    }

    private static void say() {
        PoliteHall x = Due.hallOf(3, 0);
        x.tie(0, 1, 1);
        DUE.is("from beyond", x.say(3, 0, true), Due.BEYOND);
        DUE.is("to beyond", x.say(0, 3, true), Due.BEYOND);
        DUE.is("below", x.say(-1, 0, true), Due.BEYOND);
        DUE.is("both one", x.say(0, 0, true), Due.STATE);
        DUE.is("no tie", x.say(1, 0, true), Due.STATE);
        for (int i = 0; i < 60; i++) {
            DUE.is("say " + i, x.say(0, 1, i % 2 == 0), i);
        }
        DUE.is("say no tie, though full", x.say(1, 0, true), Due.STATE);
        DUE.is("say full", x.say(0, 1, true), Due.FULL);
        x.unsay(59);
        DUE.is("unsaid ones keep their room", x.say(0, 1, true), Due.FULL);
        DUE.is("count(2)", x.count(2), 60);
        DUE.is("count(3)", x.count(3), 59);
        DUE.is("the last one", x.sayingIs(59, 3), 0);
        DUE.is("the last but one", x.sayingIs(58, 2), 1);
    }

    private static void sayingIsAndUnsay() {
        PoliteHall x = Due.hallOf(3, 0);
        x.tie(2, 1, 1);
        x.tie(1, 0, 1);
        x.say(2, 1, true);
        x.say(1, 0, false);
        int[][] due = {{2, 1, 1, 1}, {1, 0, 0, 1}};
        for (int i = 0; i < 2; i++) {
            for (int what = 0; what < 4; what++) {
                DUE.is("sayingIs(" + i + ", " + what + ")", x.sayingIs(i, what), due[i][what]);
            }
        }
        DUE.is("sayingIs(2, 0)", x.sayingIs(2, 0), Due.BEYOND);
        DUE.is("sayingIs(-1, 0)", x.sayingIs(-1, 0), Due.BEYOND);
        DUE.is("sayingIs(0, 4)", x.sayingIs(0, 4), Due.BEYOND);
        DUE.is("sayingIs(0, -1)", x.sayingIs(0, -1), Due.BEYOND);
        DUE.is("unsay(2)", x.unsay(2), Due.BEYOND);
        DUE.is("unsay(-1)", x.unsay(-1), Due.BEYOND);
        DUE.is("unsay(0)", x.unsay(0), 1);
        DUE.is("unsay(0) again", x.unsay(0), Due.STATE);
        DUE.is("it counts no more", x.sayingIs(0, 3), 0);
        DUE.is("it stays", x.sayingIs(0, 0), 2);
        DUE.is("the next number", x.say(2, 1, false), 2);
        DUE.is("said BEYOND so often", x.told(1), 6);
    }

    private static void most() {
        PoliteHall x = Due.hallOf(4, 0);
        int[] many = {1, 5, 11, 15, 16, 16, 16, 16, 16, 16, 16, 16, 16};
        int before = 12;
        for (int v = 0; v <= 12; v++) {
            DUE.is("most(" + v + ")", x.most(v), before);
            DUE.is("many at most " + v, x.many(), many[v]);
            before = v;
        }
        DUE.is("most(13)", x.most(13), Due.BEYOND);
        DUE.is("most(-1)", x.most(-1), Due.BEYOND);
        DUE.is("most as it was", x.most(0), 12);
    }
}
