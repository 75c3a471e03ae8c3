/** The sentences of promises 1 to 9 that name an edge, one by one. */
public final class MachineEdgesTest {
    private static final Due DUE = new Due();

    public static void main(String[] args) {
        noMachines();
        nothingAtFirst();
        atMostTwelve();
        kinds();
        prices();
        chances();
        costs();
        whomItCanTry();
        atMostSixty();
        whereThereWasATie();
        itsNumberStays();
        sayingsThatCount();
        asOneOfAKind();
        mostAtFirst();
        atMostMost();
        fiveHundredAndTwelveCalls();
        DUE.end();
    }

    private static void noMachines() {
        DUE.sentence("PoliteHall(): No MACHINES.");
        PoliteHall x = new PoliteHall();
        DUE.is("count(0)", x.count(0), 0);
        DUE.is("fits(0)", x.fits(0), 1);
        DUE.is("bars(0)", x.bars(0), -1);
        DUE.is("many()", x.many(), 1);
        DUE.is("which(0)", x.which(0), 0);
        DUE.is("sure(0)", x.sure(0), 0);
        DUE.is("sure(1)", x.sure(1), 0);
        DUE.is("blame(0)", x.blame(0), 0);
        DUE.is("blame(1)", x.blame(1), 0);
        DUE.is("known()", x.known(), 12);
        DUE.is("rounds()", x.rounds(), 0);
        DUE.is("likely()", x.likely(), 0);
        DUE.is("worst(0, 0)", x.worst(0, 0), 1);
        DUE.is("worst(0, 1)", x.worst(0, 1), 0);
        DUE.is("mend(0)", x.mend(0), 0);
        DUE.is("mend(9999)", x.mend(9999), 0);
        x.most(0);
        DUE.is("many() of at most none", x.many(), 1);
        for (int k = 1; k <= 6; k++) {
            DUE.is("told(" + k + ")", x.told(k), 0);
        }
    }

    private static void nothingAtFirst() {
        DUE.sentence("nothing there at all");
        PoliteHall x = new PoliteHall();
        for (int what = 0; what < 8; what++) {
            DUE.is("count(" + what + ")", x.count(what), 0);
        }
        DUE.is("machineIs(0, 0)", x.machineIs(0, 0), Due.BEYOND);
        DUE.is("sayingIs(0, 0)", x.sayingIs(0, 0), Due.BEYOND);
        DUE.is("unsay(0)", x.unsay(0), Due.BEYOND);
        DUE.is("tie(0, 0, 1)", x.tie(0, 0, 1), Due.BEYOND);
        DUE.is("say(0, 0, true)", x.say(0, 0, true), Due.BEYOND);
        DUE.is("fits(1)", x.fits(1), Due.BEYOND);
        DUE.is("which(1)", x.which(1), Due.BEYOND);
        DUE.is("chance(0, 0)", x.chance(0, 0), Due.BEYOND);
        DUE.is("voice(0, 0, 0)", x.voice(0, 0, 0), Due.BEYOND);
        DUE.is("pair(0)", x.pair(0), Due.NONE);
        DUE.is("more()", x.more(), Due.NONE);
        DUE.is("next(0)", x.next(0), Due.NONE);
        DUE.is("body(0)", x.body(0), Due.NONE);
        DUE.is("restore()", x.restore(), Due.NONE);
        DUE.is("check()", x.check(), 0);
        DUE.is("text()", x.text(), -10);
        DUE.is("told(1)", x.told(1), 9);
        DUE.is("told(2)", x.told(2), 5);
    }

    private static void atMostTwelve() {
        DUE.sentence("MACHINES 0, 1, .. (at most 12)");
        PoliteHall x = new PoliteHall();
        for (int i = 0; i < 12; i++) {
            DUE.is("machine", x.machine(i % 6, 99 - i, 1 + i % 9), i);
            DUE.is("count(0)", x.count(0), i + 1);
            DUE.is("many()", x.many(), 2 << i);
        }
        DUE.is("a thirteenth", x.machine(0, 1, 1), Due.FULL);
        DUE.is("count(0)", x.count(0), 12);
        for (int i = 0; i < 12; i++) {
            DUE.is("its KIND", x.machineIs(i, 0), i % 6);
            DUE.is("its PRICE", x.machineIs(i, 1), 99 - i);
            DUE.is("its CHANCE", x.machineIs(i, 2), 1 + i % 9);
        }
        DUE.is("machineIs(12, 0)", x.machineIs(12, 0), Due.BEYOND);
    }

    private static void kinds() {
        DUE.sentence("KINDS: 0 .. 5");
        PoliteHall x = new PoliteHall();
        DUE.is("KIND -1", x.machine(-1, 1, 1), Due.BEYOND);
        DUE.is("KIND 0", x.machine(0, 1, 1), 0);
        DUE.is("KIND 5", x.machine(5, 1, 1), 1);
        DUE.is("KIND 6", x.machine(6, 1, 1), Due.BEYOND);
        DUE.is("what it is", x.machineIs(0, 0) * 10 + x.machineIs(1, 0), 5);
    }

    private static void prices() {
        DUE.sentence("PRICE (1 .. 99)");
        PoliteHall x = new PoliteHall();
        DUE.is("PRICE 0", x.machine(0, 0, 1), Due.BEYOND);
        DUE.is("PRICE 1", x.machine(0, 1, 1), 0);
        DUE.is("PRICE 99", x.machine(0, 99, 1), 1);
        DUE.is("PRICE 100", x.machine(0, 100, 1), Due.BEYOND);
        DUE.is("PRICE -1", x.machine(0, -1, 1), Due.BEYOND);
        DUE.is("what it is", x.machineIs(0, 1) * 100 + x.machineIs(1, 1), 199);
    }

    private static void chances() {
        DUE.sentence("a CHANCE (1 .. 9: tenths)");
        PoliteHall x = new PoliteHall();
        DUE.is("CHANCE 0", x.machine(0, 1, 0), Due.BEYOND);
        DUE.is("CHANCE 1", x.machine(0, 1, 1), 0);
        DUE.is("CHANCE 9", x.machine(0, 1, 9), 1);
        DUE.is("CHANCE 10", x.machine(0, 1, 10), Due.BEYOND);
        DUE.is("CHANCE -1", x.machine(0, 1, -1), Due.BEYOND);
        DUE.is("what it is", x.machineIs(0, 2) * 10 + x.machineIs(1, 2), 19);
        DUE.is("tenths: 1 of 10", x.chance(0, 0) * 100 + x.chance(0, 1), 110);
        DUE.is("tenths: 9 of 10", x.chance(1, 0) * 100 + x.chance(1, 1), 910);
    }

    private static void costs() {
        DUE.sentence("A TIE has a COST (0: there is none): what it was.");
        PoliteHall x = Due.hallOf(2, 0);
        DUE.is("COST 0 of none", x.tie(0, 1, 0), 0);
        DUE.is("ties", x.count(1), 0);
        DUE.is("COST 1", x.tie(0, 1, 1), 0);
        DUE.is("ties", x.count(1), 1);
        DUE.is("COST 99", x.tie(0, 1, 99), 1);
        DUE.is("ties", x.count(1), 1);
        DUE.is("COST 100", x.tie(0, 1, 100), Due.BEYOND);
        DUE.is("COST -1", x.tie(0, 1, -1), Due.BEYOND);
        DUE.is("COSTS together", x.count(7), 99);
        DUE.is("the other way there is none", x.tie(1, 0, 0), 0);
        DUE.is("COST 0", x.tie(0, 1, 0), 99);
        DUE.is("ties", x.count(1), 0);
        DUE.is("whom it can try", x.machineIs(0, 3), 0);
        DUE.is("COST 0 again", x.tie(0, 1, 0), 0);
        DUE.is("one to itself, COST 0", x.tie(1, 1, 0), Due.STATE);
    }

    private static void whomItCanTry() {
        DUE.sentence("machineIs: 3 whom it can try (bits)");
        PoliteHall x = Due.tieAll(Due.hallOf(12, 0));
        DUE.is("all ties", x.count(1), 132);
        for (int i = 0; i < 12; i++) {
            DUE.is("all but itself", x.machineIs(i, 3), 4095 & ~(1 << i));
        }
        x.tie(11, 0, 0);
        x.tie(0, 11, 0);
        DUE.is("not the first", x.machineIs(11, 3), 2046);
        DUE.is("not the last", x.machineIs(0, 3), 2046);
        DUE.is("ties", x.count(1), 130);
        DUE.is("COSTS together", x.count(7), 130);
    }

    private static PoliteHall sixty() {
        PoliteHall x = Due.hallOf(12, 0);
        x.tie(0, 11, 1);
        x.tie(11, 0, 1);
        for (int i = 0; i < 60; i++) {
            x.say(i % 2 == 0 ? 0 : 11, i % 2 == 0 ? 11 : 0, i % 3 == 0);
        }
        return x;
    }

    private static void atMostSixty() {
        DUE.sentence("SAYINGS 0, 1, .. (at most 60), as they came");
        PoliteHall x = sixty();
        DUE.is("sayings", x.count(2), 60);
        DUE.is("one more", x.say(0, 11, true), Due.FULL);
        DUE.is("sayings", x.count(2), 60);
        for (int i = 0; i < 60; i++) {
            DUE.is("from of " + i, x.sayingIs(i, 0), i % 2 == 0 ? 0 : 11);
            DUE.is("to of " + i, x.sayingIs(i, 1), i % 2 == 0 ? 11 : 0);
            DUE.is("whole of " + i, x.sayingIs(i, 2), i % 3 == 0 ? 1 : 0);
            DUE.is("counts of " + i, x.sayingIs(i, 3), 1);
        }
        DUE.is("sayingIs(60, 0)", x.sayingIs(60, 0), Due.BEYOND);
        DUE.is("sayings by it", x.machineIs(0, 4), 30);
        DUE.is("sayings of it", x.machineIs(0, 5), 30);
        DUE.is("sayings by another", x.machineIs(5, 4), 0);
        PoliteHall y = Due.hallOf(2, 0);
        y.tie(0, 1, 1);
        for (int i = 0; i < 60; i++) {
            DUE.is("its number", y.say(0, 1, false), i);
        }
        DUE.is("all by it", y.machineIs(0, 4), 60);
        DUE.is("all of it", y.machineIs(1, 5), 60);
    }

    private static void whereThereWasATie() {
        DUE.sentence("who said of whom (where there was a TIE)");
        PoliteHall x = Due.hallOf(2, 1);
        DUE.is("no TIE yet", x.say(0, 1, false), Due.STATE);
        x.tie(0, 1, 1);
        DUE.is("the other way there is none", x.say(1, 0, false), Due.STATE);
        DUE.is("say", x.say(0, 1, false), 0);
        x.tie(0, 1, 0);
        DUE.is("no TIE any more", x.say(0, 1, false), Due.STATE);
        DUE.is("it counts still", x.sayingIs(0, 3), 1);
        DUE.is("by it", x.machineIs(0, 4), 1);
        DUE.is("of it", x.machineIs(1, 5), 1);
        DUE.is("many", x.many(), 1);
        DUE.is("which", x.which(0), 2);
        DUE.is("unsay", x.unsay(0), 1);
        DUE.is("many then", x.many(), 4);
    }

    private static void itsNumberStays() {
        DUE.sentence("one that is UNSAID counts no more (its number stays)");
        PoliteHall x = sixty();
        DUE.is("the first", x.unsay(0), 1);
        DUE.is("the last", x.unsay(59), 1);
        DUE.is("one behind it", x.unsay(60), Due.BEYOND);
        DUE.is("the first again", x.unsay(0), Due.STATE);
        DUE.is("the last again", x.unsay(59), Due.STATE);
        DUE.is("sayings", x.count(2), 60);
        DUE.is("those that count", x.count(3), 58);
        DUE.is("no room for another", x.say(0, 11, true), Due.FULL);
        DUE.is("counts", x.sayingIs(0, 3), 0);
        DUE.is("counts", x.sayingIs(59, 3), 0);
        DUE.is("those beside count", x.sayingIs(1, 3) + x.sayingIs(58, 3), 2);
        DUE.is("from", x.sayingIs(59, 0), 11);
        DUE.is("to", x.sayingIs(59, 1), 0);
        DUE.is("whole", x.sayingIs(0, 2), 1);
        PoliteHall y = Due.hallOf(2, 0);
        y.tie(0, 1, 1);
        y.say(0, 1, true);
        y.unsay(0);
        DUE.is("the next one has the next number", y.say(0, 1, false), 1);
        DUE.is("the first one stays as it was", y.sayingIs(0, 2), 1);
        DUE.is("MENDED ones are UNSAID", y.mended(0), 1);
        DUE.is("unsay", y.unsay(1), Due.STATE);
    }

    private static void sayingsThatCount() {
        DUE.sentence("machineIs: 4 SAYINGS by it that count, 5 SAYINGS of it that count");
        PoliteHall x = sixty();
        x.unsay(0);
        x.unsay(58);
        x.unsay(59);
        DUE.is("by 0", x.machineIs(0, 4), 28);
        DUE.is("of 0", x.machineIs(0, 5), 29);
        DUE.is("by 11", x.machineIs(11, 4), 29);
        DUE.is("of 11", x.machineIs(11, 5), 28);
        x.mended(11);
        DUE.is("none by 0", x.machineIs(0, 4), 0);
        DUE.is("none of 0", x.machineIs(0, 5), 0);
    }

    private static void asOneOfAKind() {
        DUE.sentence("as: KIND: it is not of that KIND, nor of one under it.");
        int[][] of = {{0}, {0, 1}, {0, 2}, {0, 3}, {0, 2, 4}, {0, 3, 5}};
        PoliteHall x = new PoliteHall();
        for (int kind = 0; kind < 6; kind++) {
            x.machine(kind, kind == 0 ? 1 : 94 + kind, 1);
        }
        for (int m = 0; m < 6; m++) {
            int due = 0;
            for (int kind : of[m]) {
                due |= 1 << kind;
            }
            for (int kind = 0; kind < 6; kind++) {
                int price = m == 0 ? 1 : 94 + m;
                DUE.is("as(" + m + ", " + kind + ")", x.as(m, kind), (due >> kind & 1) == 1 ? price : Due.KIND);
            }
            DUE.is("as(" + m + ", -1)", x.as(m, -1), Due.BEYOND);
            DUE.is("as(" + m + ", 6)", x.as(m, 6), Due.BEYOND);
        }
    }

    private static void mostAtFirst() {
        DUE.sentence("At most MOST MACHINES are broken (0 .. 12; 12 at first).");
        PoliteHall x = new PoliteHall();
        DUE.is("most(13)", x.most(13), Due.BEYOND);
        DUE.is("most(-1)", x.most(-1), Due.BEYOND);
        DUE.is("most(12), 12 at first", x.most(12), 12);
        DUE.is("most(0)", x.most(0), 12);
        DUE.is("most(0) again", x.most(0), 0);
        DUE.is("most(12)", x.most(12), 0);
        DUE.is("more than there are", x.most(11), 12);
    }

    private static void atMostMost() {
        DUE.sentence("A SET FITS, if it has at most MOST");
        PoliteHall x = Due.hallOf(12, 0);
        int[] many = {1, 13, 79, 299, 794, 1586, 2510, 3302, 3797, 4017, 4083, 4095, 4096};
        for (int most = 0; most <= 12; most++) {
            x.most(most);
            int justMost = (1 << most) - 1;
            DUE.is("as many as MOST", x.fits(justMost), 1);
            if (most < 12) {
                DUE.is("one more", x.fits(2 * justMost + 1), 0);
                DUE.is("one more, the highest ones", x.fits(4095 & -(1 << 11 - most)), 0);
            }
            DUE.is("many", x.many(), many[most]);
        }
    }

    private static void fiveHundredAndTwelveCalls() {
        DUE.sentence("An object is used for at most 512 calls after it has been made");
        PoliteHall x = Due.hallOf(12, 0);
        for (int i = 12; i < 510; i++) {
            x.told(0);
        }
        DUE.is("the 511th", x.told(1), 498);
        DUE.is("the 512th", x.many(), 4096);
    }
}
