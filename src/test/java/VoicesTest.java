/** Promises 30 and 31: voices, the trace. */
public final class VoicesTest {
    private static final Due DUE = new Due();

    public static void main(String[] args) {
        eachKind();
        wraps();
        parted();
        refused();
        DUE.end();
    }

    /** One of each kind, of price 5 and chance 1, in an order that leaves no price as its number. */
    private static PoliteHall allKinds() {
        PoliteHall x = new PoliteHall();
        int[] prices = {5, 5, 5, 5, 5, 9};
        for (int kind = 0; kind < 6; kind++) {
            x.machine(kind, prices[kind], 1 + kind);
        }
        return x;
    }

    private static void voice(PoliteHall x, int machine, int act, int at, int due, int... trace) {
        String call = "voice(" + machine + ", " + act + ", " + at + ")";
        DUE.is(call, x.voice(machine, act, at), due);
        DUE.is("bodies of " + call, x.count(6), trace.length);
        for (int i = 0; i < trace.length; i++) {
            DUE.is("body " + i + " of " + call, x.body(i), trace[i]);
        }
        DUE.is("a body more of " + call, x.body(trace.length), Due.NONE);
    }

    private static void eachKind() {
        PoliteHall x = allKinds();
        voice(x, 0, 0, 7, 8, 10);
        voice(x, 0, 1, 7, 24, 11, 10);
        voice(x, 0, 2, 7, 19, 12, 11, 10);
        voice(x, 0, 3, 17, 3, 13);
        voice(x, 0, 3, -17, -3, 13);
        voice(x, 1, 0, 7, 10, 20, 10);
        voice(x, 1, 1, 7, 30, 11, 20, 10);
        voice(x, 1, 2, 7, 25 ^ 5, 21, 12, 11, 20, 10);
        voice(x, 1, 3, 9, 2, 13);
        voice(x, 2, 0, 7, 10, 10);
        voice(x, 2, 1, 7, -30, 30, 11, 10);
        voice(x, 2, 2, 7, -35, 12, 30, 11, 10);
        voice(x, 2, 3, 7, 2 + 5, 31, 13, 10);
        voice(x, 3, 0, 7, 7, 40, 10);
        voice(x, 3, 0, -7, 1, 40, 10);
        voice(x, 3, 1, 7, 21, 11, 40, 10);
        voice(x, 3, 2, 7, 16 + 12, 41, 12, 11, 40, 10, 11, 40, 10);
        voice(x, 3, 3, 7, 3, 13);
        voice(x, 4, 0, 7, 12, 10);
        voice(x, 4, 1, 7, -39, 50, 30, 11, 10);
        voice(x, 4, 2, 7, -39 - 5 + 15, 51, 12, 50, 30, 11, 10, 30, 11, 10);
        voice(x, 4, 3, 7, 7 + 9, 31, 13, 10);
        voice(x, 5, 0, 7, 0, 60);
        voice(x, 5, 1, 7, 0, 11, 60);
        voice(x, 5, 2, 7, -9, 41, 12, 11, 60, 11, 60);
        voice(x, 5, 3, 7, -9 - 1, 61, 41, 12, 11, 60, 11, 60, 13);
    }

    private static void wraps() {
        PoliteHall x = new PoliteHall();
        x.machine(0, 1, 1);
        x.machine(0, 1, 1);
        x.machine(0, 1, 1);
        DUE.is("hums wraps", x.voice(0, 0, Integer.MAX_VALUE), Integer.MIN_VALUE);
        DUE.is("tries wraps", x.voice(0, 1, Integer.MAX_VALUE), Integer.MIN_VALUE);
        DUE.is("says wraps", x.voice(0, 2, Integer.MAX_VALUE), Integer.MAX_VALUE);
        DUE.is("the least by -1", x.voice(2, 3, Integer.MIN_VALUE), Integer.MIN_VALUE);
        DUE.is("an answer that looks like an ERROR", x.voice(0, 0, -1000004), Due.STATE);
        DUE.is("is none", x.told(3), 0);
        DUE.is("an answer that looks like PARTED", x.voice(0, 0, -1000007), Due.PARTED);
        DUE.is("is none", x.told(6), 0);
    }

    private static void parted() {
        PoliteHall x = new PoliteHall();
        for (int i = 0; i < 6; i++) {
            x.machine(i, Math.max(1, i), 1);
        }
        voice(x, 1, 3, 7, Due.PARTED, 13);
        voice(x, 2, 3, 7, Due.PARTED, 31, 13);
        voice(x, 3, 3, 7, Due.PARTED, 13);
        voice(x, 4, 3, 7, Due.PARTED, 31, 13);
        voice(x, 5, 3, 7, Due.PARTED, 61, 41, 12, 11, 60, 11, 60, 13);
        DUE.is("told PARTED", x.told(6), 5);
        voice(x, 2, 0, 7, 8, 10);
        DUE.is("told PARTED still", x.told(6), 5);
    }

    private static void refused() {
        PoliteHall x = allKinds();
        DUE.is("body(0) ahead of all", x.body(0), Due.NONE);
        x.voice(0, 2, 7);
        DUE.is("machine beyond", x.voice(6, 0, 7), Due.BEYOND);
        DUE.is("machine below", x.voice(-1, 0, 7), Due.BEYOND);
        DUE.is("act beyond", x.voice(0, 4, 7), Due.BEYOND);
        DUE.is("act below", x.voice(0, -1, 7), Due.BEYOND);
        DUE.is("the trace stays", x.count(6), 3);
        DUE.is("the trace stays", x.body(0), 12);
        DUE.is("body(-1)", x.body(-1), Due.NONE);
        DUE.is("body(MAX)", x.body(Integer.MAX_VALUE), Due.NONE);
    }
}
