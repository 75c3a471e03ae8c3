/** The sentences of promises 30 and 31, and of part 5, that name an edge, one by one. */
public final class VoiceEdgesTest {
    private static final Due DUE = new Due();
    private static final int MIN = Integer.MIN_VALUE;
    private static final int MAX = Integer.MAX_VALUE;
    private static final int[] NUMBERS = {MIN, MIN + 1, MIN / 3, -1000001, -3, -2, -1, 0, 1, 2, 3, MAX / 3, MAX - 1, MAX};
    /** By kinds, then acts: the bodies of a voice. */
    private static final int[][][] BODIES = {
        {{10}, {11, 10}, {12, 11, 10}, {13}},
        {{20, 10}, {11, 20, 10}, {21, 12, 11, 20, 10}, {13}},
        {{10}, {30, 11, 10}, {12, 30, 11, 10}, {31, 13, 10}},
        {{40, 10}, {11, 40, 10}, {41, 12, 11, 40, 10, 11, 40, 10}, {13}},
        {{10}, {50, 30, 11, 10}, {51, 12, 50, 30, 11, 10, 30, 11, 10}, {31, 13, 10}},
        {{60}, {11, 60}, {41, 12, 11, 60, 11, 60}, {61, 41, 12, 11, 60, 11, 60, 13}},
    };

    public static void main(String[] args) {
        intsThatWrap();
        cutTowardNought();
        partedIsAllItAnswers();
        tracesOfEachKind();
        theLatest();
        machinesAndActs();
        noneSuch();
        looksLikeAnError();
        DUE.end();
    }

    /** What a voice answers, worked out without bodies. */
    private static int due(int kind, int act, int x, int n, int p, int c) {
        int hum = kind == 5 ? 0 : kind == 3 ? x / 2 + c : kind == 1 ? x + c + 1 : x + c;
        int share = p == n ? 0 : x / (p - n);
        switch (act) {
            case 0:
                return hum;
            case 1:
                return kind == 4 ? -3 * (x + 1 + c) : kind == 2 ? -3 * hum : 3 * hum;
            case 2:
                return says(kind, x, hum, p, c);
            default:
                return kind == 5 ? -p - share : kind == 2 || kind == 4 ? share + n + c : share;
        }
    }

    private static int says(int kind, int x, int hum, int p, int c) {
        switch (kind) {
            case 1:
                return 3 * hum - p ^ p;
            case 2:
                return -3 * hum - p;
            case 3:
                return 3 * hum - p + 3 * c;
            case 4:
                return -3 * (x + 1 + c) - p + 3 * c;
            case 5:
                return -p;
            default:
                return 3 * hum - p;
        }
    }

    private static void intsThatWrap() {
        DUE.sentence("VOICES of a MACHINE, with a number x (ints that wrap)");
        for (int kind = 0; kind < 6; kind++) {
            for (int n = 0; n < 12; n += 11) {
                voicesOf(kind, n, 1, 9);
                voicesOf(kind, n, 10, 1);
                voicesOf(kind, n, 12, 5);
                voicesOf(kind, n, 99, 9);
            }
        }
    }

    private static void voicesOf(int kind, int n, int price, int chance) {
        PoliteHall x = Due.hallOf(n, (kind + 1) % 6);
        x.machine(kind, price, chance);
        for (int act = 0; act < 4; act++) {
            for (int at : NUMBERS) {
                String call = "kind " + kind + ": voice(" + n + ", " + act + ", " + at + ")";
                DUE.is(call, x.voice(n, act, at), due(kind, act, at, n, price, chance));
            }
        }
    }

    private static void cutTowardNought() {
        DUE.sentence("quotients are cut toward 0");
        PoliteHall x = new PoliteHall();
        x.machine(3, 2, 1);
        x.machine(0, 3, 1);
        x.machine(0, 1, 1);
        x.machine(0, 1, 1);
        int[][] halves = {{-3, -1}, {-2, -1}, {-1, 0}, {0, 0}, {1, 0}, {2, 1}, {3, 1}, {MIN, MIN / 2}, {MAX, MAX / 2}};
        for (int[] h : halves) {
            DUE.is("half of " + h[0], x.voice(0, 0, h[0]), h[1] + 1);
            DUE.is(h[0] + " by 2", x.voice(0, 3, h[0]), h[1]);
            DUE.is(h[0] + " by 3 - 1", x.voice(1, 3, h[0]), h[1]);
            DUE.is(h[0] + " by 1 - 3", x.voice(3, 3, h[0]), -h[1]);
        }
        DUE.is("the least by -1", x.voice(2, 3, MIN), MIN);
        DUE.is("the greatest by -1", x.voice(2, 3, MAX), -MAX);
        DUE.is("less than one", x.voice(0, 3, 1), 0);
        DUE.is("less than one, below 0", x.voice(0, 3, -1), 0);
    }

    private static void partedIsAllItAnswers() {
        DUE.sentence("PARTED if that is 0; that is all that voice() answers then");
        int[][] begun = {{13}, {13}, {31, 13}, {13}, {31, 13}, {61, 41, 12, 11, 60, 11, 60, 13}};
        for (int kind = 0; kind < 6; kind++) {
            for (int n = 1; n < 12; n += 5) {
                PoliteHall x = Due.hallOf(n, 0);
                x.machine(kind, n, 1);
                for (int at : new int[] {MIN, -1, 0, 1, MAX}) {
                    DUE.is("voice(" + n + ", 3, " + at + ") of kind " + kind, x.voice(n, 3, at), Due.PARTED);
                    trace(x, begun[kind]);
                }
                DUE.is("told(6)", x.told(6), 5);
                for (int act = 0; act < 3; act++) {
                    DUE.is("other acts part nothing", x.voice(n, act, 7), due(kind, act, 7, n, n, 1));
                }
                DUE.is("told(6)", x.told(6), 5);
            }
        }
        PoliteHall y = new PoliteHall();
        y.machine(0, 1, 1);
        y.machine(0, 2, 1);
        DUE.is("by 1", y.voice(0, 3, 7) + y.voice(1, 3, 7), 14);
        DUE.is("told(6)", y.told(6), 0);
    }

    private static void trace(PoliteHall x, int... bodies) {
        DUE.is("bodies", x.count(6), bodies.length);
        for (int i = 0; i < bodies.length; i++) {
            DUE.is("body(" + i + ")", x.body(i), bodies[i]);
        }
        DUE.is("one behind the last", x.body(bodies.length), Due.NONE);
    }

    private static void tracesOfEachKind() {
        DUE.sentence("THE TRACE: the numbers of BODIES, as they began (what stands left is worked out first)");
        for (int kind = 0; kind < 6; kind++) {
            PoliteHall x = Due.hallOf(3, 5 - kind);
            x.machine(kind, 50, 5);
            for (int act = 0; act < 4; act++) {
                x.voice(3, act, 100);
                trace(x, BODIES[kind][act]);
            }
        }
    }

    private static void theLatest() {
        DUE.sentence("THE TRACE: of the latest voice() (PARTED, too)");
        PoliteHall x = new PoliteHall();
        x.machine(4, 1, 1);
        x.machine(2, 1, 1);
        DUE.is("none yet", x.count(6), 0);
        x.voice(0, 2, 1);
        trace(x, 51, 12, 50, 30, 11, 10, 30, 11, 10);
        x.voice(1, 3, 1);
        trace(x, 31, 13);
        x.voice(2, 3, 1);
        x.voice(0, 4, 1);
        trace(x, 31, 13);
        x.voice(0, 0, 1);
        trace(x, 10);
        x.machine(0, 1, 1);
        x.image();
        x.restore();
        trace(x, 10);
    }

    private static void machinesAndActs() {
        DUE.sentence("VOICES: 0 hums, 1 tries, 2 says, 3 ends. voice: BEYOND.");
        PoliteHall x = Due.hallOf(12, 0);
        DUE.is("machine -1", x.voice(-1, 0, 0), Due.BEYOND);
        DUE.is("machine 12", x.voice(12, 0, 0), Due.BEYOND);
        DUE.is("act -1", x.voice(0, -1, 0), Due.BEYOND);
        DUE.is("act 4", x.voice(0, 4, 0), Due.BEYOND);
        DUE.is("machine 0", x.voice(0, 0, 0), 5);
        DUE.is("machine 11", x.voice(11, 3, 6), -6);
        DUE.is("machine 10: PARTED", x.voice(10, 3, 6), Due.PARTED);
        DUE.is("machine 10, act 4", x.voice(10, 4, 6), Due.BEYOND);
        DUE.is("told(1)", x.told(1), 5);
        DUE.is("told(6)", x.told(6), 1);
    }

    private static void noneSuch() {
        DUE.sentence("body: NONE: there is none such");
        PoliteHall x = Due.hallOf(1, 0);
        DUE.is("body(0), no voice yet", x.body(0), Due.NONE);
        x.voice(0, 1, 0);
        DUE.is("body(-1)", x.body(-1), Due.NONE);
        DUE.is("body(0)", x.body(0), 11);
        DUE.is("body(1)", x.body(1), 10);
        DUE.is("body(2)", x.body(2), Due.NONE);
        DUE.is("body(30)", x.body(30), Due.NONE);
        DUE.is("body of the least", x.body(MIN), Due.NONE);
        DUE.is("body of the greatest", x.body(MAX), Due.NONE);
        DUE.is("told(2)", x.told(2), 6);
    }

    private static void looksLikeAnError() {
        DUE.sentence("an answer that is worked out is no ERROR");
        PoliteHall x = Due.hallOf(1, 0);
        for (int k = 1; k <= 6; k++) {
            DUE.is("voice", x.voice(0, 0, -1000000 - k - 5), -1000000 - k);
            DUE.is("told(" + k + ")", x.told(k), 0);
        }
    }
}
