import java.util.function.Supplier;
import java.util.function.ToLongFunction;

/**
 * Each ERROR of each act, in the order in which they are asked: "one that answers an ERROR changes nothing but what
 * told() tells, or where told". Each is asked of a hall that has a twin, of which it is not asked; both must look alike then.
 */
public final class RefusalsTest {
    private static final Due DUE = new Due();
    private static final int MIN = Integer.MIN_VALUE;
    private static final int MAX = Integer.MAX_VALUE;

    public static void main(String[] args) {
        machines();
        tiesAndSayings();
        tape();
        sets();
        whatTiesTell();
        trials();
        worstAndMend();
        voices();
        sheetsLaid();
        sheetsMoved();
        images();
        DUE.end();
    }

    // Halls to ask.

    private static PoliteHall empty() {
        return new PoliteHall();
    }

    /** Something of all: machines of many kinds, sayings of which one is unsaid, a text, numbers, sheets, a trace, an image. */
    private static PoliteHall livedIn() {
        PoliteHall x = new PoliteHall();
        x.machine(0, 10, 1);
        x.machine(1, 20, 2);
        x.machine(4, 2, 3);
        x.machine(3, 40, 4);
        int[][] ties = {{0, 1, 5}, {1, 2, 6}, {2, 3, 7}, {3, 0, 8}, {0, 2, 9}};
        for (int[] t : ties) {
            x.tie(t[0], t[1], t[2]);
        }
        x.say(0, 1, true);
        x.say(1, 2, true);
        x.say(2, 3, true);
        x.say(0, 2, false);
        x.unsay(3);
        x.most(3);
        x.sheet(0, 8, 6);
        int[] numbers = {1, 1, 14, 0, 27, 5};
        for (int i = 0; i < numbers.length; i++) {
            x.put(0, i, numbers[i]);
        }
        x.sheet(1, 16, 3);
        x.sheet(3, 8, 4);
        Due.feed(x, "tie 1 0 9;most 2");
        x.tell(x.which(0));
        x.tell(x.which(1));
        x.image();
        x.say(3, 0, true);
        x.tell(77);
        x.voice(1, 2, 7);
        return x;
    }

    /** No room for anything more: machines, sayings, bytes, numbers that wait. */
    private static PoliteHall crowded() {
        PoliteHall x = Due.hallOf(12, 0);
        x.tie(0, 1, 1);
        x.tie(11, 0, 2);
        for (int i = 0; i < 60; i++) {
            x.say(0, 1, true);
        }
        x.unsay(59);
        Due.feed(x, "most 10;most 9 ;most  8", 80);
        for (int i = 0; i < 48; i++) {
            x.tell(1 << i % 12);
        }
        return x;
    }

    private static PoliteHall noneFits() {
        PoliteHall x = livedIn();
        x.tie(0, 3, 1);
        x.say(0, 3, false);
        x.most(0);
        return x;
    }

    /** Of 8 machines; one more than the ties of which rounds() may be asked. */
    private static PoliteHall ties25() {
        PoliteHall x = Due.ring(8, 3);
        x.tie(0, 4, 1);
        return x;
    }

    /** One more than the ties that may be tried by broken ones. */
    private static PoliteHall ties9() {
        PoliteHall x = Due.hallOf(10, 0);
        for (int to = 1; to < 10; to++) {
            x.tie(0, to, 1);
        }
        return x;
    }

    private static void refused(String sentence, Supplier<PoliteHall> hall, ToLongFunction<PoliteHall> act, int error) {
        DUE.sentence(sentence);
        PoliteHall x = hall.get();
        PoliteHall twin = hall.get();
        DUE.is("the act", act.applyAsLong(x), error);
        compareTold(x, twin, error);
        DUE.same("all else", Seen.all(x), Seen.all(twin));
    }

    private static void compareTold(PoliteHall x, PoliteHall twin, int error) {
        for (int k = 1; k <= 6; k++) {
            DUE.is("told(" + k + ")", x.told(k), twin.told(k) + (k == -1000000 - error ? 1 : 0));
        }
    }

    private static void beyond(String act, ToLongFunction<PoliteHall> call) {
        refused(act + ": BEYOND", RefusalsTest::livedIn, call, Due.BEYOND);
    }

    // Promises 2 to 9.

    private static void machines() {
        int[][] outside = {{-1, 1, 1}, {6, 1, 1}, {MIN, 1, 1}, {MAX, 1, 1}, {0, 0, 1}, {0, 100, 1}, {0, MIN, 1}, {0, MAX, 1},
            {0, 1, 0}, {0, 1, 10}, {0, 1, MIN}, {0, 1, MAX}, {-1, 0, 0}};
        for (int[] o : outside) {
            beyond("machine", x -> x.machine(o[0], o[1], o[2]));
            refused("machine: BEYOND, then FULL", RefusalsTest::crowded, x -> x.machine(o[0], o[1], o[2]), Due.BEYOND);
        }
        refused("machine: FULL", RefusalsTest::crowded, x -> x.machine(0, 1, 1), Due.FULL);
        refused("machine: FULL", RefusalsTest::crowded, x -> x.machine(5, 99, 9), Due.FULL);
        for (int m : new int[] {-1, 4, 11, 12, 32, MIN, MAX}) {
            beyond("machineIs", x -> x.machineIs(m, 0));
            beyond("as", x -> x.as(m, 0));
            beyond("as, KIND behind it", x -> x.as(m, 5));
            beyond("leads", x -> x.leads(m));
            beyond("mended", x -> x.mended(m));
        }
        for (int what : new int[] {-1, 6, MIN, MAX}) {
            beyond("machineIs", x -> x.machineIs(0, what));
            beyond("as, a kind that there is not", x -> x.as(0, what));
        }
        refused("machineIs of none: BEYOND", RefusalsTest::empty, x -> x.machineIs(0, 0), Due.BEYOND);
        refused("as of none: BEYOND", RefusalsTest::empty, x -> x.as(0, 0), Due.BEYOND);
        refused("leads of none: BEYOND", RefusalsTest::empty, x -> x.leads(0), Due.BEYOND);
        refused("mended of none: BEYOND", RefusalsTest::empty, x -> x.mended(0), Due.BEYOND);
        refused("as: KIND, one above", RefusalsTest::livedIn, x -> x.as(0, 1), Due.KIND);
        refused("as: KIND, one beside", RefusalsTest::livedIn, x -> x.as(1, 2), Due.KIND);
        refused("as: KIND, one under", RefusalsTest::livedIn, x -> x.as(3, 5), Due.KIND);
        refused("as: KIND, one beside that above", RefusalsTest::livedIn, x -> x.as(2, 3), Due.KIND);
        for (int v : new int[] {-1, 13, MIN, MAX}) {
            beyond("most", x -> x.most(v));
        }
    }

    private static void tiesAndSayings() {
        for (int m : new int[] {-1, 4, 12, MIN, MAX}) {
            beyond("tie, from", x -> x.tie(m, 0, 1));
            beyond("tie, to", x -> x.tie(0, m, 1));
            beyond("tie, STATE behind it", x -> x.tie(m, m, 1));
            beyond("say, from", x -> x.say(m, 0, true));
            beyond("say, to", x -> x.say(0, m, false));
            beyond("say, STATE behind it", x -> x.say(m, m, true));
            beyond("without, from", x -> x.without(m, 0));
            beyond("without, to", x -> x.without(0, m));
            beyond("without, STATE behind it", x -> x.without(m, m));
        }
        for (int cost : new int[] {-1, 100, MIN, MAX}) {
            beyond("tie, COST", x -> x.tie(0, 1, cost));
            beyond("tie, COST, STATE behind it", x -> x.tie(1, 1, cost));
        }
        for (int cost : new int[] {0, 1, 99}) {
            refused("tie: STATE: both are one", RefusalsTest::livedIn, x -> x.tie(2, 2, cost), Due.STATE);
        }
        refused("say: STATE: both are one", RefusalsTest::livedIn, x -> x.say(0, 0, true), Due.STATE);
        refused("say: STATE: there is no TIE", RefusalsTest::livedIn, x -> x.say(1, 0, true), Due.STATE);
        refused("say: BEYOND, then STATE, FULL", RefusalsTest::crowded, x -> x.say(12, 12, true), Due.BEYOND);
        refused("say: STATE, then FULL: both are one", RefusalsTest::crowded, x -> x.say(0, 0, true), Due.STATE);
        refused("say: STATE, then FULL: no TIE", RefusalsTest::crowded, x -> x.say(1, 0, true), Due.STATE);
        refused("say: FULL", RefusalsTest::crowded, x -> x.say(0, 1, true), Due.FULL);
        refused("say: FULL", RefusalsTest::crowded, x -> x.say(11, 0, false), Due.FULL);
        for (int i : new int[] {-1, 5, 59, 60, 64, MIN, MAX}) {
            beyond("sayingIs", x -> x.sayingIs(i, 0));
            beyond("unsay", x -> x.unsay(i));
        }
        refused("unsay: BEYOND", RefusalsTest::crowded, x -> x.unsay(60), Due.BEYOND);
        refused("sayingIs: BEYOND", RefusalsTest::crowded, x -> x.sayingIs(60, 0), Due.BEYOND);
        for (int what : new int[] {-1, 4, MIN, MAX}) {
            beyond("sayingIs", x -> x.sayingIs(0, what));
        }
        refused("unsay: STATE: it is", RefusalsTest::livedIn, x -> x.unsay(3), Due.STATE);
        refused("unsay: STATE: it is", RefusalsTest::crowded, x -> x.unsay(59), Due.STATE);
        refused("without: STATE: there is none such", RefusalsTest::livedIn, x -> x.without(1, 0), Due.STATE);
        refused("without: STATE: there is none such", RefusalsTest::livedIn, x -> x.without(1, 1), Due.STATE);
    }

    // Promises 10 and 11.

    private static void tape() {
        for (int n : new int[] {-1, 0, 9, MIN, MAX}) {
            beyond("feed", x -> x.feed(-1L, n));
            refused("feed: BEYOND, then FULL", RefusalsTest::crowded, x -> x.feed(0, n), Due.BEYOND);
        }
        refused("feed: FULL", RefusalsTest::crowded, x -> x.feed(-1L, 1), Due.FULL);
        refused("feed: FULL", RefusalsTest::crowded, x -> x.feed(-1L, 8), Due.FULL);
        refused("feed: FULL: no byte of it comes", RefusalsTest::roomForThree, x -> x.feed(0x20202020L, 4), Due.FULL);
    }

    private static PoliteHall roomForThree() {
        PoliteHall x = Due.hallOf(1, 0);
        Due.feed(x, "most 7", 77);
        return x;
    }

    // Promises 12 to 18.

    private static void sets() {
        for (int set : new int[] {16, 17, 4096, -1, -16, MIN, MAX}) {
            beyond("fits", x -> x.fits(set));
            beyond("bars, 100 behind it", x -> x.bars(set));
            beyond("worst", x -> x.worst(set, 0));
        }
        for (int i : new int[] {-1, MIN, MAX, 16}) {
            beyond("which", x -> x.which(i));
        }
        refused("which: BEYOND, one behind the last", RefusalsTest::livedIn, x -> x.which(x.many()), Due.BEYOND);
        refused("which: BEYOND, none FITS", RefusalsTest::noneFits, x -> x.which(0), Due.BEYOND);
        refused("which: BEYOND, the empty SET alone FITS", RefusalsTest::empty, x -> x.which(1), Due.BEYOND);
        for (int what : new int[] {-1, 2, MIN, MAX}) {
            beyond("sure", x -> x.sure(what));
            refused("sure: BEYOND, then NONE", RefusalsTest::noneFits, x -> x.sure(what), Due.BEYOND);
            beyond("blame", x -> x.blame(what));
            beyond("pair", x -> x.pair(what));
            refused("pair: BEYOND, then NONE", RefusalsTest::empty, x -> x.pair(what), Due.BEYOND);
            beyond("next", x -> x.next(what));
            refused("next: BEYOND, then NONE", RefusalsTest::empty, x -> x.next(what), Due.BEYOND);
            beyond("chance", x -> x.chance(0, what));
            refused("chance: BEYOND, then NONE", RefusalsTest::noneFits, x -> x.chance(0, what), Due.BEYOND);
            beyond("worst", x -> x.worst(0, what));
            refused("worst: BEYOND, then FULL", RefusalsTest::ties9, x -> x.worst(1, what), Due.BEYOND);
        }
        refused("sure: NONE: none FITS", RefusalsTest::noneFits, x -> x.sure(0), Due.NONE);
        refused("sure: NONE: none FITS", RefusalsTest::noneFits, x -> x.sure(1), Due.NONE);
        refused("fits of none: BEYOND", RefusalsTest::empty, x -> x.fits(1), Due.BEYOND);
        refused("bars of none: BEYOND", RefusalsTest::empty, x -> x.bars(1), Due.BEYOND);
    }

    // Promises 19 to 22.

    private static void whatTiesTell() {
        refused("pair: NONE: KNOWN is 12", RefusalsTest::empty, x -> x.pair(0), Due.NONE);
        refused("pair: NONE: KNOWN is 12", RefusalsTest::empty, x -> x.pair(1), Due.NONE);
        refused("more: NONE: all are there", RefusalsTest::empty, PoliteHall::more, Due.NONE);
        refused("more: NONE: all are there", () -> Due.hallOf(1, 0), PoliteHall::more, Due.NONE);
        refused("more: NONE: all are there", () -> Due.ring(2, 1), PoliteHall::more, Due.NONE);
        refused("more: NONE: all are there", () -> Due.ring(5, 4), PoliteHall::more, Due.NONE);
        refused("without: BEYOND, of none", RefusalsTest::empty, x -> x.without(0, 0), Due.BEYOND);
    }

    // Promises 23 to 26.

    private static void trials() {
        refused("next: NONE: there is no TIE", RefusalsTest::empty, x -> x.next(0), Due.NONE);
        refused("next: NONE: there is no TIE", () -> Due.hallOf(3, 0), x -> x.next(1), Due.NONE);
        refused("rounds: FULL: more than 8 MACHINES", () -> Due.hallOf(9, 0), PoliteHall::rounds, Due.FULL);
        refused("rounds: FULL: more than 24 TIES", RefusalsTest::ties25, PoliteHall::rounds, Due.FULL);
        refused("rounds: NONE: 2 don't do", () -> Due.hallOf(1, 0), PoliteHall::rounds, Due.NONE);
        refused("rounds: NONE: 2 don't do", () -> Due.ring(8, 3), PoliteHall::rounds, Due.NONE);
        refused("likely: NONE", RefusalsTest::noneFits, PoliteHall::likely, Due.NONE);
        for (int m : new int[] {-1, 4, 12, MIN, MAX}) {
            beyond("chance", x -> x.chance(m, 0));
            refused("chance: BEYOND, then NONE", RefusalsTest::noneFits, x -> x.chance(m, 1), Due.BEYOND);
        }
        refused("chance of none: BEYOND", RefusalsTest::empty, x -> x.chance(0, 0), Due.BEYOND);
        refused("chance: NONE: none FITS", RefusalsTest::noneFits, x -> x.chance(0, 0), Due.NONE);
        refused("chance: NONE: none FITS", RefusalsTest::noneFits, x -> x.chance(3, 1), Due.NONE);
    }

    // Promises 27 and 28.

    private static void worstAndMend() {
        refused("worst: FULL: more than 8 TIES", RefusalsTest::ties9, x -> x.worst(1, 0), Due.FULL);
        refused("worst: FULL: more than 8 TIES", RefusalsTest::ties9, x -> x.worst(1023, 1), Due.FULL);
        refused("worst: BEYOND, then FULL", RefusalsTest::ties9, x -> x.worst(1025, 0), Due.BEYOND);
        for (int coins : new int[] {-1, 10000, MIN, MAX}) {
            beyond("mend: coins (0 .. 9999)", x -> x.mend(coins));
        }
    }

    // Promises 30 and 31.

    private static void voices() {
        for (int m : new int[] {-1, 4, 12, MIN, MAX}) {
            beyond("voice, the machine", x -> x.voice(m, 0, 1));
        }
        for (int act : new int[] {-1, 4, MIN, MAX}) {
            beyond("voice, the act", x -> x.voice(0, act, 1));
            beyond("voice, the act, PARTED behind it", x -> x.voice(2, act, 1));
        }
        for (int i : new int[] {-1, 5, 29, 30, 31, MIN, MAX}) {
            refused("body: NONE: there is none such", RefusalsTest::livedIn, x -> x.body(i), Due.NONE);
        }
        refused("body: NONE: there is none such", RefusalsTest::empty, x -> x.body(0), Due.NONE);
        DUE.sentence("voice: PARTED changes THE TRACE, and nothing else");
        PoliteHall x = livedIn();
        PoliteHall twin = livedIn();
        DUE.is("voice", x.voice(2, 3, 7), Due.PARTED);
        compareTold(x, twin, Due.PARTED);
        DUE.is("bodies", x.count(6), 2);
        DUE.is("bodies of the twin", twin.count(6), 5);
        DUE.same("all else", Seen.allButTrace(x), Seen.allButTrace(twin));
    }

    // Promises 32 to 35; of the hall's sheets 0 and 3 have 8 bits, 1 has 16, 2 is missing.

    private static void sheetsLaid() {
        for (int s : new int[] {-1, 4, MIN, MAX}) {
            beyond("sheet", x -> x.sheet(s, 8, 1));
            beyond("sheet, though it would be missing", x -> x.sheet(s, 0, 1));
            beyond("sheet, STATE behind it", x -> x.sheet(s, 8, -1));
            beyond("put: no such SHEET", x -> x.put(s, 0, 1));
            beyond("says", x -> x.says(s));
        }
        for (int bits : new int[] {-8, -1, 1, 7, 9, 15, 17, 24, 31, 33, 64, MIN, MAX}) {
            beyond("sheet, bits", x -> x.sheet(0, bits, 1));
            beyond("sheet, bits, STATE behind it", x -> x.sheet(0, bits, -1));
        }
        for (int bits : new int[] {8, 16, 32}) {
            beyond("sheet, n", x -> x.sheet(0, bits, 25));
            beyond("sheet, n", x -> x.sheet(2, bits, MAX));
            refused("sheet: STATE: n is below 0", RefusalsTest::livedIn, x -> x.sheet(0, bits, -1), Due.STATE);
            refused("sheet: STATE: n is below 0", RefusalsTest::livedIn, x -> x.sheet(2, bits, MIN), Due.STATE);
        }
        refused("put: NONE: it is missing", RefusalsTest::livedIn, x -> x.put(2, 0, 1), Due.NONE);
        refused("put: NONE, then BEYOND: no such number", RefusalsTest::livedIn, x -> x.put(2, -1, 1), Due.NONE);
        refused("put: NONE, then BEYOND: no such number", RefusalsTest::livedIn, x -> x.put(2, 24, 1), Due.NONE);
        for (int i : new int[] {-1, 6, 23, 24, MIN, MAX}) {
            beyond("put: no such number", x -> x.put(0, i, 13));
        }
        refused("says: NONE", RefusalsTest::livedIn, x -> x.says(2), Due.NONE);
    }

    private static void sheetsMoved() {
        for (int s : new int[] {-1, 4, MIN, MAX}) {
            beyond("move: no such SHEET", x -> x.move(s, 0, 0, 0, 1));
            beyond("move: no such SHEET", x -> x.move(0, 0, s, 0, 1));
            beyond("move: no such SHEET, NONE behind it", x -> x.move(2, 0, s, 0, 1));
            beyond("move: no such SHEET, NONE behind it", x -> x.move(s, 0, 2, 0, 1));
        }
        int[][] missing = {{2, 0, 0, 0, 1}, {0, 0, 2, 0, 1}, {2, 0, 2, 0, 0}, {2, -1, 0, 0, 1}, {0, 0, 2, 0, -1}, {1, 9, 2, 9, 9}};
        for (int[] a : missing) {
            refused("move: NONE, then KIND, BEYOND", RefusalsTest::livedIn, x -> x.move(a[0], a[1], a[2], a[3], a[4]), Due.NONE);
        }
        int[][] unlike = {{0, 0, 1, 0, 1}, {1, 0, 0, 0, 0}, {0, -1, 1, 0, 1}, {0, 0, 1, -1, 1}, {0, 0, 1, 0, -1}, {0, 7, 1, 4, 9}};
        for (int[] a : unlike) {
            refused("move: KIND, then BEYOND", RefusalsTest::livedIn, x -> x.move(a[0], a[1], a[2], a[3], a[4]), Due.KIND);
        }
        int[][] outside = {{0, 0, 3, 0, -1}, {0, -1, 3, 0, 1}, {0, 0, 3, -1, 1}, {0, -1, 3, 0, 0}, {0, 0, 3, -1, 0},
            {0, 6, 3, 0, 1}, {0, 5, 3, 0, 2}, {0, 0, 0, 0, 7}, {0, 0, 3, 4, 1}, {0, 0, 3, 3, 2}, {0, 0, 3, 0, 5}, {0, 7, 3, 0, 0},
            {0, 0, 3, 5, 0}, {0, MAX, 3, 0, 1}, {0, 0, 3, MAX, 1}, {0, 1, 3, 1, MAX}, {0, MAX, 3, MAX, MAX}, {0, 0, 3, 0, MIN},
            {0, MIN, 3, 0, 1}, {0, 0, 3, MIN, 1}, {0, MIN, 3, 0, MIN}, {0, 2, 3, 2, MAX - 1}};
        for (int[] a : outside) {
            beyond("move", x -> x.move(a[0], a[1], a[2], a[3], a[4]));
        }
    }

    // Promises 36 to 41.

    private static void images() {
        refused("restore: NONE: there is none", RefusalsTest::empty, PoliteHall::restore, Due.NONE);
        refused("restore: NONE: there is none", RefusalsTest::crowded, PoliteHall::restore, Due.NONE);
        for (int v : new int[] {0, 1, MIN, MAX}) {
            refused("tell: FULL: 48 wait", RefusalsTest::crowded, x -> x.tell(v), Due.FULL);
        }
        for (int what : new int[] {-1, 8, MIN, MAX}) {
            beyond("count", x -> x.count(what));
        }
        for (int k : new int[] {0, -1, 7, MIN, MAX, Due.BEYOND, Due.PARTED}) {
            beyond("told: another k (counted, too)", x -> x.told(k));
        }
    }
}
