/** The sentences of promises 32 to 35, and of part 6, that name an edge, one by one. */
public final class SheetEdgesTest {
    private static final Due DUE = new Due();
    private static final int MIN = Integer.MIN_VALUE;
    private static final int MAX = Integer.MAX_VALUE;

    public static void main(String[] args) {
        missingAtFirst();
        fourSheets();
        soManyBits();
        atMostTwentyFour();
        belowNought();
        allNought();
        numbersDoNotMatterIfMissing();
        suchNumbers();
        lowestBits();
        moveOfNone();
        moveAtTheEnds();
        asTheyAllWere();
        unlikeBits();
        twoByTwo();
        twelveTimesFrom();
        notNoughtIsWhole();
        tillOneIsRefused();
        DUE.end();
    }

    private static PoliteHall allTied() {
        return Due.tieAll(Due.hallOf(12, 0));
    }

    private static void missingAtFirst() {
        DUE.sentence("SHEETS 0 .. 3 are missing, as at first");
        PoliteHall x = new PoliteHall();
        for (int s = 0; s < 4; s++) {
            DUE.is("put", x.put(s, 0, 0), Due.NONE);
            DUE.is("move", x.move(s, 0, s, 0, 0), Due.NONE);
            DUE.is("says", x.says(s), Due.NONE);
        }
        for (int s = -1; s < 5; s += 5) {
            DUE.is("put, no such SHEET", x.put(s, 0, 0), Due.BEYOND);
            DUE.is("move, no such SHEET", x.move(s, 0, 0, 0, 0), Due.BEYOND);
            DUE.is("move, no such other SHEET", x.move(0, 0, s, 0, 0), Due.BEYOND);
            DUE.is("says, no such SHEET", x.says(s), Due.BEYOND);
            DUE.is("sheet, no such SHEET", x.sheet(s, 8, 0), Due.BEYOND);
        }
    }

    private static void fourSheets() {
        DUE.sentence("SHEETS 0 .. 3, each by itself");
        PoliteHall x = allTied();
        for (int s = 0; s < 4; s++) {
            x.sheet(s, 8, 2 + 2 * s);
            for (int i = 0; i <= s; i++) {
                x.put(s, 2 * i, 12 * s + i + (i < s ? 0 : 1));
            }
        }
        for (int s = 0; s < 4; s++) {
            int before = x.count(2);
            DUE.is("says(" + s + ")", x.says(s), s + 1);
            DUE.is("its first", x.sayingIs(before, 0), s);
            DUE.is("its last", x.sayingIs(x.count(2) - 1, 1), s + 1);
        }
        x.sheet(1, 0, 0);
        DUE.is("one is missing", x.says(1), Due.NONE);
        DUE.is("the one ahead is not", x.says(0), 1);
        DUE.is("the one behind is not", x.says(2), 3);
    }

    private static void soManyBits() {
        DUE.sentence("of so many bits (8, 16, 32; 0: it is missing)");
        PoliteHall x = new PoliteHall();
        for (int bits = -1; bits <= 65; bits++) {
            boolean is = bits == 0 || bits == 8 || bits == 16 || bits == 32;
            DUE.is("bits " + bits, x.sheet(3, bits, 1), is ? 1 : Due.BEYOND);
        }
        DUE.is("of the last ones that may be", x.put(3, 0, 1), 1);
        DUE.is("bits of the least", x.sheet(3, MIN, 1), Due.BEYOND);
        DUE.is("bits of the greatest", x.sheet(3, MAX, 1), Due.BEYOND);
    }

    private static void atMostTwentyFour() {
        DUE.sentence("at most 24 numbers");
        PoliteHall x = new PoliteHall();
        for (int bits = 8; bits <= 32; bits *= 2) {
            DUE.is("24", x.sheet(0, bits, 24), 1);
            DUE.is("its last", x.put(0, 23, 1), 1);
            DUE.is("one behind it", x.put(0, 24, 1), Due.BEYOND);
            DUE.is("25", x.sheet(0, bits, 25), Due.BEYOND);
            DUE.is("its last still", x.put(0, 23, 1), 1);
            DUE.is("0", x.sheet(0, bits, 0), 1);
            DUE.is("it has none", x.put(0, 0, 1), Due.BEYOND);
            DUE.is("1", x.sheet(0, bits, 1), 1);
            DUE.is("its only one", x.put(0, 0, 1), 1);
            DUE.is("one behind it", x.put(0, 1, 1), Due.BEYOND);
            DUE.is("the greatest n", x.sheet(0, bits, MAX), Due.BEYOND);
        }
    }

    private static void belowNought() {
        DUE.sentence("sheet: BEYOND. STATE: n is below 0 (ahead of BEYOND of n).");
        PoliteHall x = new PoliteHall();
        DUE.is("n -1", x.sheet(0, 8, -1), Due.STATE);
        DUE.is("n of the least", x.sheet(0, 32, MIN), Due.STATE);
        DUE.is("missing still", x.says(0), Due.NONE);
        DUE.is("no such SHEET, n -1", x.sheet(4, 8, -1), Due.BEYOND);
        DUE.is("no such bits, n -1", x.sheet(0, 7, -1), Due.BEYOND);
        DUE.is("no such bits, n 25", x.sheet(0, 7, 25), Due.BEYOND);
        DUE.is("told(3)", x.told(3), 2);
        DUE.is("told(1)", x.told(1), 3);
    }

    private static void allNought() {
        DUE.sentence("A SHEET has n numbers, all 0");
        PoliteHall x = allTied();
        x.sheet(0, 8, 24);
        for (int i = 0; i < 24; i++) {
            x.put(0, i, 1);
        }
        x.sheet(0, 8, 24);
        DUE.is("0 of itself", x.says(0), 0);
        for (int i = 0; i < 24; i += 2) {
            x.put(0, i, 1);
        }
        DUE.is("all come", x.says(0), 12);
        for (int i = 0; i < 12; i++) {
            DUE.is("whole of " + i, x.sayingIs(i, 2), 0);
        }
        x.sheet(0, 8, 2);
        x.sheet(0, 8, 24);
        x.put(0, 0, 1);
        DUE.is("none behind a shorter one", x.says(0), 1);
    }

    private static void numbersDoNotMatterIfMissing() {
        DUE.sentence("0: it is missing, n doesn't matter");
        PoliteHall x = new PoliteHall();
        for (int n : new int[] {0, 1, 24, 25, -1, MIN, MAX}) {
            x.sheet(2, 16, 3);
            DUE.is("n " + n, x.sheet(2, 0, n), 1);
            DUE.is("missing", x.put(2, 0, 1), Due.NONE);
            DUE.is("missing already", x.sheet(2, 0, n), 1);
        }
        DUE.is("told(1)", x.told(1), 0);
        DUE.is("told(3)", x.told(3), 0);
        DUE.is("no such SHEET", x.sheet(4, 0, 0), Due.BEYOND);
        DUE.is("no such SHEET", x.sheet(-1, 0, 0), Due.BEYOND);
    }

    private static void suchNumbers() {
        DUE.sentence("put: BEYOND: no such SHEET. NONE: it is missing. BEYOND: no such number.");
        PoliteHall x = new PoliteHall();
        x.sheet(1, 8, 3);
        DUE.is("number 0", x.put(1, 0, 1), 1);
        DUE.is("number 2", x.put(1, 2, 1), 1);
        DUE.is("number 3", x.put(1, 3, 1), Due.BEYOND);
        DUE.is("number -1", x.put(1, -1, 1), Due.BEYOND);
        DUE.is("the least", x.put(1, MIN, 1), Due.BEYOND);
        DUE.is("the greatest", x.put(1, MAX, 1), Due.BEYOND);
        DUE.is("no such SHEET", x.put(4, 0, 1), Due.BEYOND);
        DUE.is("no such SHEET", x.put(-1, -1, 1), Due.BEYOND);
        DUE.is("missing", x.put(0, 0, 1), Due.NONE);
        DUE.is("missing, no such number", x.put(0, -1, 1), Due.NONE);
        DUE.is("told(1)", x.told(1), 6);
        DUE.is("told(2)", x.told(2), 2);
    }

    /** The saying that a number of so many bits is: 100 times from, and to; -1: none. */
    private static int said(int bits, int v) {
        PoliteHall x = allTied();
        x.sheet(0, bits, 2);
        x.put(0, 0, v);
        return x.says(0) == 0 ? -1 : x.sayingIs(0, 0) * 100 + x.sayingIs(0, 1);
    }

    private static int whole(int bits, int v) {
        PoliteHall x = allTied();
        x.sheet(0, bits, 2);
        x.put(0, 0, 1);
        x.put(0, 1, v);
        x.says(0);
        return x.sayingIs(0, 2);
    }

    private static void lowestBits() {
        DUE.sentence("Number i of a SHEET becomes v (its lowest bits); with a sign");
        DUE.is("127 of 8", said(8, 127), 1007);
        DUE.is("128 of 8: below 0", said(8, 128), -1);
        DUE.is("142 of 8: below 0", said(8, 142), -1);
        DUE.is("142 of 16", said(16, 142), 1110);
        DUE.is("142 of 32", said(32, 142), 1110);
        DUE.is("255 of 8: -1", said(8, 255), -1);
        DUE.is("257 of 8: 1", said(8, 257), 1);
        DUE.is("257 of 16", said(16, 257), -1);
        DUE.is("-255 of 8: 1", said(8, -255), 1);
        DUE.is("-255 of 16", said(16, -255), -1);
        DUE.is("the least and 1 of 8: 1", said(8, MIN + 1), 1);
        DUE.is("65537 of 8: 1", said(8, 65537), 1);
        DUE.is("65537 of 16: 1", said(16, 65537), 1);
        DUE.is("65537 of 32", said(32, 65537), -1);
        DUE.is("-65535 of 16: 1", said(16, -65535), 1);
        DUE.is("the least and 1 of 16: 1", said(16, MIN + 1), 1);
        DUE.is("the least and 1 of 32", said(32, MIN + 1), -1);
        DUE.is("the greatest of 32", said(32, MAX), -1);
        DUE.is("the greatest of 8: -1", said(8, MAX), -1);
    }

    private static void moveOfNone() {
        DUE.sentence("move: they don't stand there (n 0, too)");
        PoliteHall x = new PoliteHall();
        x.sheet(0, 8, 3);
        x.sheet(1, 8, 5);
        x.sheet(2, 8, 0);
        DUE.is("none at the starts", x.move(0, 0, 1, 0, 0), 0);
        DUE.is("none at the ends", x.move(0, 3, 1, 5, 0), 0);
        DUE.is("none behind the end here", x.move(0, 4, 1, 0, 0), Due.BEYOND);
        DUE.is("none behind the end there", x.move(0, 0, 1, 6, 0), Due.BEYOND);
        DUE.is("none ahead of the start here", x.move(0, -1, 1, 0, 0), Due.BEYOND);
        DUE.is("none ahead of the start there", x.move(0, 0, 1, -1, 0), Due.BEYOND);
        DUE.is("none of none", x.move(2, 0, 2, 0, 0), 0);
        DUE.is("none of none, one on", x.move(2, 1, 2, 0, 0), Due.BEYOND);
        DUE.is("one of none", x.move(2, 0, 0, 0, 1), Due.BEYOND);
        DUE.is("one to none", x.move(0, 0, 2, 0, 1), Due.BEYOND);
        DUE.is("none from there on, far away", x.move(0, MAX, 1, 0, 0), Due.BEYOND);
        DUE.is("none to there on, far away", x.move(0, 0, 1, MAX, 0), Due.BEYOND);
        DUE.is("told(1)", x.told(1), 9);
    }

    private static void moveAtTheEnds() {
        DUE.sentence("move: BEYOND: n, i, or j is below 0, or they don't stand there");
        PoliteHall x = new PoliteHall();
        x.sheet(0, 16, 24);
        x.sheet(3, 16, 4);
        DUE.is("all of one", x.move(3, 0, 0, 20, 4), 4);
        DUE.is("one too far there", x.move(3, 0, 0, 21, 4), Due.BEYOND);
        DUE.is("one too far here", x.move(3, 1, 0, 0, 4), Due.BEYOND);
        DUE.is("one too many", x.move(3, 0, 0, 0, 5), Due.BEYOND);
        DUE.is("the last one", x.move(3, 3, 0, 23, 1), 1);
        DUE.is("all 24 to itself", x.move(0, 0, 0, 0, 24), 24);
        DUE.is("25 to itself", x.move(0, 0, 0, 0, 25), Due.BEYOND);
        DUE.is("23 one on", x.move(0, 0, 0, 1, 23), 23);
        DUE.is("24 one on", x.move(0, 0, 0, 1, 24), Due.BEYOND);
        DUE.is("n -1", x.move(0, 1, 3, 1, -1), Due.BEYOND);
        DUE.is("n of the least", x.move(0, 0, 3, 0, MIN), Due.BEYOND);
        DUE.is("i and n that wrap", x.move(0, MAX, 3, 0, 2), Due.BEYOND);
        DUE.is("j and n that wrap", x.move(0, 0, 3, MAX, 2), Due.BEYOND);
        DUE.is("i of the least", x.move(0, MIN, 3, 0, 1), Due.BEYOND);
        DUE.is("all of the greatest", x.move(0, MAX, 3, MAX, MAX), Due.BEYOND);
    }

    private static void fill(PoliteHall x, int sheet, int... numbers) {
        x.sheet(sheet, 8, numbers.length);
        for (int i = 0; i < numbers.length; i++) {
            x.put(sheet, i, numbers[i]);
        }
    }

    /** The numbers of a sheet at even places, as far as it says anything: ten times and the number of whom it is said. */
    private static long shown(PoliteHall x, int sheet) {
        int before = x.count(2);
        int came = x.says(sheet);
        long digits = 0;
        for (int i = 0; i < came; i++) {
            digits = digits * 10 + x.sayingIs(before + i, 1);
        }
        return digits;
    }

    private static void asTheyAllWere() {
        DUE.sentence("move: come to another one (or the same), as they all were");
        PoliteHall x = allTied();
        fill(x, 0, 1, 0, 2, 0, 3, 0, 4, 0, 5, 0);
        x.move(0, 0, 0, 2, 8);
        DUE.is("two on", shown(x, 0), 11234);
        fill(x, 0, 1, 0, 2, 0, 3, 0, 4, 0, 5, 0);
        x.move(0, 2, 0, 0, 8);
        DUE.is("two back", shown(x, 0), 23455);
        fill(x, 0, 1, 1, 2, 2, 3, 3, 4, 4, 5, 5);
        x.move(0, 0, 0, 1, 9);
        DUE.is("one on", shown(x, 0), 11234);
        fill(x, 0, 1, 1, 2, 2, 3, 3, 4, 4, 5, 5);
        x.move(0, 1, 0, 0, 9);
        DUE.is("one back", shown(x, 0), 12345);
        fill(x, 1, 6, 6, 7, 7);
        x.move(1, 0, 0, 6, 4);
        DUE.is("to another one", shown(x, 0), 12367);
        DUE.is("they stay where they were", shown(x, 1), 67);
    }

    private static void unlikeBits() {
        DUE.sentence("move: KIND: they are of unlike bits");
        PoliteHall x = new PoliteHall();
        int[] bits = {8, 16, 32};
        for (int a : bits) {
            for (int b : bits) {
                x.sheet(0, a, 2);
                x.sheet(1, b, 2);
                DUE.is(a + " to " + b, x.move(0, 0, 1, 0, 2), a == b ? 2 : Due.KIND);
                DUE.is(a + " to " + b + ", none", x.move(0, 0, 1, 0, 0), a == b ? 0 : Due.KIND);
                DUE.is(a + " to " + b + ", too many", x.move(0, 0, 1, 0, 3), a == b ? Due.BEYOND : Due.KIND);
            }
        }
        x.sheet(1, 0, 0);
        DUE.is("missing, of whatever bits", x.move(0, 0, 1, 0, 2), Due.NONE);
        DUE.is("told(5)", x.told(5), 18);
    }

    private static void twoByTwo() {
        DUE.sentence("two by two (a last one alone is left out)");
        for (int n = 0; n <= 24; n++) {
            PoliteHall x = Due.tieAll(Due.hallOf(2, 0));
            x.sheet(0, 8, n);
            for (int i = 0; i < n; i++) {
                x.put(0, i, 1);
            }
            DUE.is("numbers " + n, x.says(0), n / 2);
            DUE.is("sayings", x.count(2), n / 2);
        }
    }

    private static void twelveTimesFrom() {
        DUE.sentence("12 times from, and to");
        int[][] due = {{0, -1}, {1, 1}, {11, 11}, {12, 100}, {13, -1}, {23, 111}, {24, 200}, {131, 1011}, {132, 1100}, {142, 1110},
            {143, -1}, {144, -1}, {145, -1}, {-1, -1}, {-11, -1}, {-12, -1}, {-13, -1}, {-143, -1}, {32767, -1}, {-32768, -1}};
        for (int[] d : due) {
            DUE.is("the number " + d[0], said(16, d[0]), d[1]);
            DUE.is("the number " + d[0] + " of 32", said(32, d[0]), d[1]);
        }
    }

    private static void notNoughtIsWhole() {
        DUE.sentence("not 0: whole");
        DUE.is("0", whole(8, 0), 0);
        DUE.is("1", whole(8, 1), 1);
        DUE.is("-1", whole(8, -1), 1);
        DUE.is("128 of 8", whole(8, 128), 1);
        DUE.is("256 of 8 is 0", whole(8, 256), 0);
        DUE.is("256 of 16", whole(16, 256), 1);
        DUE.is("65536 of 16 is 0", whole(16, 65536), 0);
        DUE.is("the least of 16 is 0", whole(16, MIN), 0);
        DUE.is("the least of 32", whole(32, MIN), 1);
    }

    private static void tillOneIsRefused() {
        DUE.sentence("How many came, till one that say() would refuse (no ERROR then).");
        PoliteHall x = Due.hallOf(3, 0);
        x.tie(0, 1, 1);
        fill(x, 0, 1, 1, 12, 1, 1, 1);
        DUE.is("no TIE", x.says(0), 1);
        fill(x, 0, 1, 1, 1, 1, 0, 1, 1, 1);
        DUE.is("both are one", x.says(0), 2);
        fill(x, 0, 3, 1, 1, 1);
        DUE.is("a MACHINE that there is not", x.says(0), 0);
        DUE.is("sayings", x.count(2), 3);
        for (int i = 3; i < 58; i++) {
            x.say(0, 1, true);
        }
        fill(x, 0, 1, 1, 1, 1, 1, 1);
        DUE.is("no room", x.says(0), 2);
        DUE.is("sayings", x.count(2), 60);
        DUE.is("no room at all", x.says(0), 0);
        for (int k = 1; k <= 6; k++) {
            DUE.is("told(" + k + ")", x.told(k), 0);
        }
        PoliteHall none = new PoliteHall();
        none.sheet(0, 8, 4);
        DUE.is("no MACHINES", none.says(0), 0);
        DUE.is("told(1)", none.told(1), 0);
    }
}
