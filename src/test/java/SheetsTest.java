/** Promises 32 to 35: sheets; what they hold is seen by says(). */
public final class SheetsTest {
    private static final Due DUE = new Due();

    public static void main(String[] args) {
        sheet();
        allZero();
        put();
        bitsAndSigns();
        move();
        moveRefused();
        says();
        saysTillRefused();
        DUE.end();
    }

    private static void sheet() {
        PoliteHall x = new PoliteHall();
        DUE.is("sheet -1", x.sheet(-1, 8, 1), Due.BEYOND);
        DUE.is("sheet 4", x.sheet(4, 8, 1), Due.BEYOND);
        DUE.is("9 bits", x.sheet(0, 9, 1), Due.BEYOND);
        DUE.is("-8 bits", x.sheet(0, -8, 1), Due.BEYOND);
        DUE.is("64 bits, n below 0", x.sheet(0, 64, -1), Due.BEYOND);
        DUE.is("n below 0", x.sheet(0, 8, -1), Due.STATE);
        DUE.is("n 25", x.sheet(0, 8, 25), Due.BEYOND);
        DUE.is("missing still", x.put(0, 0, 1), Due.NONE);
        DUE.is("n 24", x.sheet(0, 8, 24), 1);
        DUE.is("its last number", x.put(0, 23, 1), 1);
        DUE.is("n 0", x.sheet(0, 16, 0), 1);
        DUE.is("no number in it", x.put(0, 0, 1), Due.BEYOND);
        DUE.is("it says nothing", x.says(0), 0);
        DUE.is("missing, n below 0", x.sheet(0, 0, -5), 1);
        DUE.is("missing, n beyond", x.sheet(0, 0, 99), 1);
        DUE.is("missing", x.says(0), Due.NONE);
        DUE.is("sheet 3", x.sheet(3, 32, 1), 1);
        DUE.is("sheet 3 put", x.put(3, 0, 1), 1);
    }

    private static void allZero() {
        PoliteHall x = Due.tieAll(Due.hallOf(2, 0));
        x.sheet(0, 8, 4);
        x.put(0, 0, 1);
        x.put(0, 1, 1);
        x.put(0, 2, 1);
        x.put(0, 3, 1);
        x.sheet(0, 8, 4);
        DUE.is("laid anew, 0 of itself", x.says(0), 0);
        x.put(0, 0, 1);
        DUE.is("one of them put", x.says(0), 1);
        DUE.is("the other one 0: broken", x.sayingIs(0, 2), 0);
        x.put(0, 2, 1);
        x.sheet(0, 0, 0);
        x.sheet(0, 8, 4);
        x.put(0, 0, 12);
        DUE.is("missing in between", x.says(0), 1);
        DUE.is("its sayer", x.sayingIs(1, 0), 1);
    }

    private static void put() {
        PoliteHall x = new PoliteHall();
        x.sheet(1, 8, 3);
        DUE.is("put", x.put(1, 2, 300), 1);
        DUE.is("no such sheet", x.put(4, 0, 1), Due.BEYOND);
        DUE.is("no such sheet", x.put(-1, 0, 1), Due.BEYOND);
        DUE.is("missing ahead of the number", x.put(0, -1, 1), Due.NONE);
        DUE.is("no such number", x.put(1, 3, 1), Due.BEYOND);
        DUE.is("no such number", x.put(1, -1, 1), Due.BEYOND);
    }

    /** Machines 0 and 1 that try each other: 1 is 0 of 1, 12 is 1 of 0. */
    private static PoliteHall two() {
        return Due.tieAll(Due.hallOf(2, 0));
    }

    private static int saysOne(int bits, int v, int how) {
        PoliteHall x = two();
        x.sheet(0, bits, 2);
        x.put(0, 0, v);
        x.put(0, 1, how);
        int came = x.says(0);
        return came == 0 ? -1 : x.sayingIs(0, 0) * 100 + x.sayingIs(0, 1) * 10 + x.sayingIs(0, 2);
    }

    private static void bitsAndSigns() {
        DUE.is("0 of 1", saysOne(8, 1, 0), 10);
        DUE.is("1 of 0", saysOne(8, 12, -1), 101);
        DUE.is("the lowest 8 bits", saysOne(8, 256 + 12, 256), 100);
        DUE.is("the lowest 8 bits, with a sign", saysOne(8, 255, 1), -1);
        DUE.is("8 bits, 128", saysOne(8, 128, 1), -1);
        DUE.is("16 bits, 256 + 12", saysOne(16, 256 + 12, 1), -1);
        DUE.is("the lowest 16 bits", saysOne(16, 65536 + 1, 65536), 10);
        DUE.is("16 bits, 256 is not 0", saysOne(16, 1, 256), 11);
        DUE.is("32 bits", saysOne(32, 65536 + 1, 1), -1);
        DUE.is("32 bits, 65536 is not 0", saysOne(32, 1, 65536), 11);
        DUE.is("-1", saysOne(32, -1, 1), -1);
        DUE.is("-11", saysOne(32, -11, 1), -1);
        DUE.is("-12", saysOne(32, -12, 1), -1);
        DUE.is("the least", saysOne(32, Integer.MIN_VALUE, 1), -1);
        DUE.is("one of itself", saysOne(32, 0, 1), -1);
    }

    /** Shows a sheet of pairs (1 or 12, how) as the sayings that come: a digit each, 1 0of1 whole, 2 broken, 3 1of0 whole, 4 broken. */
    private static long shown(PoliteHall x, int sheet) {
        int before = x.count(2);
        int came = x.says(sheet);
        long digits = 0;
        for (int i = 0; i < came; i++) {
            int digit = x.sayingIs(before + i, 0) * 2 + 2 - x.sayingIs(before + i, 2);
            digits = digits * 10 + digit;
        }
        return digits;
    }

    private static void fill(PoliteHall x, int sheet, int... numbers) {
        x.sheet(sheet, 16, numbers.length);
        for (int i = 0; i < numbers.length; i++) {
            x.put(sheet, i, numbers[i]);
        }
    }

    private static void move() {
        PoliteHall x = two();
        fill(x, 0, 1, 1, 1, 0, 12, 1, 12, 0);
        DUE.is("as filled", shown(x, 0), 1234);
        DUE.is("up within itself", x.move(0, 0, 0, 2, 6), 6);
        DUE.is("as they all were", shown(x, 0), 1123);
        fill(x, 0, 1, 1, 1, 0, 12, 1, 12, 0);
        DUE.is("down within itself", x.move(0, 2, 0, 0, 6), 6);
        DUE.is("as they all were", shown(x, 0), 2344);
        x.sheet(2, 16, 4);
        DUE.is("to another one", x.move(0, 2, 2, 0, 4), 4);
        DUE.is("there", shown(x, 2), 34);
        DUE.is("here still", shown(x, 0), 2344);
        DUE.is("none at the end", x.move(0, 8, 2, 4, 0), 0);
        DUE.is("onto itself", x.move(0, 0, 0, 0, 8), 8);
        DUE.is("the same", shown(x, 0), 2344);
    }

    private static void moveRefused() {
        PoliteHall x = two();
        fill(x, 0, 1, 2, 3, 4);
        fill(x, 1, 1, 2);
        x.sheet(2, 8, 4);
        DUE.is("no such sheet", x.move(-1, 0, 0, 0, 1), Due.BEYOND);
        DUE.is("no such other", x.move(3, 0, 4, 0, 1), Due.BEYOND);
        DUE.is("missing", x.move(3, 0, 0, 0, 1), Due.NONE);
        DUE.is("other missing, ahead of numbers", x.move(0, -1, 3, 0, 1), Due.NONE);
        DUE.is("unlike bits, ahead of numbers", x.move(0, 0, 2, 0, -1), Due.KIND);
        DUE.is("n below 0", x.move(0, 0, 1, 0, -1), Due.BEYOND);
        DUE.is("i below 0", x.move(0, -1, 1, 0, 1), Due.BEYOND);
        DUE.is("j below 0", x.move(0, 0, 1, -1, 1), Due.BEYOND);
        DUE.is("too many here", x.move(1, 1, 0, 0, 2), Due.BEYOND);
        DUE.is("too many there", x.move(0, 0, 1, 1, 2), Due.BEYOND);
        DUE.is("n 0, i beyond", x.move(0, 5, 1, 0, 0), Due.BEYOND);
        DUE.is("n 0, j beyond", x.move(0, 0, 1, 3, 0), Due.BEYOND);
        DUE.is("sums that wrap", x.move(0, Integer.MAX_VALUE, 1, 0, Integer.MAX_VALUE), Due.BEYOND);
        DUE.is("sums that wrap", x.move(0, 1, 1, 0, Integer.MAX_VALUE), Due.BEYOND);
        DUE.is("all are there", x.move(1, 0, 0, 2, 2), 2);
    }

    private static void says() {
        PoliteHall x = two();
        DUE.is("no such sheet", x.says(4), Due.BEYOND);
        DUE.is("no such sheet", x.says(-1), Due.BEYOND);
        DUE.is("missing", x.says(0), Due.NONE);
        fill(x, 0, 1, 1, 12, 0, 1);
        DUE.is("a last one alone is left out", x.says(0), 2);
        DUE.is("sayings", x.count(2), 2);
        DUE.is("the second: from", x.sayingIs(1, 0), 1);
        DUE.is("the second: to", x.sayingIs(1, 1), 0);
        DUE.is("the second: how", x.sayingIs(1, 2), 0);
        DUE.is("they count", x.bars(0), 1);
        fill(x, 1, 1);
        DUE.is("one number", x.says(1), 0);
    }

    private static void saysTillRefused() {
        PoliteHall x = two();
        fill(x, 0, 1, 1, 13, 1, 12, 1);
        DUE.is("till one of itself", x.says(0), 1);
        fill(x, 0, 1, 1, 12, 1, 2, 1, 1, 1);
        DUE.is("till one that there is not", x.says(0), 2);
        DUE.is("no ERROR", x.told(1) + x.told(3) + x.told(4), 0);
        for (int i = 0; i < 56; i++) {
            x.say(0, 1, true);
        }
        fill(x, 0, 1, 1, 12, 1);
        DUE.is("till it is full", x.says(0), 1);
        DUE.is("till it is full", x.says(0), 0);
        DUE.is("sayings", x.count(2), 60);
        DUE.is("no ERROR", x.told(4), 0);
    }
}
