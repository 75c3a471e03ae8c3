/** Promises 36 to 41: images, what is told, counts. */
public final class ImagesTest {
    private static final Due DUE = new Due();

    public static void main(String[] args) {
        image();
        likeNumbersOfOthers();
        othersInTheirPlaces();
        imageStays();
        whatAnImageHasNot();
        tell();
        check();
        count();
        told();
        DUE.end();
    }

    private static void image() {
        PoliteHall x = Due.hallOf(2, 1);
        DUE.is("restore, no image", x.restore(), Due.NONE);
        x.tie(0, 1, 7);
        x.say(0, 1, false);
        x.most(5);
        Due.feed(x, "most 3");
        x.tell(2);
        DUE.is("image", x.image(), 1);
        DUE.is("many by then", x.many(), 1);
        x.machine(0, 1, 1);
        x.tie(0, 1, 0);
        x.tie(1, 0, 9);
        x.unsay(0);
        x.say(1, 0, true);
        x.most(1);
        x.text();
        x.tell(7);
        DUE.is("restore", x.restore(), 2);
        DUE.is("ties", x.count(1), 1);
        DUE.is("costs", x.count(7), 7);
        DUE.is("whom 0 can try", x.machineIs(0, 3), 2);
        DUE.is("whom 1 can try", x.machineIs(1, 3), 0);
        DUE.is("sayings", x.count(2), 1);
        DUE.is("it counts", x.sayingIs(0, 3), 1);
        DUE.is("it said", x.sayingIs(0, 2), 0);
        DUE.is("many", x.many(), 1);
        DUE.is("the tape", x.count(4), 6);
        DUE.is("the text", x.text(), 1);
        DUE.is("most 3", x.most(5), 3);
        DUE.is("waiting", x.count(5), 1);
        DUE.is("its number", x.check(), 0);
    }

    /** As many of all as there were, but others: an image must have what they are, not how many. */
    private static void likeNumbersOfOthers() {
        PoliteHall x = new PoliteHall();
        x.machine(1, 11, 1);
        x.machine(0, 22, 2);
        Due.tieAll(x);
        x.say(0, 1, false);
        x.tell(2);
        Due.feed(x, "most 3");
        x.image();
        x.unsay(0);
        x.restore();
        DUE.is("many at once", x.many(), 1);
        for (int i = 0; i < 3; i++) {
            x.say(1, 0, true);
            x.tell(-7);
        }
        x.check();
        x.tell(-9);
        x.text();
        Due.feed(x, "xxxxxx");
        DUE.is("restore", x.restore(), 2);
        DUE.is("who said it", x.sayingIs(0, 0), 0);
        DUE.is("of whom", x.sayingIs(0, 1), 1);
        DUE.is("prices", x.machineIs(0, 1) * 100 + x.machineIs(1, 1), 1122);
        DUE.is("chances", x.machineIs(0, 2) * 100 + x.machineIs(1, 2), 102);
        DUE.is("kinds", x.machineIs(0, 0) * 100 + x.machineIs(1, 0), 100);
        DUE.is("the number that waits", x.check(), 0);
        DUE.is("the text", x.text(), 1);
        DUE.is("most", x.most(12), 3);
    }

    /** An image of few, then other ones in their places: all rows come back. */
    private static void othersInTheirPlaces() {
        PoliteHall x = new PoliteHall();
        x.image();
        x.machine(1, 11, 1);
        x.machine(5, 22, 2);
        x.machine(0, 33, 3);
        Due.tieAll(x);
        x.say(0, 1, false);
        x.tell(2);
        x.feed('a', 1);
        x.image();
        Due.text(x, "most 0");
        PoliteHall y = new PoliteHall();
        x.restore();
        x.text();
        DUE.is("sayings of three", x.machineIs(0, 4) + x.machineIs(1, 5), 2);
        DUE.is("an object has its own image", y.restore(), Due.NONE);
        x.machine(0, 1, 1);
        x.tie(3, 2, 1);
        x.say(3, 2, false);
        x.say(2, 0, true);
        x.restore();
        x.machine(3, 44, 4);
        x.tie(3, 1, 1);
        DUE.is("the next saying", x.say(3, 1, true), 1);
        DUE.is("its sayer", x.sayingIs(1, 0), 3);
        DUE.is("its subject", x.sayingIs(1, 1), 1);
        DUE.is("whom 3 can try", x.machineIs(3, 3), 2);
    }

    private static void imageStays() {
        PoliteHall x = Due.hallOf(1, 0);
        x.image();
        x.machine(0, 1, 1);
        DUE.is("restore", x.restore(), 1);
        x.machine(3, 55, 1);
        x.machine(0, 1, 1);
        DUE.is("the image is no other than it was", x.restore(), 1);
        x.machine(0, 1, 1);
        DUE.is("in place of one ahead", x.image(), 2);
        x.machine(0, 1, 1);
        DUE.is("restore", x.restore(), 2);
        DUE.is("how often stays as it is", x.image(), 3);
        PoliteHall empty = new PoliteHall();
        empty.image();
        empty.machine(0, 1, 1);
        DUE.is("an image of none", empty.restore(), 0);
        DUE.is("many of none", empty.many(), 1);
        DUE.is("fits(1) of none", empty.fits(1), Due.BEYOND);
    }

    private static void whatAnImageHasNot() {
        PoliteHall x = Due.tieAll(Due.hallOf(2, 0));
        x.sheet(0, 8, 2);
        x.put(0, 0, 1);
        x.voice(0, 0, 1);
        x.fits(4);
        x.image();
        x.put(0, 0, 12);
        x.voice(0, 2, 1);
        x.fits(4);
        x.restore();
        DUE.is("the trace", x.count(6), 3);
        DUE.is("told", x.told(1), 2);
        DUE.is("the sheet", x.says(0), 1);
        DUE.is("as it is", x.sayingIs(0, 0), 1);
    }

    private static void tell() {
        PoliteHall x = new PoliteHall();
        for (int i = 1; i <= 48; i++) {
            DUE.is("tell " + i, x.tell(i - 1), i);
        }
        DUE.is("tell a 49th", x.tell(0), Due.FULL);
        DUE.is("waiting", x.count(5), 48);
        DUE.is("check: one too many", x.check(), 2);
        DUE.is("none waits", x.count(5), 0);
        DUE.is("tell again", x.tell(Integer.MIN_VALUE), 1);
    }

    private static void check() {
        PoliteHall x = Due.hallOf(2, 0);
        DUE.is("check of none", x.check(), 0);
        int[] sets = {0, 1, 2, 3};
        for (int n = 1; n <= 4; n++) {
            for (int i = 0; i < n; i++) {
                x.tell(sets[i]);
            }
            DUE.is("check of the first " + n, x.check(), 0);
        }
        for (int set : sets) {
            x.tell(set);
        }
        x.tell(4);
        DUE.is("one too many", x.check(), 5);
        x.tell(0);
        x.tell(2);
        x.tell(1);
        DUE.is("not in order", x.check(), 2);
        x.tell(-1);
        DUE.is("the first isn't", x.check(), 1);
        x.tie(0, 1, 1);
        x.say(0, 1, true);
        x.unsay(0);
        x.say(0, 1, false);
        x.most(0);
        x.tell(0);
        DUE.is("none fits", x.check(), 1);
        DUE.is("none waits", x.check(), 0);
    }

    private static void count() {
        PoliteHall x = Due.hallOf(3, 0);
        x.tie(0, 1, 4);
        x.tie(2, 0, 99);
        x.say(0, 1, true);
        x.say(0, 1, true);
        x.say(2, 0, true);
        x.unsay(1);
        x.feed(0, 5);
        x.tell(1);
        x.voice(0, 2, 0);
        int[] due = {3, 2, 3, 2, 5, 1, 3, 103};
        for (int what = 0; what < 8; what++) {
            DUE.is("count(" + what + ")", x.count(what), due[what]);
        }
        DUE.is("count(8)", x.count(8), Due.BEYOND);
        DUE.is("count(-1)", x.count(-1), Due.BEYOND);
    }

    private static void told() {
        PoliteHall x = new PoliteHall();
        x.machine(0, 5, 5);
        x.machine(1, 1, 5);
        x.say(0, 0, true);
        x.body(0);
        x.body(0);
        x.as(0, 1);
        x.as(0, 1);
        x.as(0, 1);
        x.voice(1, 3, 9);
        for (int i = 0; i < 10; i++) {
            x.machine(0, 1, 1);
        }
        x.machine(0, 1, 1);
        x.machine(0, 1, 1);
        x.chance(12, 0);
        int[] due = {1, 2, 1, 2, 3, 1};
        for (int k = 1; k <= 6; k++) {
            DUE.is("told(" + k + ")", x.told(k), due[k - 1]);
        }
        DUE.is("told(0)", x.told(0), Due.BEYOND);
        DUE.is("told(7)", x.told(7), Due.BEYOND);
        DUE.is("told(-1)", x.told(-1), Due.BEYOND);
        DUE.is("told(MIN)", x.told(Integer.MIN_VALUE), Due.BEYOND);
        DUE.is("told(1), those too", x.told(1), 5);
        x.text();
        DUE.is("a FAULT is no ERROR", x.told(1), 5);
    }
}
