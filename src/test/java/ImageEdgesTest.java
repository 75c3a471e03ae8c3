/** The sentences of promises 36 to 41 that name an edge, one by one. */
public final class ImageEdgesTest {
    private static final Due DUE = new Due();
    private static final int MIN = Integer.MIN_VALUE;
    private static final int MAX = Integer.MAX_VALUE;

    public static void main(String[] args) {
        noImage();
        howOftenThatWasDone();
        inPlaceOfOneAhead();
        whichStays();
        allIsKept();
        butWhat();
        imageOfNothing();
        imageOfAllThatMayBe();
        fortyEightWait();
        noneWaitThen();
        asManyAsWait();
        ifFewerFit();
        thePlaceOfTheFirst();
        counts();
        kOneToSix();
        eachErrorIsTold();
        DUE.end();
    }

    private static void noImage() {
        DUE.sentence("restore: NONE: there is none");
        PoliteHall x = Due.hallOf(2, 0);
        DUE.is("restore()", x.restore(), Due.NONE);
        DUE.is("machines", x.count(0), 2);
        DUE.is("image()", x.image(), 1);
        DUE.is("restore()", x.restore(), 2);
        DUE.is("told(2)", x.told(2), 1);
    }

    private static void howOftenThatWasDone() {
        DUE.sentence("image: how often that was done");
        PoliteHall x = new PoliteHall();
        for (int i = 1; i <= 400; i++) {
            DUE.is("image()", x.image(), i);
        }
        x.restore();
        x.restore();
        DUE.is("behind restore()", x.image(), 401);
    }

    private static void inPlaceOfOneAhead() {
        DUE.sentence("kept as an IMAGE, in place of one ahead");
        PoliteHall x = Due.hallOf(1, 0);
        x.image();
        x.machine(0, 1, 1);
        x.image();
        x.machine(0, 1, 1);
        DUE.is("the latest", x.restore(), 2);
        DUE.is("the latest again", x.restore(), 2);
    }

    private static void whichStays() {
        DUE.sentence("All is as the IMAGE has it, which stays: how many MACHINES there are");
        PoliteHall x = Due.tieAll(Due.hallOf(2, 0));
        x.image();
        int[] manyByMost = {0, 2, 5};
        for (int round = 0; round < 3; round++) {
            x.say(0, 1, false);
            x.tie(0, 1, 0);
            x.most(round);
            x.tell(round);
            x.feed(32L, 1);
            x.machine(0, 1, 1);
            DUE.is("many ahead of it", x.many(), manyByMost[round]);
            DUE.is("restore()", x.restore(), 2);
            DUE.is("many behind it", x.many(), 4);
            DUE.is("machines", x.count(0), 2);
            DUE.is("ties", x.count(1), 2);
            DUE.is("sayings", x.count(2), 0);
            DUE.is("bytes", x.count(4), 0);
            DUE.is("numbers", x.count(5), 0);
            DUE.is("MOST", x.most(12), 12);
        }
    }

    private static void allIsKept() {
        DUE.sentence("All is kept as an IMAGE");
        PoliteHall x = rich();
        x.image();
        x.mended(0);
        x.tie(0, 1, 0);
        x.tie(2, 0, 77);
        x.most(0);
        x.text();
        x.check();
        x.tell(9);
        x.machine(5, 5, 5);
        x.restore();
        PoliteHall twin = rich();
        twin.image();
        DUE.same("all", Seen.all(x), Seen.all(twin));
    }

    private static PoliteHall rich() {
        PoliteHall x = new PoliteHall();
        x.machine(1, 99, 9);
        x.machine(4, 1, 1);
        x.machine(3, 50, 5);
        x.tie(0, 1, 99);
        x.tie(1, 2, 1);
        x.say(0, 1, true);
        x.say(1, 2, true);
        x.say(0, 1, true);
        x.unsay(1);
        x.most(2);
        Due.feed(x, "make pact 7 7;tie 3 0 9;most 3");
        x.tell(x.which(0));
        x.tell(x.which(1));
        return x;
    }

    private static void butWhat() {
        DUE.sentence("(but SHEETS, THE TRACE, what told() tells, and how often this was done)");
        PoliteHall x = Due.tieAll(Due.hallOf(3, 0));
        x.sheet(0, 8, 2);
        x.put(0, 0, 1);
        x.voice(0, 0, 1);
        x.told(0);
        x.image();
        x.put(0, 0, 26);
        x.sheet(1, 8, 2);
        x.voice(0, 1, 1);
        x.told(0);
        x.restore();
        DUE.is("a SHEET stays as it is: 2 of itself, not 0 of 1", x.says(0), 0);
        x.put(0, 0, 25);
        DUE.is("a SHEET stays", x.says(0), 1);
        DUE.is("its SAYING", x.sayingIs(0, 0), 2);
        DUE.is("another SHEET stays", x.put(1, 1, 1), 1);
        DUE.is("THE TRACE", x.count(6), 2);
        DUE.is("what told() tells", x.told(1), 2);
        DUE.is("how often", x.image(), 2);
    }

    private static void imageOfNothing() {
        DUE.sentence("an IMAGE of no MACHINES");
        PoliteHall x = new PoliteHall();
        DUE.is("image()", x.image(), 1);
        x.machine(0, 1, 1);
        x.machine(0, 1, 1);
        x.tie(0, 1, 1);
        x.say(0, 1, true);
        DUE.is("restore()", x.restore(), 0);
        DUE.is("known()", x.known(), 12);
        DUE.is("count(7)", x.count(7), 0);
        DUE.is("machine", x.machine(2, 2, 2), 0);
        DUE.is("machine", x.machine(2, 2, 2), 1);
        DUE.is("no TIE of theirs", x.say(0, 1, true), Due.STATE);
        DUE.is("it can try nobody", x.machineIs(0, 3), 0);
    }

    private static void imageOfAllThatMayBe() {
        DUE.sentence("an IMAGE of all that may be");
        PoliteHall x = Due.tieAll(Due.hallOf(12, 0));
        for (int i = 0; i < 60; i++) {
            x.say(11, 10, i % 2 == 0);
        }
        Due.feed(x, "most 11", 80);
        for (int i = 0; i < 48; i++) {
            x.tell(i);
        }
        x.image();
        x.tie(11, 10, 0);
        x.mended(11);
        x.text();
        x.check();
        DUE.is("restore()", x.restore(), 12);
        DUE.is("ties", x.count(1), 132);
        DUE.is("sayings", x.count(2), 60);
        DUE.is("those that count", x.count(3), 60);
        DUE.is("bytes", x.count(4), 80);
        DUE.is("numbers", x.count(5), 48);
        DUE.is("costs", x.count(7), 132);
        DUE.is("machine", x.machine(0, 1, 1), Due.FULL);
        DUE.is("say", x.say(11, 10, true), Due.FULL);
        DUE.is("feed", x.feed(0L, 1), Due.FULL);
        DUE.is("tell", x.tell(0), Due.FULL);
        DUE.is("the last SAYING", x.sayingIs(59, 2), 0);
        DUE.is("the text", x.text(), 1);
        DUE.is("MOST", x.most(12), 11);
    }

    private static void fortyEightWait() {
        DUE.sentence("tell: One more number waits: how many. FULL: 48 wait.");
        PoliteHall x = Due.hallOf(12, 0);
        for (int i = 1; i <= 48; i++) {
            DUE.is("tell()", x.tell(x.which(i - 1)), i);
        }
        DUE.is("a 49th", x.tell(0), Due.FULL);
        DUE.is("numbers", x.count(5), 48);
        DUE.is("all 48 are right", x.check(), 0);
        for (int i = 0; i < 47; i++) {
            x.tell(x.which(i));
        }
        x.tell(MAX);
        DUE.is("the last of 48 isn't", x.check(), 48);
        DUE.is("there is room again", x.tell(0), 1);
    }

    private static void noneWaitThen() {
        DUE.sentence("check: The numbers that wait (none do then)");
        PoliteHall x = Due.hallOf(2, 0);
        x.tell(0);
        DUE.is("right", x.check(), 0);
        DUE.is("none wait", x.count(5), 0);
        x.tell(3);
        DUE.is("wrong", x.check(), 1);
        DUE.is("none wait", x.count(5), 0);
        DUE.is("none: right", x.check(), 0);
        DUE.is("tell()", x.tell(0), 1);
    }

    private static void asManyAsWait() {
        DUE.sentence("are the first FITTING ones in order, as many as wait");
        PoliteHall x = Due.hallOf(3, 0);
        int[] order = {0, 1, 2, 4, 3, 5, 6, 7};
        for (int n = 0; n <= 8; n++) {
            for (int i = 0; i < n; i++) {
                x.tell(order[i]);
            }
            DUE.is("the first " + n, x.check(), 0);
        }
        for (int wrong = 0; wrong < 8; wrong++) {
            for (int i = 0; i < 8; i++) {
                x.tell(i == wrong ? order[i] + 8 : order[i]);
            }
            DUE.is("all but " + wrong, x.check(), 1 + wrong);
        }
    }

    private static void ifFewerFit() {
        DUE.sentence("or all, if fewer FIT (one too many, too)");
        PoliteHall x = Due.hallOf(1, 0);
        x.tell(0);
        x.tell(1);
        DUE.is("all", x.check(), 0);
        x.tell(0);
        x.tell(1);
        x.tell(2);
        DUE.is("one too many", x.check(), 3);
        x.tell(0);
        x.tell(1);
        x.tell(0);
        x.tell(1);
        DUE.is("two too many", x.check(), 3);
        PoliteHall none = Due.hallOf(2, 1);
        none.tie(0, 1, 1);
        none.say(0, 1, false);
        none.most(0);
        DUE.is("none FITS, none waits", none.check(), 0);
        none.tell(0);
        DUE.is("none FITS, one waits", none.check(), 1);
        PoliteHall empty = new PoliteHall();
        empty.tell(0);
        DUE.is("the empty SET FITS", empty.check(), 0);
        empty.tell(0);
        empty.tell(0);
        DUE.is("it alone", empty.check(), 2);
    }

    private static void thePlaceOfTheFirst() {
        DUE.sentence("else 1 and the place of the first that isn't");
        PoliteHall x = Due.hallOf(2, 0);
        x.tell(MIN);
        x.tell(MAX);
        DUE.is("the first", x.check(), 1);
        x.tell(0);
        x.tell(2);
        x.tell(1);
        x.tell(9);
        DUE.is("the first of several", x.check(), 2);
        x.tell(0);
        x.most(0);
        x.tell(1);
        DUE.is("as they FIT by then", x.check(), 2);
    }

    private static void counts() {
        DUE.sentence("count: 0 .. 7. BEYOND.");
        PoliteHall x = Due.hallOf(12, 0);
        for (int from = 0; from < 12; from++) {
            for (int to = 0; to < 12; to++) {
                x.tie(from, to, 99);
            }
        }
        int[] due = {12, 132, 0, 0, 0, 0, 0, 132 * 99};
        for (int what = 0; what < 8; what++) {
            DUE.is("count(" + what + ")", x.count(what), due[what]);
        }
        DUE.is("count(8)", x.count(8), Due.BEYOND);
        DUE.is("count(-1)", x.count(-1), Due.BEYOND);
        DUE.is("count of the least", x.count(MIN), Due.BEYOND);
        DUE.is("count of the greatest", x.count(MAX), Due.BEYOND);
    }

    private static void kOneToSix() {
        DUE.sentence("told: (k 1 .. 6); BEYOND: another k (counted, too)");
        PoliteHall x = new PoliteHall();
        DUE.is("told(1)", x.told(1), 0);
        DUE.is("told(6)", x.told(6), 0);
        DUE.is("told(0)", x.told(0), Due.BEYOND);
        DUE.is("told(1)", x.told(1), 1);
        DUE.is("told(7)", x.told(7), Due.BEYOND);
        DUE.is("told(1)", x.told(1), 2);
        DUE.is("told(-1)", x.told(-1), Due.BEYOND);
        DUE.is("told of the least", x.told(MIN), Due.BEYOND);
        DUE.is("told of the greatest", x.told(MAX), Due.BEYOND);
        DUE.is("told of an ERROR itself", x.told(Due.BEYOND), Due.BEYOND);
        DUE.is("told(1)", x.told(1), 6);
        for (int k = 2; k <= 6; k++) {
            DUE.is("told(" + k + ")", x.told(k), 0);
        }
    }

    private static void eachErrorIsTold() {
        DUE.sentence("How many acts have answered an ERROR LOW - k");
        PoliteHall x = Due.hallOf(12, 0);
        for (int i = 0; i < 6; i++) {
            x.machine(0, 1, 1);
        }
        for (int i = 0; i < 5; i++) {
            x.as(0, 1);
        }
        for (int i = 0; i < 4; i++) {
            x.tie(0, 0, 1);
        }
        for (int i = 0; i < 3; i++) {
            x.restore();
        }
        for (int i = 0; i < 2; i++) {
            x.voice(10, 3, 1);
        }
        x.chance(12, 0);
        x.image();
        x.restore();
        int[] due = {1, 3, 4, 6, 5, 2};
        for (int k = 1; k <= 6; k++) {
            DUE.is("told(" + k + ")", x.told(k), due[k - 1]);
        }
    }
}
