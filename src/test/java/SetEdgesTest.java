/** The sentences of promises 12 to 18 that name an edge, one by one. */
public final class SetEdgesTest {
    private static final Due DUE = new Due();
    /** By kinds: bit 2 * (who said it is broken) + (of whom it was said is broken), if that lets whole, broken be said. */
    private static final int[] WHOLE = {0b1101, 0b1101, 0b1001, 0b1111, 0b1101, 0b0011};
    private static final int[] BROKEN = {0b1110, 0b0010, 0b0110, 0b1110, 0b0110, 0b0010};

    public static void main(String[] args) {
        letByKinds();
        letIsByKindOfWhoSaid();
        machinesThatThereAreNot();
        moreThanMostIsAskedFirst();
        theFirstThatIsNot();
        howManyFit();
        fewestFirst();
        inAllInNone();
        noneFits();
        fewestNotLet();
        blameOfMost();
        blameInThatOrder();
        itself();
        leadsOn();
        leadsByWhom();
        DUE.end();
    }

    /** Who says is the first or the last of twelve; of whom, the other; all others are whole, or all broken. */
    private static void letByKinds() {
        DUE.sentence("A SAYING is LET by who is broken, by the KIND of who said it");
        for (int kind = 0; kind < 6; kind++) {
            for (int from = 0; from < 12; from += 11) {
                letByKind(kind, from, 11 - from, true);
                letByKind(kind, from, 11 - from, false);
            }
        }
    }

    private static void letByKind(int kind, int from, int to, boolean whole) {
        PoliteHall x = new PoliteHall();
        for (int i = 0; i < 12; i++) {
            x.machine(i == from ? kind : (kind + 1) % 6, 1, 1);
        }
        x.tie(from, to, 1);
        x.say(from, to, whole);
        int cases = whole ? WHOLE[kind] : BROKEN[kind];
        for (int i = 0; i < 4; i++) {
            int set = (i >> 1) << from | (i & 1) << to;
            int let = cases >> i & 1;
            String call = "kind " + kind + " from " + from + " whole " + whole + " set " + set;
            DUE.is(call, x.fits(set), let);
            DUE.is(call + " bars", x.bars(set), let == 1 ? -1 : 0);
            DUE.is(call + " and all others", x.fits(set | 0b011111111110), let);
        }
        DUE.is("many of kind " + kind, x.many(), 1024 * Integer.bitCount(cases));
    }

    private static void letIsByKindOfWhoSaid() {
        DUE.sentence("not by the KIND of whom it was said");
        for (int kind = 0; kind < 6; kind++) {
            PoliteHall x = new PoliteHall();
            x.machine(0, 1, 1);
            x.machine(kind, 1, 1);
            x.tie(0, 1, 1);
            x.say(0, 1, false);
            DUE.is("many", x.many(), 3);
            x.say(0, 1, true);
            DUE.is("many of both", x.many(), 2);
        }
    }

    private static void machinesThatThereAreNot() {
        DUE.sentence("fits, bars: BEYOND: a MACHINE that there is not");
        for (int n = 0; n <= 12; n++) {
            PoliteHall x = Due.hallOf(n, 0);
            int all = (1 << n) - 1;
            DUE.is("fits of all", x.fits(all), 1);
            DUE.is("bars of all", x.bars(all), -1);
            DUE.is("fits of one more", x.fits(1 << n), Due.BEYOND);
            DUE.is("bars of one more", x.bars(1 << n), Due.BEYOND);
            DUE.is("fits of all and one more", x.fits(2 * all + 1), Due.BEYOND);
            DUE.is("fits(-1)", x.fits(-1), Due.BEYOND);
            DUE.is("bars(-1)", x.bars(-1), Due.BEYOND);
            DUE.is("fits of the highest bit", x.fits(Integer.MIN_VALUE), Due.BEYOND);
            DUE.is("bars of the highest bit", x.bars(Integer.MIN_VALUE), Due.BEYOND);
            DUE.is("fits of all bits but that", x.fits(Integer.MAX_VALUE), Due.BEYOND);
        }
    }

    private static void moreThanMostIsAskedFirst() {
        DUE.sentence("bars: the SAYING (100: it has more than MOST, asked first; -1: it FITS)");
        PoliteHall x = Due.tieAll(Due.hallOf(3, 0));
        x.say(0, 1, false);
        x.most(1);
        DUE.is("as many as MOST, all LET", x.bars(1), -1);
        DUE.is("as many as MOST, one not LET", x.bars(4), 0);
        DUE.is("more than MOST, all LET", x.bars(3), 100);
        x.say(0, 2, true);
        DUE.is("more than MOST, one not LET", x.bars(6), 100);
        x.most(0);
        DUE.is("none broken, one not LET", x.bars(0), 0);
        DUE.is("one broken, more than MOST", x.bars(4), 100);
        x.unsay(0);
        DUE.is("none broken, all LET", x.bars(0), -1);
        x.most(12);
        DUE.is("it has more than none that was said", x.bars(7), -1);
    }

    private static void theFirstThatIsNot() {
        DUE.sentence("BARS: the first that isn't");
        PoliteHall x = Due.hallOf(2, 0);
        x.tie(0, 1, 1);
        for (int i = 0; i < 58; i++) {
            x.say(0, 1, true);
        }
        x.say(0, 1, false);
        x.say(0, 1, false);
        DUE.is("the first of two", x.bars(0), 58);
        DUE.is("the first of many", x.bars(2), 0);
        x.unsay(58);
        DUE.is("the sixtieth", x.bars(0), 59);
        x.unsay(0);
        DUE.is("the first that counts", x.bars(2), 1);
        x.unsay(59);
        DUE.is("none", x.bars(0), -1);
        DUE.is("of one that lies", x.bars(1), -1);
    }

    private static void howManyFit() {
        DUE.sentence("How many SETS FIT.");
        for (int n = 0; n <= 12; n++) {
            PoliteHall x = Due.hallOf(n, n % 6);
            DUE.is("many", x.many(), 1 << n);
            x.most(0);
            DUE.is("many of at most none", x.many(), 1);
        }
        PoliteHall y = Due.tieAll(Due.hallOf(2, 5));
        y.say(0, 1, false);
        y.say(1, 0, true);
        DUE.is("none", y.many(), 0);
    }

    private static void fewestFirst() {
        DUE.sentence("FITTING ones in order: the fewest first, of like ones the least bits; the i-th (from 0 on)");
        PoliteHall x = Due.hallOf(12, 0);
        int[][] due = {{0, 0}, {1, 1}, {12, 2048}, {13, 3}, {14, 5}, {15, 6}, {16, 9}, {78, 3072}, {79, 7}, {298, 3584}, {299, 15},
            {793, 3840}, {794, 31}, {4082, 4092}, {4083, 2047}, {4094, 4094}, {4095, 4095}};
        for (int[] d : due) {
            DUE.is("which(" + d[0] + ")", x.which(d[0]), d[1]);
        }
        DUE.is("which(4096)", x.which(4096), Due.BEYOND);
        DUE.is("which(-1)", x.which(-1), Due.BEYOND);
        x.most(0);
        DUE.is("which(0) of one", x.which(0), 0);
        DUE.is("which(1) of one", x.which(1), Due.BEYOND);
        x.most(1);
        DUE.is("which(12)", x.which(12), 2048);
        DUE.is("which(13)", x.which(13), Due.BEYOND);
        x.tie(11, 10, 1);
        x.say(11, 10, false);
        DUE.is("which(0), the empty one no more", x.which(0), 1024);
        DUE.is("which(1)", x.which(1), 2048);
        x.unsay(0);
        DUE.is("which(0), the empty one again", x.which(0), 0);
        DUE.is("which(1)", x.which(1), 1);
    }

    private static PoliteHall firstKnowsLast() {
        PoliteHall x = Due.hallOf(12, 1);
        x.tie(0, 11, 1);
        x.say(0, 11, false);
        return x;
    }

    private static void inAllInNone() {
        DUE.sentence("SURE: those that are in all of them, those that are in none");
        PoliteHall x = firstKnowsLast();
        DUE.is("in all", x.sure(0), 2048);
        DUE.is("in none", x.sure(1), 1);
        x.most(1);
        DUE.is("in all of one", x.sure(0), 2048);
        DUE.is("in none of one", x.sure(1), 2047);
        DUE.is("sure(2)", x.sure(2), Due.BEYOND);
        DUE.is("sure(-1)", x.sure(-1), Due.BEYOND);
        PoliteHall y = Due.hallOf(12, 0);
        DUE.is("in all of all", y.sure(0), 0);
        DUE.is("in none of all", y.sure(1), 0);
        y.most(0);
        DUE.is("in all of none", y.sure(0), 0);
        DUE.is("in none of none", y.sure(1), 4095);
        y.most(11);
        DUE.is("in all of those of 11", y.sure(0), 0);
        DUE.is("in none of those of 11", y.sure(1), 0);
    }

    private static void noneFits() {
        DUE.sentence("sure: NONE: none FITS; which: BEYOND; many: 0");
        PoliteHall x = firstKnowsLast();
        x.most(0);
        DUE.is("sure(0)", x.sure(0), Due.NONE);
        DUE.is("sure(1)", x.sure(1), Due.NONE);
        DUE.is("sure(2)", x.sure(2), Due.BEYOND);
        DUE.is("which(0)", x.which(0), Due.BEYOND);
        DUE.is("many", x.many(), 0);
        DUE.is("fits(0)", x.fits(0), 0);
        DUE.is("bars(0)", x.bars(0), 0);
        x.most(1);
        DUE.is("sure(0), one FITS", x.sure(0), 2048);
    }

    private static void fewestNotLet() {
        DUE.sentence("BLAME: the fewest SAYINGS that are not LET: how many");
        PoliteHall x = Due.hallOf(2, 0);
        x.tie(0, 1, 1);
        DUE.is("of none", x.blame(0), 0);
        for (int i = 0; i < 60; i++) {
            x.say(0, 1, false);
        }
        DUE.is("all LET", x.blame(0), 0);
        DUE.is("by whom", x.blame(1), 1);
        x.most(0);
        DUE.is("none of sixty LET", x.blame(0), 60);
        DUE.is("by whom", x.blame(1), 0);
        x.unsay(0);
        x.unsay(59);
        DUE.is("those that count", x.blame(0), 58);
        x.mended(1);
        DUE.is("none counts", x.blame(0), 0);
        DUE.is("blame(2)", x.blame(2), Due.BEYOND);
        DUE.is("blame(-1)", x.blame(-1), Due.BEYOND);
    }

    private static void blameOfMost() {
        DUE.sentence("BLAME: by a SET of at most MOST, over all such SETS");
        PoliteHall x = Due.tieAll(Due.hallOf(3, 1));
        x.say(0, 1, false);
        x.say(0, 2, false);
        DUE.is("two broken", x.blame(0) * 10 + x.blame(1), 6);
        x.most(2);
        DUE.is("as many as MOST", x.blame(0) * 10 + x.blame(1), 6);
        x.most(1);
        DUE.is("one broken", x.blame(0) * 10 + x.blame(1), 12);
        x.most(0);
        DUE.is("none broken", x.blame(0) * 10 + x.blame(1), 20);
    }

    private static void blameInThatOrder() {
        DUE.sentence("BLAME: the first such SET (in that order)");
        PoliteHall x = Due.tieAll(Due.hallOf(12, 0));
        x.say(0, 11, false);
        x.say(1, 11, false);
        x.say(11, 0, false);
        x.say(11, 1, false);
        DUE.is("one with the greatest bits ahead of two with the least", x.blame(1), 2048);
        DUE.is("the first FITTING one", x.which(0), 2048);
        x.say(11, 10, false);
        x.say(10, 11, false);
        DUE.is("still", x.blame(1), 2048);
        PoliteHall y = Due.tieAll(Due.hallOf(3, 1));
        y.say(1, 2, false);
        y.say(2, 1, false);
        DUE.is("of like ones the least bits", y.blame(1), 2);
        DUE.is("how many", y.blame(0), 1);
        y.most(0);
        DUE.is("none broken", y.blame(0), 2);
        PoliteHall z = Due.tieAll(Due.hallOf(3, 0));
        z.say(2, 0, false);
        z.say(2, 1, false);
        z.say(0, 2, false);
        z.say(1, 2, false);
        DUE.is("one of 2, who is blamed by two", z.blame(1), 4);
        z.say(1, 0, false);
        // {2} does not let that 1 said it of 0; {0, 1} lets all.
        DUE.is("two that let all ahead of one that does not", z.blame(1), 3);
        DUE.is("how many", z.blame(0), 0);
    }

    private static void itself() {
        DUE.sentence("LEADS, of a MACHINE: it");
        PoliteHall x = Due.tieAll(Due.hallOf(12, 0));
        for (int i = 0; i < 12; i++) {
            DUE.is("itself", x.leads(i), 1 << i);
        }
        DUE.is("leads(12)", x.leads(12), Due.BEYOND);
        DUE.is("leads(-1)", x.leads(-1), Due.BEYOND);
        x.say(0, 1, false);
        DUE.is("broken leads nowhere", x.leads(0), 1);
        x.say(0, 1, true);
        DUE.is("not back", x.leads(1), 2);
        DUE.is("there", x.leads(0), 3);
        x.unsay(1);
        DUE.is("not, if it does not count", x.leads(0), 1);
    }

    private static void leadsOn() {
        DUE.sentence("LEADS: all to which SAYINGS lead on from it, one behind the other");
        PoliteHall x = Due.tieAll(Due.hallOf(12, 0));
        for (int i = 11; i > 0; i--) {
            x.say(i - 1, i, true);
        }
        for (int i = 0; i < 12; i++) {
            DUE.is("all behind " + i, x.leads(i), 4096 - (1 << i));
        }
        x.say(11, 0, true);
        DUE.is("round about", x.leads(5), 4095);
        x.unsay(5);
        DUE.is("cut in between", x.leads(0), 0b000000111111);
        DUE.is("from behind the cut", x.leads(6), 4095);
        PoliteHall y = Due.tieAll(Due.hallOf(12, 4));
        for (int i = 0; i < 11; i++) {
            y.say(11 - i, 10 - i, true);
        }
        DUE.is("downward", y.leads(11), 4095);
        DUE.is("to the end", y.leads(0), 1);
    }

    private static void leadsByWhom() {
        DUE.sentence("LEADS: if each is said by a MACHINE, POLITE, CONTRARY or PACT one");
        for (int kind = 0; kind < 6; kind++) {
            PoliteHall x = new PoliteHall();
            x.machine(0, 1, 1);
            x.machine(kind, 1, 1);
            x.machine(0, 1, 1);
            Due.tieAll(x);
            x.say(0, 1, true);
            x.say(1, 2, true);
            boolean on = kind != 3 && kind != 5;
            DUE.is("to and on by kind " + kind, x.leads(0), on ? 7 : 3);
            DUE.is("from kind " + kind, x.leads(1), on ? 6 : 2);
        }
    }
}
