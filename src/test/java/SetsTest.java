/** Promises 12 to 18: sets that fit, bars, sure, blame, leads. */
public final class SetsTest {
    private static final Due DUE = new Due();

    public static void main(String[] args) {
        kindsLet();
        fitsAndBars();
        order();
        sure();
        blame();
        leads();
        DUE.end();
    }

    /** Bit s: the set s (of machines 0 and 1) fits, if 0 said of 1 that it is whole, that it is broken; by kinds of 0. */
    private static void kindsLet() {
        int[] whole = {0b1011, 0b1011, 0b1001, 0b1111, 0b1011, 0b0101};
        int[] broken = {0b1110, 0b0100, 0b0110, 0b1110, 0b0110, 0b0100};
        for (int kind = 0; kind < 6; kind++) {
            for (int said = 0; said < 2; said++) {
                PoliteHall x = new PoliteHall();
                x.machine(kind, 1, 1);
                x.machine(0, 1, 1);
                x.tie(0, 1, 1);
                x.say(0, 1, said == 1);
                int due = said == 1 ? whole[kind] : broken[kind];
                for (int set = 0; set < 4; set++) {
                    int fits = due >> set & 1;
                    DUE.is("kind " + kind + " said " + said + " fits(" + set + ")", x.fits(set), fits);
                    DUE.is("kind " + kind + " said " + said + " bars(" + set + ")", x.bars(set), fits == 1 ? -1 : 0);
                }
                DUE.is("kind " + kind + " said " + said + " many", x.many(), Integer.bitCount(due));
            }
        }
    }

    private static void fitsAndBars() {
        PoliteHall x = Due.tieAll(Due.hallOf(3, 0));
        DUE.is("fits(8)", x.fits(8), Due.BEYOND);
        DUE.is("fits(-1)", x.fits(-1), Due.BEYOND);
        DUE.is("fits(MIN)", x.fits(Integer.MIN_VALUE), Due.BEYOND);
        DUE.is("bars(8)", x.bars(8), Due.BEYOND);
        DUE.is("bars(-8)", x.bars(-8), Due.BEYOND);
        DUE.is("fits(7)", x.fits(7), 1);
        x.say(0, 1, true);
        x.say(1, 2, false);
        x.say(2, 0, true);
        DUE.is("bars(0)", x.bars(0), 1);
        DUE.is("bars(4)", x.bars(4), -1);
        DUE.is("bars(2)", x.bars(2), 0);
        DUE.is("bars(1)", x.bars(1), 1);
        x.most(0);
        DUE.is("bars(1), more than most", x.bars(1), 100);
        DUE.is("bars(0)", x.bars(0), 1);
        DUE.is("fits(4), more than most", x.fits(4), 0);
        x.unsay(1);
        DUE.is("bars(0) without it", x.bars(0), -1);
        DUE.is("fits(0)", x.fits(0), 1);
    }

    private static void order() {
        PoliteHall x = Due.hallOf(3, 0);
        int[] due = {0, 1, 2, 4, 3, 5, 6, 7};
        for (int i = 0; i < 8; i++) {
            DUE.is("which(" + i + ")", x.which(i), due[i]);
        }
        DUE.is("which(8)", x.which(8), Due.BEYOND);
        DUE.is("which(-1)", x.which(-1), Due.BEYOND);
        PoliteHall y = Due.hallOf(12, 0);
        DUE.is("many of 12", y.many(), 4096);
        DUE.is("which(12)", y.which(12), 2048);
        DUE.is("which(13)", y.which(13), 3);
        DUE.is("which(78)", y.which(78), 3072);
        DUE.is("which(4095)", y.which(4095), 4095);
        DUE.is("which(4096)", y.which(4096), Due.BEYOND);
    }

    private static void sure() {
        PoliteHall x = new PoliteHall();
        DUE.is("sure(0) of none", x.sure(0), 0);
        DUE.is("sure(1) of none", x.sure(1), 0);
        x.machine(1, 1, 1);
        x.machine(0, 1, 1);
        x.machine(0, 1, 1);
        x.tie(0, 1, 1);
        DUE.is("sure(0) at first", x.sure(0), 0);
        DUE.is("sure(1) at first", x.sure(1), 0);
        // A polite one says broken only if it is whole.
        x.say(0, 1, false);
        DUE.is("sure(0)", x.sure(0), 2);
        DUE.is("sure(1)", x.sure(1), 1);
        x.most(1);
        DUE.is("sure(0) of one set", x.sure(0), 2);
        DUE.is("sure(1) of one set", x.sure(1), 5);
        DUE.is("sure(2)", x.sure(2), Due.BEYOND);
        DUE.is("sure(-1)", x.sure(-1), Due.BEYOND);
        x.most(0);
        DUE.is("sure(0), none fits", x.sure(0), Due.NONE);
        DUE.is("sure(2), none fits", x.sure(2), Due.BEYOND);
    }

    private static void blame() {
        PoliteHall x = Due.tieAll(Due.hallOf(3, 0));
        DUE.is("blame(0), nothing said", x.blame(0), 0);
        DUE.is("blame(1), nothing said", x.blame(1), 0);
        x.most(1);
        x.say(0, 1, false);
        x.say(2, 1, false);
        x.say(1, 0, false);
        x.say(1, 2, false);
        DUE.is("blame(0), 1 lies", x.blame(0), 0);
        DUE.is("blame(1), 1 lies", x.blame(1), 2);
        x.say(0, 2, false);
        // Now {0} leaves those of 2 and 1 of each other, {1} that of 0 of 2, {2} two, none all five.
        DUE.is("blame(0)", x.blame(0), 1);
        DUE.is("blame(1)", x.blame(1), 2);
        x.most(0);
        DUE.is("blame(0), all whole", x.blame(0), 5);
        DUE.is("blame(1), all whole", x.blame(1), 0);
        x.unsay(4);
        DUE.is("blame(0), one unsaid", x.blame(0), 4);
        DUE.is("blame(2)", x.blame(2), Due.BEYOND);
        DUE.is("blame(-1)", x.blame(-1), Due.BEYOND);
        PoliteHall y = Due.tieAll(Due.hallOf(2, 1));
        y.say(0, 1, false);
        y.say(1, 0, false);
        // No set lets both: {0} and {1} leave one each.
        DUE.is("blame(0), polite", y.blame(0), 1);
        DUE.is("blame(1), polite: the least bits", y.blame(1), 1);
        PoliteHall z = Due.tieAll(Due.hallOf(3, 0));
        z.say(0, 2, false);
        z.say(1, 2, false);
        z.say(2, 0, false);
        z.say(2, 1, false);
        // {0, 1} and {2} let all, {0, 1} has the lesser bits.
        DUE.is("blame(0), two sides", z.blame(0), 0);
        DUE.is("blame(1), two sides: the fewest first", z.blame(1), 4);
    }

    private static void leads() {
        PoliteHall x = new PoliteHall();
        int[] kinds = {0, 1, 2, 4, 3, 5, 0};
        for (int kind : kinds) {
            x.machine(kind, 1, 1);
        }
        for (int i = 6; i > 0; i--) {
            x.tie(i - 1, i, 1);
            x.say(i - 1, i, true);
        }
        DUE.is("leads(0): the slack one's word is none", x.leads(0), 0b0011111);
        DUE.is("leads(3)", x.leads(3), 0b0011000);
        DUE.is("leads(4)", x.leads(4), 0b0010000);
        DUE.is("leads(5): nor the mute one's", x.leads(5), 0b0100000);
        DUE.is("leads(6)", x.leads(6), 0b1000000);
        x.tie(3, 0, 1);
        x.tie(2, 6, 1);
        x.say(3, 0, true);
        x.say(2, 6, false);
        DUE.is("leads(3) round about; broken leads nowhere", x.leads(3), 0b0011111);
        x.unsay(5);
        DUE.is("leads(0), unsaid", x.leads(0), 1);
        // The last one was said first: each saying leads on from the one behind it.
        PoliteHall y = Due.tieAll(Due.hallOf(12, 0));
        for (int i = 10; i >= 0; i--) {
            y.say(i, i + 1, true);
        }
        DUE.is("leads(0) to the end", y.leads(0), 4095);
        DUE.is("leads(7)", x.leads(7), Due.BEYOND);
        DUE.is("leads(-1)", x.leads(-1), Due.BEYOND);
    }
}
