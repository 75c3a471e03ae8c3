/** The sentences of promises 23 to 29 that name an edge, one by one. */
public final class TrialEdgesTest {
    private static final Due DUE = new Due();

    public static void main(String[] args) {
        noTie();
        nextByNumbers();
        nextOfLikeOnes();
        nextAtTheEnds();
        atMostEightMachines();
        atMostTwentyFourTies();
        fullIsAskedAheadOfAll();
        atMostOneFits();
        oneTrial();
        twoTrialsThatHang();
        likelyOfLikeOnes();
        likelyBeyondInts();
        lowestTerms();
        chanceOfNone();
        worstOfAtMostEightTies();
        worstLeavesMuteOnesOut();
        worstBitsInOrder();
        worstByMost();
        sayingsDoNotCount();
        noMoreThanCoins();
        cheapestThenLeast();
        mendedByAndOf();
        DUE.end();
    }

    private static void noTie() {
        DUE.sentence("next: NONE: there is no TIE");
        PoliteHall x = Due.hallOf(12, 0);
        DUE.is("next(0)", x.next(0), Due.NONE);
        DUE.is("next(1)", x.next(1), Due.NONE);
        DUE.is("next(2)", x.next(2), Due.BEYOND);
        DUE.is("next(-1)", x.next(-1), Due.BEYOND);
        x.tie(11, 10, 99);
        DUE.is("the only one", x.next(0), 1110);
        x.tie(11, 10, 0);
        DUE.is("gone again", x.next(0), Due.NONE);
        x.tie(11, 0, 99);
        DUE.is("to the first", x.next(0), 1100);
        x.tie(0, 11, 99);
        DUE.is("from the first", x.next(0), 11);
    }

    private static void nextByNumbers() {
        DUE.sentence("NEXT: the greater of both numbers of SETS that would FIT (if it said whole, if it said broken) is least");
        int[] greater = {6, 6, 4, 8, 6, 4};
        for (int kind = 0; kind < 6; kind++) {
            PoliteHall x = new PoliteHall();
            x.machine(kind, 1, 1);
            x.machine(3, 1, 1);
            x.machine(0, 1, 1);
            x.tie(0, 2, 99);
            DUE.is("next(1) by kind " + kind, x.next(1), greater[kind]);
            x.tie(1, 2, 1);
            DUE.is("next(0), a cheap slack one beside kind " + kind, x.next(0), kind == 3 ? 102 : 2);
            DUE.is("next(1)", x.next(1), greater[kind]);
        }
    }

    private static void nextOfLikeOnes() {
        DUE.sentence("NEXT: of like ones that with the least COST, then the least from, then to");
        PoliteHall x = Due.hallOf(12, 0);
        x.tie(11, 10, 50);
        x.tie(11, 9, 50);
        DUE.is("the least to", x.next(0), 1109);
        x.tie(10, 11, 50);
        DUE.is("the least from, though to is greater", x.next(0), 1011);
        x.tie(0, 11, 50);
        DUE.is("the least from", x.next(0), 11);
        x.tie(0, 1, 51);
        DUE.is("COST ahead of to", x.next(0), 11);
        x.tie(11, 8, 49);
        DUE.is("COST ahead of from", x.next(0), 1108);
        x.tie(11, 7, 1);
        x.tie(11, 6, 2);
        DUE.is("the least COST", x.next(0), 1107);
        DUE.is("next(1)", x.next(1), 3072);
    }

    private static void nextAtTheEnds() {
        DUE.sentence("NEXT: numbers of SETS from 0 to all");
        PoliteHall x = Due.hallOf(12, 3);
        x.tie(0, 1, 1);
        DUE.is("all", x.next(1), 4096);
        x.most(0);
        DUE.is("one", x.next(1), 1);
        x.say(0, 1, false);
        DUE.is("none", x.next(1), 0);
        DUE.is("the TIE still", x.next(0), 1);
        for (int i = 1; i < 60; i++) {
            x.say(0, 1, true);
        }
        DUE.is("though there is no room for a SAYING more", x.next(0), 1);
    }

    /** Machine 0 is polite and said that 1 is broken, so it is whole; of all others but the last few it said whole. */
    private static PoliteHall judged(int machines, int unknown) {
        PoliteHall x = new PoliteHall();
        x.machine(1, 1, 1);
        for (int i = 1; i < machines; i++) {
            x.machine(0, 1, 1);
        }
        for (int to = 1; to < machines; to++) {
            x.tie(0, to, 1);
        }
        x.say(0, 1, false);
        for (int to = 2; to < machines - unknown; to++) {
            x.say(0, to, true);
        }
        return x;
    }

    /** More ties till there are so many, from those that are known to be whole. */
    private static PoliteHall tied(PoliteHall x, int ties) {
        int machines = x.count(0);
        for (int from = 2; from < machines; from++) {
            for (int to = 0; to < machines && x.count(1) < ties; to++) {
                x.tie(from, to, 1);
            }
        }
        return x;
    }

    private static void atMostEightMachines() {
        DUE.sentence("ROUNDS: asked only if at most 8 MACHINES are there");
        for (int unknown = 0; unknown <= 2; unknown++) {
            DUE.is("8 machines, unknown " + unknown, judged(8, unknown).rounds(), unknown);
            DUE.is("9 machines, unknown " + unknown, judged(9, unknown).rounds(), Due.FULL);
        }
        DUE.is("8 machines, 3 unknown", judged(8, 3).rounds(), Due.NONE);
        DUE.is("12 machines", judged(12, 1).rounds(), Due.FULL);
    }

    private static void atMostTwentyFourTies() {
        DUE.sentence("ROUNDS: asked only if at most 24 TIES");
        for (int unknown = 0; unknown <= 2; unknown++) {
            PoliteHall x = tied(judged(8, unknown), 24);
            DUE.is("ties", x.count(1), 24);
            DUE.is("24 ties, unknown " + unknown, x.rounds(), unknown);
            PoliteHall y = tied(judged(8, unknown), 25);
            DUE.is("ties", y.count(1), 25);
            DUE.is("25 ties, unknown " + unknown, y.rounds(), Due.FULL);
            y.tie(0, 1, 0);
            DUE.is("one less again", y.rounds(), unknown);
        }
    }

    private static void fullIsAskedAheadOfAll() {
        DUE.sentence("rounds: FULL, then NONE");
        DUE.is("9 machines, no TIE", Due.hallOf(9, 0).rounds(), Due.FULL);
        PoliteHall x = Due.hallOf(9, 0);
        x.most(0);
        DUE.is("9 machines, one SET FITS", x.rounds(), Due.FULL);
        DUE.is("8 machines, no TIE", Due.hallOf(8, 0).rounds(), Due.NONE);
        DUE.is("told(4)", x.told(4), 1);
    }

    private static void atMostOneFits() {
        DUE.sentence("ROUNDS: 0, if at most one SET FITS");
        DUE.is("no MACHINES", new PoliteHall().rounds(), 0);
        PoliteHall x = Due.hallOf(1, 0);
        DUE.is("two FIT", x.rounds(), Due.NONE);
        x.most(0);
        DUE.is("one FITS", x.rounds(), 0);
        PoliteHall y = judged(2, 0);
        DUE.is("one FITS", y.rounds(), 0);
        y.most(0);
        DUE.is("none FITS", y.many(), 0);
        DUE.is("none FITS", y.rounds(), 0);
    }

    private static void oneTrial() {
        DUE.sentence("ROUNDS: 1, if there is a TIE with which, whatever is said, at most one would");
        PoliteHall x = judged(3, 1);
        DUE.is("one unknown", x.rounds(), 1);
        x.tie(0, 2, 0);
        DUE.is("no TIE to it", x.rounds(), Due.NONE);
        x.tie(1, 2, 1);
        DUE.is("a TIE from one that is broken", x.rounds(), Due.NONE);
        x.tie(2, 0, 1);
        DUE.is("a TIE from it: broken tells, whole leaves both", x.rounds(), Due.NONE);
        x.tie(2, 1, 1);
        DUE.is("whole tells, broken leaves both", x.rounds(), Due.NONE);
        x.tie(0, 2, 99);
        DUE.is("the one that tells", x.rounds(), 1);
        PoliteHall y = Due.hallOf(1, 0);
        y.machine(1, 1, 1);
        y.machine(0, 1, 1);
        y.tie(1, 2, 1);
        y.say(1, 2, false);
        DUE.is("the first is unknown", y.rounds(), Due.NONE);
        y.tie(1, 0, 1);
        DUE.is("a TIE to the first", y.rounds(), 1);
    }

    /** 1 is broken if 0 is whole, 2 if 0 is broken: which of both to try behind 0 hangs on what was said of 0. */
    private static void twoTrialsThatHang() {
        DUE.sentence("ROUNDS: 2, likewise with another one (or the same) that hangs on what was said");
        PoliteHall x = Due.hallOf(3, 0);
        x.machine(1, 1, 1);
        x.machine(0, 1, 1);
        x.tie(3, 4, 1);
        x.say(3, 4, false);
        x.tie(1, 0, 1);
        x.say(1, 0, false);
        x.tie(2, 0, 1);
        x.say(2, 0, true);
        x.tie(3, 4, 0);
        x.tie(1, 0, 0);
        x.tie(2, 0, 0);
        DUE.is("sets", x.many(), 4);
        DUE.is("no TIE", x.rounds(), Due.NONE);
        x.tie(3, 0, 1);
        x.tie(3, 1, 1);
        DUE.is("0 and 1", x.rounds(), Due.NONE);
        x.tie(3, 2, 1);
        DUE.is("0, then 1 or 2", x.rounds(), 2);
        x.tie(3, 1, 0);
        DUE.is("0 and 2", x.rounds(), Due.NONE);
        x.tie(3, 1, 1);
        x.tie(3, 0, 0);
        DUE.is("1 and 2", x.rounds(), Due.NONE);
    }

    private static PoliteHall chances(int n, int chance) {
        PoliteHall x = new PoliteHall();
        for (int i = 0; i < n; i++) {
            x.machine(0, 1, chance);
        }
        return x;
    }

    private static void likelyOfLikeOnes() {
        DUE.sentence("LIKELY: the FITTING one with the greatest WEIGHT, of like ones the first");
        PoliteHall x = chances(12, 5);
        DUE.is("all alike", x.likely(), 0);
        x.tie(11, 10, 1);
        x.say(11, 10, false);
        DUE.is("the first that FITS", x.likely(), 1024);
        PoliteHall y = chances(2, 5);
        y.machine(0, 1, 6);
        DUE.is("the fewest of like ones", y.likely(), 4);
        PoliteHall z = chances(3, 9);
        z.most(1);
        DUE.is("the least bits of like ones", z.likely(), 1);
        z.most(0);
        DUE.is("none broken", z.likely(), 0);
    }

    private static void likelyBeyondInts() {
        DUE.sentence("WEIGHT: CHANCE of each that is in it, 10 less CHANCE of each other one, multiplied");
        DUE.is("1 of 10 each", chances(12, 1).likely(), 0);
        PoliteHall x = chances(12, 9);
        DUE.is("9 of 10 each", x.likely(), 4095);
        x.most(11);
        DUE.is("at most 11", x.likely(), 2047);
        PoliteHall y = chances(11, 9);
        y.machine(0, 1, 4);
        DUE.is("all but the last", y.likely(), 2047);
    }

    private static void lowestTerms() {
        DUE.sentence("CHANCE of one now: as a fraction in lowest terms");
        for (int chance = 1; chance <= 9; chance++) {
            PoliteHall x = chances(12, chance);
            int shared = chance == 5 ? 5 : chance % 2 == 0 ? 2 : 1;
            DUE.is("upper of " + chance, x.chance(11, 0), chance / shared);
            DUE.is("lower of " + chance, x.chance(11, 1), 10 / shared);
        }
        PoliteHall x = chances(12, 9);
        x.most(0);
        DUE.is("never: upper", x.chance(0, 0), 0);
        DUE.is("never: lower", x.chance(0, 1), 1);
        PoliteHall y = judged(2, 0);
        DUE.is("surely: upper", y.chance(1, 0), 1);
        DUE.is("surely: lower", y.chance(1, 1), 1);
        // At least one is broken, by what 10 said: the last, or 10 and all that may be.
        PoliteHall z = chances(12, 1);
        z.tie(10, 11, 1);
        z.say(10, 11, false);
        DUE.is("10 of both: upper", z.chance(10, 0), 10);
        DUE.is("10 of both: lower", z.chance(10, 1), 19);
        PoliteHall w = chances(12, 1);
        w.most(11);
        DUE.is("beyond ints: upper", w.chance(0, 0), 99_999_999_999L / 9);
        DUE.is("beyond ints: lower", w.chance(0, 1), 999_999_999_999L / 9);
    }

    private static void chanceOfNone() {
        DUE.sentence("chance: BEYOND. NONE.");
        PoliteHall x = chances(1, 1);
        DUE.is("chance(1, 0)", x.chance(1, 0), Due.BEYOND);
        DUE.is("chance(-1, 0)", x.chance(-1, 0), Due.BEYOND);
        DUE.is("chance(0, 2)", x.chance(0, 2), Due.BEYOND);
        DUE.is("chance(0, -1)", x.chance(0, -1), Due.BEYOND);
        PoliteHall y = judged(2, 0);
        y.most(0);
        DUE.is("none FITS: upper", y.chance(0, 0), Due.NONE);
        DUE.is("none FITS: lower", y.chance(0, 1), Due.NONE);
        DUE.is("none FITS: LIKELY", y.likely(), Due.NONE);
        DUE.is("none FITS, BEYOND first", y.chance(2, 0), Due.BEYOND);
        y.most(1);
        DUE.is("one FITS", y.likely(), 2);
    }

    private static PoliteHall star(int kind, int ties) {
        PoliteHall x = new PoliteHall();
        x.machine(kind, 1, 1);
        for (int i = 1; i < 12; i++) {
            x.machine(0, 1, 1);
        }
        for (int to = 1; to <= ties; to++) {
            x.tie(0, to, 1);
        }
        return x;
    }

    private static void worstOfAtMostEightTies() {
        DUE.sentence("worst: FULL: they have more than 8 TIES");
        PoliteHall polite = star(1, 8);
        // Whole of all eight: 0 is broken, or those eight are whole.
        DUE.is("8 ties: how many", polite.worst(1, 0), 2048 + 8);
        DUE.is("8 ties: what they say", polite.worst(1, 1), 255);
        polite.tie(0, 9, 1);
        DUE.is("9 ties", polite.worst(1, 0), Due.FULL);
        DUE.is("9 ties", polite.worst(1, 1), Due.FULL);
        DUE.is("of one that is whole", polite.worst(2, 1), 0);
        DUE.is("of none", polite.worst(0, 0), 2048 + 4);
        PoliteHall any = star(0, 8);
        DUE.is("all say broken: the least bits", any.worst(1, 1), 0);
        DUE.is("how many", any.worst(1, 0), 2048 + 8);
        PoliteHall both = star(0, 4);
        for (int to = 2; to <= 5; to++) {
            both.tie(1, to, 1);
        }
        DUE.is("4 and 4 ties", both.worst(3, 1) >= 0 ? 1 : 0, 1);
        both.tie(1, 6, 1);
        DUE.is("4 and 5 ties", both.worst(3, 1), Due.FULL);
        DUE.is("4 ties, 5 of one that is whole", both.worst(1, 1) >= 0 ? 1 : 0, 1);
    }

    private static void worstLeavesMuteOnesOut() {
        DUE.sentence("worst: those of MUTE ones left out");
        PoliteHall mute = star(5, 11);
        DUE.is("11 ties of a MUTE one: how many", mute.worst(1, 0), 4096);
        DUE.is("11 ties of a MUTE one: nothing is said", mute.worst(1, 1), 0);
        mute.tie(1, 2, 1);
        mute.tie(1, 3, 1);
        // 1 says broken of both, the least bits that let the most.
        DUE.is("another one's bits are the lowest", mute.worst(3, 1), 0);
        DUE.is("how many", mute.worst(3, 0), 2048 + 512);
        PoliteHall contrary = new PoliteHall();
        contrary.machine(5, 1, 1);
        contrary.machine(2, 1, 1);
        contrary.machine(5, 1, 1);
        Due.tieAll(contrary);
        DUE.is("a CONTRARY one between MUTE ones: of 0 whole, of 2 broken", contrary.worst(3, 1), 1);
        DUE.is("a CONTRARY one between MUTE ones: of 0 broken, of 2 whole", contrary.worst(6, 1), 2);
        DUE.is("MUTE ones alone", contrary.worst(5, 1), 0);
    }

    private static void worstBitsInOrder() {
        DUE.sentence("what they say, as bits (1: whole) of TIES from them in order (from, then to)");
        PoliteHall x = Due.tieAll(Due.hallOf(3, 2));
        DUE.is("0 and 1", x.worst(3, 1), 0b0101);
        DUE.is("0 and 2", x.worst(5, 1), 0b0110);
        DUE.is("1 and 2", x.worst(6, 1), 0b1010);
        DUE.is("all", x.worst(7, 1), 0b111111);
        DUE.is("one", x.worst(1, 1), 0);
        PoliteHall y = new PoliteHall();
        y.machine(1, 1, 1);
        y.machine(2, 1, 1);
        y.machine(0, 1, 1);
        y.tie(1, 2, 1);
        y.tie(0, 2, 1);
        DUE.is("a POLITE one's is the lowest", y.worst(3, 1), 0b01);
        y.tie(0, 1, 1);
        DUE.is("two of the POLITE one", y.worst(3, 1), 0b011);
        PoliteHall z = Due.hallOf(2, 0);
        z.tie(0, 1, 1);
        z.most(0);
        DUE.is("none FITS but by whole", z.worst(1, 1), 1);
        z.tie(1, 0, 1);
        DUE.is("none FITS at all: the least bits", z.worst(1, 1), 0);
        DUE.is("none FITS at all", z.worst(1, 0), 0);
        PoliteHall polite = Due.tieAll(Due.hallOf(2, 1));
        polite.most(0);
        DUE.is("none FITS at all, a POLITE one says whole", polite.worst(1, 1), 1);
        DUE.is("none FITS at all", polite.worst(1, 0), 0);
        PoliteHall contrary = Due.hallOf(2, 2);
        contrary.tie(0, 1, 1);
        DUE.is("what is not so: broken of one that is whole", contrary.worst(1, 1), 0);
        DUE.is("what is not so: whole of one that is broken", contrary.worst(3, 1), 1);
    }

    private static void worstByMost() {
        DUE.sentence("WORST: so that the most SETS FIT, of at most MOST");
        PoliteHall x = star(0, 2);
        DUE.is("12", x.worst(1, 0), 2048 + 512);
        x.most(1);
        DUE.is("1", x.worst(1, 0), 11);
        DUE.is("1: whole of both", x.worst(1, 1), 3);
        x.most(0);
        DUE.is("0", x.worst(1, 0), 1);
        DUE.is("0: whole of both", x.worst(1, 1), 3);
        DUE.is("all are broken, at most none may be", x.worst(4095, 0), 1);
    }

    private static void sayingsDoNotCount() {
        DUE.sentence("WORST: all TIES are tried once (SAYINGS that there are don't count)");
        PoliteHall x = Due.tieAll(Due.hallOf(3, 0));
        int many = x.worst(1, 0);
        int words = x.worst(1, 1);
        x.say(0, 1, true);
        x.say(1, 0, true);
        x.say(1, 2, false);
        DUE.is("how many", x.worst(1, 0), many);
        DUE.is("what they say", x.worst(1, 1), words);
        DUE.is("how many FIT now", many, 3);
        DUE.is("none came of it", x.count(2), 3);
    }

    private static void noMoreThanCoins() {
        DUE.sentence("MEND: those to mend, their PRICES together being no more; coins (0 .. 9999)");
        PoliteHall x = new PoliteHall();
        for (int i = 0; i < 12; i++) {
            x.machine(0, 99, 1);
        }
        DUE.is("0 coins", x.mend(0), 0);
        DUE.is("98 coins", x.mend(98), 0);
        DUE.is("99 coins", x.mend(99), 1);
        DUE.is("197 coins", x.mend(197), 1);
        DUE.is("198 coins", x.mend(198), 3);
        DUE.is("1187 coins", x.mend(1187), 2047);
        DUE.is("1188 coins", x.mend(1188), 4095);
        DUE.is("9999 coins", x.mend(9999), 4095);
        DUE.is("10000 coins", x.mend(10000), Due.BEYOND);
        DUE.is("-1 coins", x.mend(-1), Due.BEYOND);
    }

    private static void cheapestThenLeast() {
        DUE.sentence("MEND: the SET that holds (wholly) the most of FITTING ones; of several the cheapest, then the least bits");
        PoliteHall x = new PoliteHall();
        x.machine(0, 3, 1);
        x.machine(0, 2, 1);
        x.machine(0, 2, 1);
        x.machine(1, 1, 1);
        DUE.is("one of the price of two", x.mend(3), 10);
        DUE.is("the least bits", x.mend(2), 8);
        x.tie(3, 0, 1);
        x.say(3, 0, false);
        // 0 is in all, 3 in none: nothing without 0 holds any.
        DUE.is("none is held: nothing", x.mend(2), 0);
        DUE.is("0 alone", x.mend(3), 1);
        DUE.is("0 and the first of like ones", x.mend(5), 3);
        DUE.is("never 3", x.mend(6), 3);
        DUE.is("all that may be", x.mend(9999), 7);
        x.most(0);
        DUE.is("none FITS: nothing", x.mend(9999), 0);
    }

    private static void mendedByAndOf() {
        DUE.sentence("A MACHINE that is MENDED: all SAYINGS by it and of it are UNSAID; how many were");
        PoliteHall x = Due.tieAll(Due.hallOf(3, 0));
        DUE.is("none", x.mended(0), 0);
        for (int i = 0; i < 60; i++) {
            x.say(i % 2, i % 2 + 1, true);
        }
        x.unsay(0);
        x.unsay(59);
        DUE.is("of it alone", x.mended(2), 29);
        DUE.is("by 1", x.machineIs(1, 4), 0);
        DUE.is("of 1", x.machineIs(1, 5), 29);
        DUE.is("the first that counts", x.sayingIs(2, 3), 1);
        DUE.is("by it alone", x.mended(0), 29);
        DUE.is("none more", x.mended(0), 0);
        DUE.is("those that count", x.count(3), 0);
        DUE.is("their numbers stay", x.count(2), 60);
        DUE.is("mended(3)", x.mended(3), Due.BEYOND);
        DUE.is("mended(-1)", x.mended(-1), Due.BEYOND);
        PoliteHall y = Due.hallOf(2, 0);
        y.tie(0, 1, 1);
        for (int i = 0; i < 60; i++) {
            y.say(0, 1, true);
        }
        DUE.is("all sixty", y.mended(1), 60);
        DUE.is("the ties stay", y.count(1), 1);
        DUE.is("no room comes of it", y.say(0, 1, true), Due.FULL);
    }
}
