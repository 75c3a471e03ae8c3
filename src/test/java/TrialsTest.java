/** Promises 23 to 29: the next trial, rounds, chances, the worst, mending. */
public final class TrialsTest {
    private static final Due DUE = new Due();

    public static void main(String[] args) {
        next();
        rounds();
        roundsRefused();
        likely();
        chance();
        largestFraction();
        worst();
        worstByKinds();
        worstRefused();
        mend();
        mended();
        DUE.end();
    }

    private static void next() {
        PoliteHall x = Due.hallOf(2, 0);
        DUE.is("next(0), no tie", x.next(0), Due.NONE);
        DUE.is("next(2), no tie", x.next(2), Due.BEYOND);
        x.tie(0, 1, 5);
        x.tie(1, 0, 3);
        DUE.is("next(0), the lesser cost", x.next(0), 100);
        DUE.is("next(1)", x.next(1), 3);
        x.tie(1, 0, 5);
        DUE.is("next(0), the least from", x.next(0), 1);
        DUE.is("next(-1)", x.next(-1), Due.BEYOND);
        x.most(1);
        x.say(0, 1, true);
        // {} and {0} are left: 1 tells them apart at whatever cost.
        x.tie(1, 0, 99);
        DUE.is("next(0), the one that tells", x.next(0), 100);
        DUE.is("next(1)", x.next(1), 1);
        x.most(0);
        x.say(0, 1, false);
        DUE.is("next(0), none fits", x.next(0), 1);
        DUE.is("next(1), none fits", x.next(1), 0);
        // A broken mute one would say nothing: its sets fit neither way.
        PoliteHall y = new PoliteHall();
        y.machine(5, 1, 1);
        y.machine(0, 1, 1);
        y.tie(0, 1, 1);
        DUE.is("next(1) of a mute one", y.next(1), 2);
        // By 0 the sets of 0 broken fit both ways: with 0 whole for sure, what it says of 1 parts them.
        PoliteHall w = judged(1);
        w.tie(0, 1, 1);
        DUE.is("next(0) of a judge", w.next(0), 100);
        DUE.is("next(1) of a judge", w.next(1), 1);
        PoliteHall z = Due.hallOf(3, 0);
        z.tie(2, 0, 4);
        z.tie(2, 1, 4);
        DUE.is("next(0), the least to", z.next(0), 200);
    }

    /** A polite one that said broken is whole: it tells of others what is so, one a trial. */
    private static PoliteHall judged(int unknown) {
        PoliteHall x = Due.hallOf(unknown, 0);
        x.machine(1, 1, 1);
        x.machine(0, 1, 1);
        for (int i = 0; i < unknown; i++) {
            x.tie(unknown, i, 1);
        }
        x.tie(unknown, unknown + 1, 1);
        x.say(unknown, unknown + 1, false);
        return x;
    }

    private static void rounds() {
        DUE.is("rounds of no machines", new PoliteHall().rounds(), 0);
        DUE.is("rounds, nothing unknown", judged(0).rounds(), 0);
        DUE.is("rounds, one unknown", judged(1).rounds(), 1);
        DUE.is("rounds, two unknown", judged(2).rounds(), 2);
        DUE.is("rounds, three unknown", judged(3).rounds(), Due.NONE);
        PoliteHall x = judged(2);
        x.most(0);
        DUE.is("rounds, none fits", x.rounds(), 0);
        PoliteHall one = Due.hallOf(1, 0);
        DUE.is("rounds, no tie", one.rounds(), Due.NONE);
        PoliteHall y = Due.hallOf(2, 0);
        y.tie(0, 1, 1);
        y.tie(1, 0, 1);
        y.most(1);
        DUE.is("rounds of two, at most one broken", y.rounds(), Due.NONE);
        y.say(0, 1, true);
        DUE.is("one trial tells", y.rounds(), 1);
        y.say(1, 0, true);
        DUE.is("none is needed", y.rounds(), 0);
        // A slack judge, whole since a polite one said nothing else could be: whole says nothing, broken tells.
        PoliteHall z = judged(1);
        z.machine(3, 1, 1);
        z.tie(1, 3, 1);
        z.say(1, 3, true);
        z.tie(3, 0, 1);
        z.tie(1, 0, 0);
        DUE.is("sets left", z.many(), 2);
        DUE.is("whole leaves both", z.rounds(), Due.NONE);
        z.tie(1, 0, 1);
        DUE.is("the polite one tells", z.rounds(), 1);
        // The first of two trials leaves one set or two, by what was said.
        PoliteHall w = judged(2);
        w.most(2);
        DUE.is("three sets", w.many(), 3);
        DUE.is("two trials", w.rounds(), 2);
    }

    private static void roundsRefused() {
        PoliteHall x = Due.ring(8, 3);
        x.most(0);
        DUE.is("ties", x.count(1), 24);
        DUE.is("rounds of 8 machines and 24 ties", x.rounds(), 0);
        x.tie(0, 4, 1);
        DUE.is("rounds of 25 ties", x.rounds(), Due.FULL);
        PoliteHall y = Due.hallOf(9, 0);
        y.most(0);
        DUE.is("rounds of 9 machines", y.rounds(), Due.FULL);
        DUE.is("told", y.told(4), 1);
    }

    private static void likely() {
        PoliteHall x = new PoliteHall();
        DUE.is("likely of no machines", x.likely(), 0);
        x.machine(0, 1, 6);
        x.machine(0, 1, 5);
        x.machine(0, 1, 4);
        // {0} and {0, 1} weigh alike: the fewer ones first.
        DUE.is("likely", x.likely(), 1);
        x.tie(0, 2, 1);
        x.say(0, 2, false);
        DUE.is("likely still", x.likely(), 1);
        x.most(0);
        DUE.is("likely, none fits", x.likely(), Due.NONE);
        PoliteHall y = new PoliteHall();
        y.machine(0, 1, 5);
        y.machine(0, 1, 5);
        DUE.is("likely of like ones", y.likely(), 0);
        y.tie(0, 1, 1);
        y.say(0, 1, false);
        DUE.is("likely of like ones: the least bits", y.likely(), 1);
    }

    private static void chance() {
        PoliteHall x = new PoliteHall();
        x.machine(0, 1, 2);
        x.machine(0, 1, 5);
        x.tie(0, 1, 1);
        DUE.is("chance(0, 0)", x.chance(0, 0), 1);
        DUE.is("chance(0, 1)", x.chance(0, 1), 5);
        x.say(0, 1, false);
        // {0}: 2*5, {1}: 8*5, {0, 1}: 2*5.
        DUE.is("chance(0, 0)", x.chance(0, 0), 1);
        DUE.is("chance(0, 1)", x.chance(0, 1), 3);
        DUE.is("chance(1, 0)", x.chance(1, 0), 5);
        DUE.is("chance(1, 1)", x.chance(1, 1), 6);
        DUE.is("chance(2, 0)", x.chance(2, 0), Due.BEYOND);
        DUE.is("chance(-1, 0)", x.chance(-1, 0), Due.BEYOND);
        DUE.is("chance(0, 2)", x.chance(0, 2), Due.BEYOND);
        DUE.is("chance(0, -1)", x.chance(0, -1), Due.BEYOND);
        x.most(0);
        DUE.is("chance, none fits", x.chance(0, 0), Due.NONE);
        DUE.is("chance, BEYOND ahead", x.chance(2, 0), Due.BEYOND);
        x.unsay(0);
        DUE.is("chance of one that is whole", x.chance(0, 0), 0);
        DUE.is("chance of it, lower", x.chance(0, 1), 1);
        DUE.is("told BEYOND", x.told(1), 5);
        DUE.is("told NONE", x.told(2), 1);
    }

    /** At most 11 of 12 with chance 9 broken: weights beyond any int. */
    private static void largestFraction() {
        PoliteHall x = new PoliteHall();
        for (int i = 0; i < 12; i++) {
            x.machine(0, 1, 9);
        }
        x.most(11);
        long all = 1_000_000_000_000L - 282_429_536_481L;
        long with = 900_000_000_000L - 282_429_536_481L;
        long shared = java.math.BigInteger.valueOf(all).gcd(java.math.BigInteger.valueOf(with)).longValue();
        DUE.is("upper", x.chance(0, 0), with / shared);
        DUE.is("lower", x.chance(0, 1), all / shared);
    }

    private static void worst() {
        PoliteHall x = Due.tieAll(Due.hallOf(3, 0));
        // 0 blames both others: {0}, {1, 2} and all fit.
        DUE.is("worst(1, 0)", x.worst(1, 0), 3);
        DUE.is("worst(1, 1)", x.worst(1, 1), 0);
        x.most(1);
        DUE.is("worst(1, 0), at most one", x.worst(1, 0), 1);
        DUE.is("worst(0, 0)", x.worst(0, 0), 1);
        DUE.is("worst(0, 1)", x.worst(0, 1), 0);
        x.say(1, 0, true);
        x.say(2, 0, false);
        x.say(0, 1, false);
        DUE.is("sayings that there are don't count", x.worst(1, 0), 1);
        x.most(0);
        DUE.is("worst of more than most: none fits", x.worst(1, 0), 0);
        // 0 alone is asked, of 1 and 2: broken, it says that 1 is whole for {} to fit too.
        PoliteHall y = Due.hallOf(2, 0);
        y.tie(0, 1, 1);
        y.most(1);
        DUE.is("worst(1, 0) of one tie", y.worst(1, 0), 2);
        DUE.is("worst(1, 1): the least bits", y.worst(1, 1), 0);
        y.tie(1, 0, 1);
        DUE.is("worst(1, 0), blaming each other", y.worst(1, 0), 2);
        DUE.is("worst(1, 1), blaming each other", y.worst(1, 1), 0);
        y.tie(1, 0, 0);
        y.most(0);
        DUE.is("worst(1, 1): whole, for none", y.worst(1, 1), 1);
    }

    private static void worstByKinds() {
        PoliteHall polite = new PoliteHall();
        polite.machine(1, 1, 1);
        polite.machine(0, 1, 1);
        polite.machine(0, 1, 1);
        Due.tieAll(polite);
        DUE.is("polite: whole alone", polite.worst(1, 1), 3);
        DUE.is("polite: how many", polite.worst(1, 0), 2);
        PoliteHall contrary = new PoliteHall();
        contrary.machine(2, 1, 1);
        contrary.machine(0, 1, 1);
        contrary.machine(0, 1, 1);
        contrary.tie(0, 1, 1);
        contrary.tie(0, 2, 1);
        DUE.is("contrary: the first tie is the lowest bit", contrary.worst(3, 1), 1);
        DUE.is("contrary: the second one above", contrary.worst(5, 1), 2);
        // {0} broken with 1 and 2 whole: {0}, and {1, 2} with 0 whole.
        DUE.is("contrary: how many", contrary.worst(1, 0), 2);
        PoliteHall pact = new PoliteHall();
        pact.machine(4, 1, 1);
        pact.machine(0, 1, 1);
        pact.machine(0, 1, 1);
        pact.tie(0, 1, 1);
        pact.tie(0, 2, 1);
        // Of 1, which is broken, it says whole; of 2 broken: {2}, {0}, {0, 1}, or whole: {}, {0}, {0, 1}, {0, 2}, all.
        DUE.is("pact: whole of friends", pact.worst(3, 1), 3);
        DUE.is("pact: how many", pact.worst(3, 0), 5);
        PoliteHall mute = new PoliteHall();
        mute.machine(5, 1, 1);
        mute.machine(0, 1, 1);
        mute.tie(0, 1, 1);
        mute.tie(1, 0, 1);
        // 1 says that 0 is broken; 0 says nothing: {0}, {1}, both.
        DUE.is("mute: how many", mute.worst(1, 0), 3);
        DUE.is("mute: no bits", mute.worst(1, 1), 0);
        // 0 is whole and says that 1 is broken, 1 anything: 0 spoke, so it is whole.
        DUE.is("mute and whole: how many", mute.worst(2, 0), 1);
        PoliteHall slack = new PoliteHall();
        slack.machine(3, 1, 1);
        slack.machine(0, 1, 1);
        slack.tie(0, 1, 1);
        // A whole slack one says what is so here: 1 is whole, which fits every set.
        DUE.is("slack and whole", slack.worst(0, 0), 4);
        DUE.is("slack, broken: whole", slack.worst(1, 0), 4);
        DUE.is("slack, broken: says", slack.worst(1, 1), 1);
    }

    private static void worstRefused() {
        PoliteHall x = Due.hallOf(11, 0);
        x.machine(5, 1, 1);
        for (int i = 1; i <= 8; i++) {
            x.tie(0, i, 1);
        }
        for (int i = 0; i < 11; i++) {
            x.tie(11, i, 1);
        }
        x.most(1);
        DUE.is("8 ties, those of the mute one left out", x.worst(0b100000000001, 0) >= 0 ? 1 : 0, 1);
        x.tie(0, 9, 1);
        DUE.is("9 ties", x.worst(1, 0), Due.FULL);
        DUE.is("9 ties, what beyond", x.worst(1, 2), Due.BEYOND);
        DUE.is("a set beyond", x.worst(1 << 12, 0), Due.BEYOND);
        DUE.is("a set below", x.worst(-1, 0), Due.BEYOND);
        DUE.is("what below", x.worst(0, -1), Due.BEYOND);
        DUE.is("9 ties of one that is whole", x.worst(0, 0) >= 0 ? 1 : 0, 1);
    }

    private static void mend() {
        PoliteHall x = new PoliteHall();
        DUE.is("mend of no machines", x.mend(0), 0);
        x.machine(0, 30, 1);
        x.machine(0, 20, 1);
        x.machine(0, 10, 1);
        DUE.is("mend(0)", x.mend(0), 0);
        DUE.is("mend(9)", x.mend(9), 0);
        DUE.is("mend(10)", x.mend(10), 4);
        DUE.is("mend(29): the cheapest of those that hold two", x.mend(29), 4);
        DUE.is("mend(30): two hold four", x.mend(30), 6);
        DUE.is("mend(59)", x.mend(59), 6);
        DUE.is("mend(60)", x.mend(60), 7);
        DUE.is("mend(9999)", x.mend(9999), 7);
        DUE.is("mend(10000)", x.mend(10000), Due.BEYOND);
        DUE.is("mend(-1)", x.mend(-1), Due.BEYOND);
        PoliteHall y = Due.hallOf(3, 0);
        DUE.is("mend, like prices: the least bits", y.mend(10), 1);
        DUE.is("mend, like prices: two", y.mend(29), 3);
        y.tie(0, 1, 1);
        y.say(0, 1, false);
        y.most(0);
        DUE.is("mend, none fits: nothing", y.mend(9999), 0);
    }

    private static void mended() {
        PoliteHall x = Due.tieAll(Due.hallOf(3, 0));
        x.say(0, 1, true);
        x.say(1, 0, false);
        x.say(1, 2, false);
        x.say(2, 0, false);
        x.say(2, 1, true);
        x.unsay(4);
        DUE.is("mended(1)", x.mended(1), 3);
        DUE.is("those that count", x.count(3), 1);
        DUE.is("the one that counts", x.sayingIs(3, 3), 1);
        DUE.is("mended(1) again", x.mended(1), 0);
        DUE.is("mended(0)", x.mended(0), 1);
        DUE.is("sayings stay", x.count(2), 5);
        DUE.is("many", x.many(), 8);
        DUE.is("mended(3)", x.mended(3), Due.BEYOND);
        DUE.is("mended(-1)", x.mended(-1), Due.BEYOND);
    }
}
