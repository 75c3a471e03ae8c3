/**
 * Promises 12 to 28 on small halls, one after the other and not by chance: each answer must be that of PlainHall. All
 * ties, kinds and sayings come (a saying by each tie at most); prices and chances don't change, and a hall has one MOST.
 */
public final class SmallHallsTest {
    private static final Due DUE = new Due();
    private static final int KINDS = 6;
    private static final int THREE = 3;
    /** Of three machines: all kinds that they may be of, and all that each may have said of each other, or nothing. */
    private static final int ALL_KINDS = KINDS * KINDS * KINDS;
    private static final int ALL_SAID = 3 * 3 * 3 * 3 * 3 * 3;

    private final PoliteHall x = new PoliteHall();
    private final PlainHall plain = new PlainHall();
    private final String who;

    private SmallHallsTest(String who) {
        this.who = who;
    }

    public static void main(String[] args) {
        everyWayToTie();
        everyRumour();
        everyTalk();
        DUE.end();
    }

    private void same(String call, long got, long due) {
        DUE.is(who + call, got, due);
    }

    private void machine(int kind, int price, int chance) {
        x.machine(kind, price, chance);
        plain.machine(kind, price, chance);
    }

    private void tie(int from, int to, int cost) {
        x.tie(from, to, cost);
        plain.tie(from, to, cost);
    }

    private void say(int from, int to, boolean whole) {
        x.say(from, to, whole);
        plain.say(from, to, whole);
    }

    private void most(int v) {
        x.most(v);
        plain.most(v);
    }

    /** A bit for each two machines, in order: whether there is a tie. */
    private void tieBy(int bits, int machines) {
        int rest = bits;
        for (int from = 0; from < machines; from++) {
            for (int to = 0; to < machines; to++) {
                if (from != to) {
                    tie(from, to, (rest & 1) * (1 + from * to % 2));
                    rest >>= 1;
                }
            }
        }
    }

    private static SmallHallsTest three(int kinds, String who) {
        SmallHallsTest hall = new SmallHallsTest("kinds " + kinds + who);
        hall.machine(kinds % KINDS, 2, 1);
        hall.machine(kinds / KINDS % KINDS, 1, 4);
        hall.machine(kinds / KINDS / KINDS, 1, 7);
        return hall;
    }

    private static void everyWayToTie() {
        DUE.sentence("promises 19 to 22");
        for (int n = 0; n <= 4; n++) {
            for (int bits = 0; bits < 1 << n * (n - 1); bits++) {
                SmallHallsTest hall = new SmallHallsTest(n + " machines, ties " + bits + ": ");
                for (int i = 0; i < n; i++) {
                    hall.machine(0, 1, 1);
                }
                hall.tieBy(bits, n);
                hall.askOfTies(n);
            }
        }
    }

    private void askOfTies(int n) {
        same("known()", x.known(), plain.known());
        same("pair(0)", x.pair(0), plain.pair(0));
        same("pair(1)", x.pair(1), plain.pair(1));
        same("more()", x.more(), plain.more());
        for (int from = 0; from < n; from++) {
            for (int to = 0; to < n; to++) {
                same("without(" + from + ", " + to + ")", x.without(from, to), plain.without(from, to));
            }
        }
    }

    private static void everyRumour() {
        DUE.sentence("promise 27");
        for (int kinds = 0; kinds < ALL_KINDS; kinds++) {
            for (int bits = 0; bits < 1 << THREE * (THREE - 1); bits++) {
                SmallHallsTest hall = three(kinds, ", ties " + bits + ": ");
                hall.tieBy(bits, THREE);
                hall.askOfRumours((kinds + bits) % (THREE + 1));
            }
        }
    }

    private void askOfRumours(int mostBroken) {
        most(mostBroken);
        for (int set = 0; set < 1 << THREE; set++) {
            same("worst(" + set + ", 0)", x.worst(set, 0), plain.worst(set, 0));
            same("worst(" + set + ", 1)", x.worst(set, 1), plain.worst(set, 1));
        }
    }

    private static void everyTalk() {
        DUE.sentence("promises 12 to 18, 23 to 26, 28");
        for (int kinds = 0; kinds < ALL_KINDS; kinds++) {
            for (int said = 0; said < ALL_SAID; said++) {
                SmallHallsTest hall = three(kinds, ", said " + said + ": ");
                hall.tieBy(-1, THREE);
                hall.sayBy(said);
                hall.most(1 + (kinds + said) % THREE);
                hall.askOfSets();
                hall.askOfTrials();
            }
        }
    }

    /** A digit of base 3 for each tie: nothing, whole, broken. */
    private void sayBy(int digits) {
        int rest = digits;
        for (int from = 0; from < THREE; from++) {
            for (int to = 0; to < THREE; to++) {
                if (from != to) {
                    if (rest % 3 != 0) {
                        say(from, to, rest % 3 == 1);
                    }
                    rest /= 3;
                }
            }
        }
    }

    private void askOfSets() {
        same("many()", x.many(), plain.many());
        for (int i = 0; i < 1 << THREE; i++) {
            same("fits(" + i + ")", x.fits(i), plain.fits(i));
            same("bars(" + i + ")", x.bars(i), plain.bars(i));
            same("which(" + i + ")", x.which(i), plain.which(i));
        }
        for (int what = 0; what < 2; what++) {
            same("sure(" + what + ")", x.sure(what), plain.sure(what));
            same("blame(" + what + ")", x.blame(what), plain.blame(what));
        }
        for (int i = 0; i < THREE; i++) {
            same("leads(" + i + ")", x.leads(i), plain.leads(i));
        }
    }

    private void askOfTrials() {
        same("next(0)", x.next(0), plain.next(0));
        same("next(1)", x.next(1), plain.next(1));
        same("rounds()", x.rounds(), plain.rounds());
        same("likely()", x.likely(), plain.likely());
        for (int i = 0; i < THREE; i++) {
            same("chance(" + i + ", 0)", x.chance(i, 0), plain.chance(i, 0));
            same("chance(" + i + ", 1)", x.chance(i, 1), plain.chance(i, 1));
        }
        for (int coins = 0; coins <= 4; coins++) {
            same("mend(" + coins + ")", x.mend(coins), plain.mend(coins));
        }
    }
}
