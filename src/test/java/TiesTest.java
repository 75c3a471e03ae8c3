import java.util.Random;

/** Promises 19 to 22: what can be known by ties. */
public final class TiesTest {
    private static final Due DUE = new Due();

    public static void main(String[] args) {
        fewMachines();
        afresh();
        complete();
        kindsAndSayingsDoNotMatter();
        rings();
        more();
        without();
        asPlain();
        DUE.end();
    }

    private static void fewMachines() {
        PoliteHall x = new PoliteHall();
        DUE.is("known of none", x.known(), 12);
        DUE.is("pair(0) of none", x.pair(0), Due.NONE);
        DUE.is("pair(2) of none", x.pair(2), Due.BEYOND);
        DUE.is("more of none", x.more(), Due.NONE);
        DUE.is("without of none", x.without(0, 0), Due.BEYOND);
        x.machine(0, 1, 1);
        DUE.is("known of one", x.known(), 0);
        DUE.is("pair(0) of one", x.pair(0), 1);
        DUE.is("pair(1) of one", x.pair(1), 0);
        DUE.is("pair(-1)", x.pair(-1), Due.BEYOND);
        DUE.is("more of one", x.more(), Due.NONE);
        x.machine(0, 1, 1);
        DUE.is("known of two", x.known(), 0);
        DUE.is("more of two", x.more(), 1);
        x.tie(0, 1, 1);
        DUE.is("pair(0) of two", x.pair(0), 1);
        DUE.is("pair(1) of two", x.pair(1), 0);
        x.tie(1, 0, 1);
        // Nobody alone is as none any more, but {0} and {1} are as one.
        DUE.is("known of two that try each other", x.known(), 0);
        DUE.is("pair(0), apart", x.pair(0), 1);
        DUE.is("pair(1), apart", x.pair(1), 2);
        DUE.is("more, all there", x.more(), Due.NONE);
    }

    /** Each answer is of the ties as they are, whatever was asked ahead. */
    private static void afresh() {
        PoliteHall x = Due.tieAll(Due.hallOf(3, 0));
        DUE.is("pair(0) at once", x.pair(0), 3);
        DUE.is("pair(1) at once", x.pair(1), 4);
        x.tie(0, 1, 0);
        DUE.is("more at once", x.more(), 1);
        x.tie(0, 1, 1);
        x.without(0, 1);
        x.tie(2, 1, 0);
        DUE.is("pair(0) behind without", x.pair(0), 3);
        DUE.is("pair(1) behind without", x.pair(1), 1);
        DUE.is("known behind it", x.known(), 1);
        x.tie(0, 1, 0);
        DUE.is("more behind it", x.more(), 1);
        DUE.is("pair(0) of one that nobody tries", x.pair(0), 2);
        DUE.is("pair(1) of one that nobody tries", x.pair(1), 0);
    }

    private static void complete() {
        for (int n = 3; n <= 12; n++) {
            PoliteHall x = Due.tieAll(Due.hallOf(n, 0));
            int all = (1 << n) - 1;
            int first = (1 << (n + 1) / 2) - 1;
            DUE.is("known of all " + n, x.known(), (n - 1) / 2);
            DUE.is("pair(0) of all " + n, x.pair(0), first);
            DUE.is("pair(1) of all " + n, x.pair(1), all & ~first);
            DUE.is("more of all " + n, x.more(), Due.NONE);
        }
    }

    private static void kindsAndSayingsDoNotMatter() {
        PoliteHall x = Due.tieAll(Due.hallOf(5, 5));
        x.say(0, 1, true);
        x.most(0);
        DUE.is("known of mute ones", x.known(), 2);
    }

    /** Each tries the next d: then d can be known, as far as half of them are whole. */
    private static void rings() {
        for (int n = 3; n <= 12; n++) {
            for (int d = 1; d < n; d++) {
                DUE.is("ring " + n + " by " + d, Due.ring(n, d).known(), Math.min(d, (n - 1) / 2));
            }
        }
    }

    private static void more() {
        PoliteHall x = Due.tieAll(Due.hallOf(5, 0));
        x.tie(3, 1, 0);
        DUE.is("the one that is missing", x.more(), 301);
        x.tie(2, 0, 0);
        DUE.is("like ones: the least from", x.more(), 200);
        x.tie(4, 1, 0);
        x.tie(0, 1, 0);
        // 1 is tried by 2 alone: 1 can be known, 2 with one more tie to it.
        DUE.is("known", x.known(), 1);
        DUE.is("the one that helps, not the least", x.more(), 1);
        x.tie(0, 1, 1);
        x.tie(2, 1, 0);
        DUE.is("known again", x.known(), 1);
        DUE.is("the least from that helps", x.more(), 201);
        DUE.is("nothing was tied by asking", x.count(1), 16);
    }

    private static void without() {
        PoliteHall x = Due.tieAll(Due.hallOf(5, 0));
        x.tie(2, 1, 0);
        x.tie(3, 1, 0);
        DUE.is("known", x.known(), 2);
        DUE.is("without one that matters", x.without(0, 1), 1);
        DUE.is("without another", x.without(1, 0), 2);
        DUE.is("without none such", x.without(2, 1), Due.STATE);
        DUE.is("without one to itself", x.without(1, 1), Due.STATE);
        DUE.is("without beyond", x.without(5, 1), Due.BEYOND);
        DUE.is("without beyond", x.without(1, -1), Due.BEYOND);
        DUE.is("it is there still", x.known(), 2);
        DUE.is("ties", x.count(1), 18);
    }

    private static void asPlain() {
        Random random = new Random(1);
        for (int round = 0; round < 60; round++) {
            int n = round < 10 ? 9 : 5 + random.nextInt(3);
            int density = 20 + random.nextInt(80);
            PoliteHall x = new PoliteHall();
            PlainHall plain = new PlainHall();
            for (int i = 0; i < n; i++) {
                x.machine(0, 1, 1);
                plain.machine(0, 1, 1);
            }
            for (int i = 0; i < n; i++) {
                for (int j = 0; j < n; j++) {
                    if (i != j && random.nextInt(100) < density) {
                        x.tie(i, j, 1);
                        plain.tie(i, j, 1);
                    }
                }
            }
            String who = n + " machines of density " + density + ": ";
            DUE.is(who + "known", x.known(), plain.known());
            DUE.is(who + "pair(0)", x.pair(0), plain.pair(0));
            DUE.is(who + "pair(1)", x.pair(1), plain.pair(1));
            if (n < 8) {
                DUE.is(who + "more", x.more(), plain.more());
            }
        }
    }
}
