/** The sentences of promises 19 to 22 that name an edge, one by one. */
public final class TieEdgesTest {
    private static final Due DUE = new Due();

    public static void main(String[] args) {
        twelveIfNoMachines();
        noTiesAtAll();
        allTies();
        asIfAllWereOfKindNought();
        noTieFromNeither();
        leastUnion();
        mostInJustOne();
        oneMoreThanHalf();
        othersAreInBoth();
        allAreThere();
        ofLikeOnesTheLeast();
        theGreatestFirst();
        withoutATie();
        DUE.end();
    }

    private static void pair(PoliteHall x, int known, int first, int other) {
        DUE.is("known()", x.known(), known);
        DUE.is("pair(0)", x.pair(0), first);
        DUE.is("pair(1)", x.pair(1), other);
    }

    private static void twelveIfNoMachines() {
        DUE.sentence("KNOWN: 12, if there are no MACHINES; THE PAIR: NONE: KNOWN is 12");
        PoliteHall x = new PoliteHall();
        DUE.is("known()", x.known(), 12);
        DUE.is("pair(0)", x.pair(0), Due.NONE);
        DUE.is("pair(1)", x.pair(1), Due.NONE);
        DUE.is("pair(2)", x.pair(2), Due.BEYOND);
        DUE.is("pair(-1)", x.pair(-1), Due.BEYOND);
        x.image();
        x.machine(0, 1, 1);
        pair(x, 0, 1, 0);
        DUE.is("pair(2)", x.pair(2), Due.BEYOND);
        x.restore();
        DUE.is("known() of none again", x.known(), 12);
    }

    private static void noTiesAtAll() {
        DUE.sentence("KNOWN is 0, if one is as none");
        for (int n = 1; n <= 12; n++) {
            pair(Due.hallOf(n, 0), 0, 1, 0);
        }
        PoliteHall x = Due.tieAll(Due.hallOf(12, 0));
        for (int i = 0; i < 11; i++) {
            x.tie(i, 11, 0);
        }
        pair(x, 0, 2048, 0);
    }

    private static void allTies() {
        DUE.sentence("the greatest t so that no two unlike SETS of t or fewer are as one");
        for (int n = 1; n <= 12; n++) {
            PoliteHall x = Due.tieAll(Due.hallOf(n, 0));
            int all = (1 << n) - 1;
            int first = (1 << (n + 1) / 2) - 1;
            pair(x, (n - 1) / 2, first, all - first);
        }
    }

    private static void asIfAllWereOfKindNought() {
        DUE.sentence("as if all were MACHINES of KIND 0, none of them has said anything");
        for (int kind = 0; kind < 6; kind++) {
            PoliteHall x = Due.tieAll(Due.hallOf(4, kind));
            x.most(0);
            x.say(0, 1, true);
            x.say(1, 0, false);
            pair(x, 1, 3, 12);
        }
    }

    private static void noTieFromNeither() {
        DUE.sentence("as one, if there is no TIE from a MACHINE in neither of them to one that is in just one of them");
        PoliteHall x = Due.hallOf(3, 0);
        x.tie(1, 0, 1);
        pair(x, 0, 2, 0);
        x.tie(0, 1, 1);
        // {0} and {1} are as one by 2, which tries neither; nobody tries 2, but {2} and {} have the greater union.
        pair(x, 0, 1, 2);
        x.tie(0, 2, 1);
        pair(x, 0, 1, 2);
        x.tie(2, 1, 1);
        pair(x, 1, 3, 2);
        x.tie(2, 0, 1);
        // {0, 2} against {0}: 1 does not try 2.
        pair(x, 1, 5, 1);
        x.tie(1, 2, 1);
        pair(x, 1, 3, 4);
    }

    private static void leastUnion() {
        DUE.sentence("THE PAIR: of these those with the least union (as bits)");
        PoliteHall x = Due.hallOf(12, 0);
        for (int i = 1; i < 12; i++) {
            x.tie(i, 0, 1);
        }
        pair(x, 0, 2, 0);
        x.tie(0, 1, 1);
        pair(x, 0, 4, 0);
        PoliteHall y = Due.ring(4, 1);
        pair(y, 1, 3, 1);
        y.tie(3, 1, 1);
        // {0, 1} is no more as one with {0}; {0, 2} never was with any; {1, 2} and {1} are, for 1 alone tries 2.
        pair(y, 1, 6, 2);
    }

    private static void mostInJustOne() {
        DUE.sentence("THE PAIR: of these those with the most that are in just one of both");
        pair(Due.tieAll(Due.hallOf(3, 0)), 1, 3, 4);
        pair(Due.tieAll(Due.hallOf(2, 0)), 0, 1, 2);
        PoliteHall x = Due.tieAll(Due.hallOf(4, 0));
        x.tie(3, 0, 0);
        x.tie(3, 1, 0);
        // Of the union {0, 1, 2} both 0 and 1 are in just one.
        pair(x, 1, 5, 6);
    }

    private static void oneMoreThanHalf() {
        DUE.sentence("the half with the lesser numbers (one more than half, if they are odd), the other one the rest");
        pair(Due.tieAll(Due.hallOf(5, 0)), 2, 0b00111, 0b11000);
        pair(Due.tieAll(Due.hallOf(6, 0)), 2, 0b000111, 0b111000);
        pair(Due.tieAll(Due.hallOf(11, 0)), 5, 0b00000111111, 0b11111000000);
        pair(Due.tieAll(Due.hallOf(12, 0)), 5, 0b000000111111, 0b111111000000);
        PoliteHall one = Due.tieAll(Due.hallOf(5, 0));
        for (int i = 0; i < 4; i++) {
            one.tie(i, 4, 0);
        }
        pair(one, 0, 16, 0);
    }

    private static void othersAreInBoth() {
        DUE.sentence("and both have all others of the union");
        pair(Due.ring(5, 1), 1, 3, 1);
        pair(Due.ring(5, 2), 2, 7, 3);
        pair(Due.ring(12, 4), 4, 31, 15);
        PoliteHall x = Due.tieAll(Due.hallOf(7, 0));
        for (int i = 3; i < 7; i++) {
            x.tie(i, 0, 0);
        }
        // Only 1 and 2 try 0: all three of the union are in the first, 1 and 2 in both.
        pair(x, 2, 7, 6);
    }

    private static void allAreThere() {
        DUE.sentence("MORE: NONE: all are there");
        DUE.is("of none", new PoliteHall().more(), Due.NONE);
        DUE.is("of one", Due.hallOf(1, 0).more(), Due.NONE);
        for (int n = 2; n <= 12; n++) {
            PoliteHall x = Due.tieAll(Due.hallOf(n, 0));
            DUE.is("of " + n, x.more(), Due.NONE);
            x.tie(n - 1, n - 2, 0);
            DUE.is("all but the last", x.more(), 100 * (n - 1) + n - 2);
            x.tie(n - 1, n - 2, 1);
            x.tie(0, 1, 0);
            DUE.is("all but the first", x.more(), 1);
            DUE.is("it is no TIE by that", x.count(1), n * (n - 1) - 1);
        }
    }

    private static void ofLikeOnesTheLeast() {
        DUE.sentence("MORE: of like ones the least from, then to");
        for (int n = 2; n <= 12; n++) {
            DUE.is("of no ties", Due.hallOf(n, 0).more(), 1);
        }
        PoliteHall x = Due.tieAll(Due.hallOf(12, 0));
        x.tie(11, 0, 0);
        x.tie(10, 11, 0);
        DUE.is("the lesser from", x.more(), 1011);
        x.tie(10, 9, 0);
        DUE.is("the lesser to", x.more(), 1009);
    }

    private static void theGreatestFirst() {
        DUE.sentence("MORE: the TIE that isn't there with which KNOWN is the greatest");
        PoliteHall x = Due.tieAll(Due.hallOf(3, 0));
        x.tie(0, 2, 0);
        x.tie(1, 2, 0);
        x.tie(0, 1, 0);
        DUE.is("known()", x.known(), 0);
        // Nobody tries 2: only a TIE to it helps.
        DUE.is("not the least from and to", x.more(), 2);
        x.tie(2, 1, 0);
        DUE.is("none helps alone", x.more(), 1);
        PoliteHall y = Due.tieAll(Due.hallOf(3, 0));
        y.tie(1, 0, 0);
        y.tie(2, 0, 0);
        y.tie(0, 1, 0);
        DUE.is("known()", y.known(), 0);
        DUE.is("nobody tries 0", y.more(), 100);
        PoliteHall z = Due.tieAll(Due.hallOf(5, 0));
        z.tie(0, 1, 0);
        z.tie(2, 1, 0);
        z.tie(3, 1, 0);
        DUE.is("known()", z.known(), 1);
        DUE.is("4 alone tries 1", z.more(), 1);
    }

    private static void withoutATie() {
        DUE.sentence("WITHOUT a TIE: KNOWN then. STATE: there is none such.");
        PoliteHall x = Due.ring(12, 5);
        DUE.is("known()", x.known(), 5);
        DUE.is("without(0, 1)", x.without(0, 1), 4);
        DUE.is("without(11, 4)", x.without(11, 4), 4);
        DUE.is("without(11, 5)", x.without(11, 5), Due.STATE);
        DUE.is("without(0, 0)", x.without(0, 0), Due.STATE);
        DUE.is("without(12, 0)", x.without(12, 0), Due.BEYOND);
        DUE.is("without(0, 12)", x.without(0, 12), Due.BEYOND);
        DUE.is("known() still", x.known(), 5);
        DUE.is("ties still", x.count(1), 60);
        PoliteHall y = Due.tieAll(Due.hallOf(12, 0));
        DUE.is("one that is not missed", y.without(11, 0), 5);
        PoliteHall z = Due.hallOf(2, 0);
        z.tie(1, 0, 1);
        DUE.is("the only one", z.without(1, 0), 0);
        DUE.is("the other way there is none", z.without(0, 1), Due.STATE);
    }
}
