/** The sentences of promises 10 and 11, and of part 4, that name an edge, one by one. */
public final class TextEdgesTest {
    private static final Due DUE = new Due();
    private static final String[] KINDS = {"any", "polite", "contrary", "slack", "pact", "mute"};

    public static void main(String[] args) {
        lowestBytes();
        atMostEighty();
        eightyBytesAreAText();
        emptyThen();
        howManyItems();
        withWhichNoTextGoesOn();
        numbersOfDigits();
        wordsAsFarAsTheyGo();
        anyOtherByte();
        blanks();
        pricesAndChances();
        machinesThatThereAreNot();
        theSecondIsTheFirst();
        noSuchTie();
        costs();
        mosts();
        noRoomForMachines();
        noRoomForSayings();
        neverTieSay();
        endsTooEarly();
        byThen();
        elseNothing();
        noError();
        DUE.end();
    }

    private static void fault(PoliteHall x, String text, int place) {
        DUE.is("'" + text + "'", Due.text(x, text), -10 - place);
    }

    private static void right(PoliteHall x, String text, int items) {
        DUE.is("'" + text + "'", Due.text(x, text), items);
    }

    private static void lowestBytes() {
        DUE.sentence("The n lowest bytes (1 .. 8) of a word, the lowest first, come to THE TAPE: how many there are.");
        PoliteHall x = new PoliteHall();
        DUE.is("0 bytes", x.feed(0L, 0), Due.BEYOND);
        DUE.is("9 bytes", x.feed(0L, 9), Due.BEYOND);
        long most = 0x7a39_3020_7473_6f6dL;
        DUE.is("7 bytes of a word", x.feed(most, 7), 7);
        DUE.is("its text", x.text(), 1);
        DUE.is("MOST", x.most(12), 9);
        DUE.is("8 bytes of a word", x.feed(most, 8), 8);
        DUE.is("its text, the last byte is no part", x.text(), -17);
        DUE.is("1 byte", x.feed(-1L, 1), 1);
        DUE.is("1 byte more", x.feed(0x7fff_ffff_ffff_ff20L, 1), 2);
        DUE.is("bytes", x.count(4), 2);
        DUE.is("a byte of 255", x.text(), -10);
        DUE.is("the highest byte of a word below 0", x.feed(0xbb31_2020_7473_6f6dL, 8), 8);
        DUE.is("stands by itself", x.text(), -17);
    }

    private static void atMostEighty() {
        DUE.sentence("THE TAPE (bytes, at most 80)");
        PoliteHall x = new PoliteHall();
        for (int i = 8; i <= 72; i += 8) {
            DUE.is("feed 8", x.feed(0x2020_2020_2020_2020L, 8), i);
        }
        DUE.is("feed 1", x.feed(32L, 1), 73);
        DUE.is("feed 8: no room", x.feed(0L, 8), Due.FULL);
        DUE.is("bytes", x.count(4), 73);
        DUE.is("feed 7: just room", x.feed(0x2020_2020_2020_20L, 7), 80);
        DUE.is("feed 1: no room", x.feed(32L, 1), Due.FULL);
        DUE.is("feed 0: BEYOND is asked first", x.feed(32L, 0), Due.BEYOND);
        DUE.is("bytes", x.count(4), 80);
        DUE.is("80 blanks end too early", x.text(), -90);
        DUE.is("there is room again", x.feed(32L, 8), 8);
    }

    private static void eightyBytesAreAText() {
        DUE.sentence("TEXTS are read from THE TAPE: all 80 bytes");
        PoliteHall x = Due.hallOf(2, 0);
        right(x, "tie 0 1 1" + " ".repeat(65) + ";most9", 2);
        DUE.is("MOST", x.most(12), 9);
        fault(x, "tie 0 1 2" + " ".repeat(65) + ";mos t", 75);
        fault(x, "tie 0 1 2" + " ".repeat(65) + ";most;", 79);
        fault(x, "tie 0 1 2" + " ".repeat(65) + ";most ", 80);
        DUE.is("no COST but the first", x.tie(0, 1, 1), 1);
        fault(x, " ".repeat(79) + "1", 79);
        fault(x, "a".repeat(80), 0);
        fault(x, "most " + "1".repeat(75), 5);
        fault(x, ";".repeat(80), 0);
    }

    private static void emptyThen() {
        DUE.sentence("THE TAPE, which is empty then, is a TEXT");
        PoliteHall x = new PoliteHall();
        right(x, "most 3", 1);
        DUE.is("behind a right one", x.count(4), 0);
        DUE.is("nothing is left of it", x.text(), -10);
        DUE.is("MOST", x.most(3), 3);
        fault(x, "most 13", 5);
        DUE.is("behind a wrong one", x.count(4), 0);
        right(x, "most 4", 1);
        DUE.is("MOST", x.most(12), 4);
    }

    private static void howManyItems() {
        DUE.sentence("ITEM { ; ITEM }: how many ITEMS were done");
        PoliteHall x = new PoliteHall();
        right(x, "most0", 1);
        right(x, "most0;most1", 2);
        String thirteen = "most1;".repeat(12) + "most7";
        right(x, thirteen, 13);
        DUE.is("the last one is done last", x.most(12), 7);
        right(x, "make any1 1;".repeat(6) + "most 12", 7);
        DUE.is("machines", x.count(0), 6);
        fault(x, "most1;;most1", 6);
        fault(x, ";most1", 0);
        fault(x, "most1;", 6);
        fault(x, "most1 most1", 6);
    }

    /** Each word and number of each ITEM in turn gives way to something else; and something more stands behind the last. */
    private static void withWhichNoTextGoesOn() {
        DUE.sentence("FAULT: the place of the first byte of the first word, number or other byte with which no TEXT goes on");
        String[][] items = {{"make", "any", "1", "1"}, {"tie", "0", "1", "1"}, {"say", "0", "1", "broken"}, {"most", "1"}};
        String[] others = {"x", "7777", "-", ";", "(", "A", "makes", "wholly", "" + (char) 200, "" + (char) 0};
        for (String[] item : items) {
            for (int place = 0; place <= item.length; place++) {
                for (String other : others) {
                    if (place < item.length || !other.equals(";")) {
                        noTextGoesOn(item, place, other, "");
                        noTextGoesOn(item, place, other, "most 3 ; ");
                    }
                }
            }
        }
    }

    private static void noTextGoesOn(String[] item, int place, String other, String ahead) {
        StringBuilder text = new StringBuilder(ahead);
        int due = 0;
        for (int i = 0; i <= item.length; i++) {
            due = i == place ? text.length() : due;
            if (i == place || i < item.length) {
                text.append(i == place ? other : item[i]).append(' ');
            }
        }
        PoliteHall x = Due.hallOf(2, 0);
        x.tie(0, 1, 1);
        fault(x, text.toString(), due);
        DUE.is("nothing was done", x.count(0) * 100 + x.count(1) * 10 + x.count(2), 210);
        DUE.is("MOST", x.most(12), 12);
    }

    private static void numbersOfDigits() {
        DUE.sentence("N: a NUMBER of 1 to 3 digits. Numbers are of digits, as far as they go.");
        PoliteHall x = Due.hallOf(2, 0);
        right(x, "most 7", 1);
        right(x, "most 07", 1);
        right(x, "most 007", 1);
        fault(x, "most 0007", 5);
        fault(x, "most 00000000000000000000000000007", 5);
        fault(x, "most 4294967296", 5);
        fault(x, "most 4294967303", 5);
        right(x, "most 000", 1);
        DUE.is("MOST", x.most(12), 0);
        right(x, "tie 000 001 099", 1);
        DUE.is("COST", x.count(7), 99);
        right(x, "make any 001 009", 1);
        DUE.is("PRICE, CHANCE", x.machineIs(2, 1) * 10 + x.machineIs(2, 2), 19);
        fault(x, "tie 0 1 999", 8);
        fault(x, "tie 01 1", 7);
        fault(x, "tie 0 1", 7);
        fault(x, "tie 0 12", 6);
        fault(x, "most -1", 5);
        fault(x, "most +1", 5);
        fault(x, "most 1.0", 6);
        fault(x, "most 1 2", 7);
    }

    private static void wordsAsFarAsTheyGo() {
        DUE.sentence("Words are of the letters a to z, as far as they go");
        PoliteHall x = Due.hallOf(2, 0);
        x.tie(0, 1, 1);
        fault(x, "makeany 1 1", 0);
        fault(x, "make anypolite 1 1", 5);
        fault(x, "mak e any 1 1", 0);
        fault(x, "mostmost 1", 0);
        fault(x, "m", 0);
        fault(x, "ma ke", 0);
        fault(x, "say 0 1 wholes", 8);
        fault(x, "say 0 1 whol", 8);
        fault(x, "say 0 1 broke", 8);
        fault(x, "say 0 1 brokenn", 8);
        fault(x, "say 0 1 any", 8);
        fault(x, "tie 0 1 whole", 8);
        fault(x, "rake any 1 1", 0);
        fault(x, "lie 0 1 1", 0);
        fault(x, "pay 0 1 whole", 0);
        fault(x, "host 1", 0);
        fault(x, "zmost 1", 0);
        fault(x, "mostz 1", 0);
        fault(x, "amost 1", 0);
        fault(x, "mosta 1", 0);
        fault(x, "any 1 1", 0);
        fault(x, "whole", 0);
        fault(x, "make make 1 1", 5);
        right(x, "most1;tie0 1 2;say0 1whole;make any2 3", 4);
        DUE.is("all is done", x.count(0) * 100 + x.count(7) * 10 + x.count(2), 321);
        for (int kind = 0; kind < 6; kind++) {
            right(x, "make " + KINDS[kind] + " 1 1", 1);
            DUE.is("its KIND", x.machineIs(3 + kind, 0), kind);
            fault(x, "make " + KINDS[kind].substring(1) + " 1 1", 5);
            fault(x, "make " + KINDS[kind].substring(0, KINDS[kind].length() - 1) + " 1 1", 5);
        }
    }

    private static void anyOtherByte() {
        DUE.sentence("any other byte stands by itself");
        for (int b = 0; b < 256; b++) {
            boolean goesOn = b == ' ' || b == ';' || b >= '0' && b <= '9';
            if (!goesOn) {
                fault(new PoliteHall(), "most 1" + (char) b + "1", 6);
            }
        }
        PoliteHall y = Due.hallOf(2, 0);
        fault(y, "mo" + (char) 0 + "st 1", 0);
        fault(y, "Most 1", 0);
        fault(y, "mosT 1", 0);
        fault(y, "most" + (char) 9 + "1", 4);
        fault(y, "most" + (char) 10 + "1", 4);
        fault(y, "most" + (char) 160 + "1", 4);
        fault(y, "most" + (char) 177 + "1", 4);
        fault(y, "most 1" + (char) 187 + "most 1", 6);
        fault(y, (char) 237 + "most 1", 0);
    }

    private static void blanks() {
        DUE.sentence("Blanks (32) may stand between.");
        PoliteHall x = Due.hallOf(2, 0);
        right(x, "      most      1      ;      most      2      ", 2);
        right(x, " tie  0  1  1 ", 1);
        right(x, "tie 0 1 1;say 0 1broken ; say0 1 whole", 3);
        fault(x, "   mot 1", 3);
        fault(x, "most   13", 7);
        fault(x, "most 1   ;   ;", 13);
        fault(x, "most 1 1", 7);
        fault(x, "most 1 0", 7);
        DUE.is("MOST", x.most(2), 2);
    }

    private static void pricesAndChances() {
        DUE.sentence("FAULT: PRICE, CHANCE beyond theirs");
        PoliteHall x = new PoliteHall();
        fault(x, "make any 0 1", 9);
        fault(x, "make any 100 1", 9);
        fault(x, "make any 00 1", 9);
        fault(x, "make any 1 0", 11);
        fault(x, "make any 1 10", 11);
        fault(x, "make any 0 10", 9);
        fault(x, "make any 99 000", 12);
        right(x, "make any 1 1;make mute 99 9", 2);
        DUE.is("machines", x.count(0), 2);
        DUE.is("PRICES", x.machineIs(0, 1) + x.machineIs(1, 1), 100);
        DUE.is("CHANCES", x.machineIs(0, 2) + x.machineIs(1, 2), 10);
    }

    private static void machinesThatThereAreNot() {
        DUE.sentence("FAULT: a MACHINE that there is not");
        PoliteHall x = Due.tieAll(Due.hallOf(3, 0));
        fault(x, "tie 3 0 1", 4);
        fault(x, "tie 0 3 1", 6);
        fault(x, "tie 3 3 1", 4);
        fault(x, "say 3 0 whole", 4);
        fault(x, "say 0 3 whole", 6);
        fault(x, "say 999 0 whole", 4);
        right(x, "tie 2 0 1;tie 0 2 1;say 2 0 whole;say 0 2 whole", 4);
        PoliteHall y = Due.hallOf(12, 0);
        right(y, "tie 11 0 1;tie 0 11 1;say 11 0 broken;say 0 11 whole", 4);
        DUE.is("who said of whom", y.sayingIs(0, 0) * 100 + y.sayingIs(0, 1), 1100);
        DUE.is("who said of whom", y.sayingIs(1, 0) * 100 + y.sayingIs(1, 1), 11);
        DUE.is("how", y.sayingIs(0, 2) * 10 + y.sayingIs(1, 2), 1);
        fault(y, "tie 12 0 1", 4);
        fault(y, "tie 0 12 1", 6);
    }

    private static void theSecondIsTheFirst() {
        DUE.sentence("FAULT: the second one, if it is the first");
        PoliteHall x = Due.tieAll(Due.hallOf(2, 0));
        fault(x, "tie 0 0 1", 6);
        fault(x, "tie 1 1 1", 6);
        fault(x, "tie 1 01 1", 6);
        fault(x, "say 0 0 whole", 6);
        fault(x, "say 01 001 whole", 7);
        right(x, "tie 0 1 1;tie 1 0 1", 2);
        fault(Due.hallOf(1, 0), "tie 0 0 1", 6);
    }

    private static void noSuchTie() {
        DUE.sentence("FAULT: the second one, of say, if there is no such TIE");
        PoliteHall x = Due.hallOf(3, 0);
        x.tie(0, 1, 1);
        fault(x, "say 1 0 whole", 6);
        fault(x, "say 0 2 whole", 6);
        fault(x, "say 2 0 whole", 6);
        fault(x, "say 0 2 wholly", 6);
        fault(x, "say 1 0", 6);
        right(x, "say 0 1 whole", 1);
        right(x, "tie 1 0 1;say 1 0 broken", 2);
        fault(x, "say 2 1 whole;tie 2 1 1", 6);
        x.tie(0, 1, 0);
        fault(x, "say 0 1 whole", 6);
        DUE.is("sayings", x.count(2), 2);
    }

    private static void costs() {
        DUE.sentence("tie N N N (from, to, COST: 1 .. 99; 0 may not be there)");
        PoliteHall x = Due.hallOf(2, 0);
        fault(x, "tie 0 1 0", 8);
        fault(x, "tie 0 1 000", 8);
        fault(x, "tie 0 1 100", 8);
        right(x, "tie 0 1 1", 1);
        DUE.is("COST", x.count(7), 1);
        fault(x, "tie 0 1 0", 8);
        right(x, "tie 0 1 99", 1);
        DUE.is("COST", x.count(7), 99);
        DUE.is("ties", x.count(1), 1);
    }

    private static void mosts() {
        DUE.sentence("FAULT: MOST beyond its own");
        PoliteHall x = new PoliteHall();
        fault(x, "most 13", 5);
        fault(x, "most 999", 5);
        right(x, "most 12", 1);
        right(x, "most 0", 1);
        DUE.is("MOST", x.most(12), 0);
    }

    private static void noRoomForMachines() {
        DUE.sentence("FAULT: the word make, if there is no room");
        PoliteHall x = Due.hallOf(10, 0);
        fault(x, "make any 1 1;make any 1 1;make any 1 1", 26);
        DUE.is("machines", x.count(0), 10);
        right(x, "make any 1 1;make any 1 1", 2);
        fault(x, "make any 1 1", 0);
        fault(x, "  make", 2);
        fault(x, "makes", 0);
        fault(x, "most 1;make x", 7);
        right(x, "tie 11 10 1;say 11 10 whole;most 11", 3);
    }

    private static void noRoomForSayings() {
        DUE.sentence("FAULT: the word say, if there is no room");
        PoliteHall x = Due.hallOf(2, 0);
        x.tie(0, 1, 1);
        for (int i = 0; i < 58; i++) {
            x.say(0, 1, true);
        }
        fault(x, "say 0 1 whole;say 0 1 whole;say 0 1 whole", 28);
        DUE.is("sayings", x.count(2), 58);
        right(x, "say 0 1 whole;say 0 1 broken", 2);
        fault(x, "say 0 1 whole", 0);
        fault(x, " say 9 9 9", 1);
        x.unsay(0);
        fault(x, "say 0 1 whole", 0);
        right(x, "tie 0 1 2;make any 1 1;most 1", 3);
    }

    private static void neverTieSay() {
        DUE.sentence("FAULT: else never tie, say");
        PoliteHall none = new PoliteHall();
        fault(none, "tie", 3);
        fault(none, "tie 0", 4);
        fault(none, "say", 3);
        fault(none, "say 0", 4);
        PoliteHall one = Due.hallOf(1, 0);
        fault(one, "tie", 3);
        fault(one, "tie 0", 5);
        fault(one, "tie 0 0", 6);
        fault(one, "say 0 ", 6);
        fault(one, "say 0 0", 6);
        PoliteHall two = Due.hallOf(2, 0);
        fault(two, "say", 3);
        fault(two, "say 0", 5);
        fault(two, "say 0 1", 6);
        PoliteHall all = Due.tieAll(Due.hallOf(2, 0));
        right(all, "tie 0 1 3", 1);
    }

    private static void endsTooEarly() {
        DUE.sentence("FAULT: how many bytes there are, if it ends too early");
        PoliteHall x = Due.hallOf(2, 0);
        x.tie(0, 1, 1);
        String[] wholes = {"make any 1 1", "tie 0 1 1", "say 0 1 broken", "most 1"};
        for (String whole : wholes) {
            for (int cut = 0; cut < whole.length(); cut++) {
                if (cut == 0 || whole.charAt(cut) == ' ') {
                    fault(x, whole.substring(0, cut), cut);
                    fault(x, whole.substring(0, cut) + "  ", cut + 2);
                    fault(x, "most 3;" + whole.substring(0, cut), 7 + cut);
                }
            }
            fault(x, whole + ";", whole.length() + 1);
            fault(x, whole + " ; ", whole.length() + 3);
        }
        DUE.is("nothing was done", x.count(0) * 100 + x.count(1) * 10 + x.count(2), 210);
        DUE.is("MOST", x.most(12), 12);
    }

    private static void byThen() {
        DUE.sentence("a number that may not be there by then");
        PoliteHall x = new PoliteHall();
        fault(x, "tie 0 1 1;make any 1 1;make any 1 1", 4);
        fault(x, "make any 1 1;tie 0 1 1;make any 1 1", 19);
        right(x, "make any 1 1;make any 1 1;tie 0 1 1;say 0 1 whole", 4);
        fault(x, "say 1 0 whole;tie 1 0 1", 6);
        right(x, "tie 1 0 1;say 1 0 whole", 2);
        DUE.is("sayings", x.count(2), 2);
    }

    private static void elseNothing() {
        DUE.sentence("All is done, one ITEM behind the other, if all is right; else nothing.");
        PoliteHall x = somethingOfAll();
        fault(x, "make mute 9 9;tie 2 0 9;tie 0 1 9;say 2 0 broken;most 1;x", 56);
        DUE.same("all", Seen.all(x), Seen.all(somethingOfAll()));
    }

    private static PoliteHall somethingOfAll() {
        PoliteHall x = Due.hallOf(2, 0);
        x.tie(0, 1, 7);
        x.say(0, 1, true);
        x.tell(5);
        x.image();
        x.voice(0, 0, 0);
        return x;
    }

    private static void noError() {
        DUE.sentence("-10 less its FAULT is no ERROR");
        PoliteHall x = Due.hallOf(12, 0);
        fault(x, "", 0);
        fault(x, "make any 1 1", 0);
        fault(x, "tie 12 0 1", 4);
        fault(x, "tie 0 0 1", 6);
        fault(x, "say 0 1 whole", 6);
        for (int k = 1; k <= 6; k++) {
            DUE.is("told(" + k + ")", x.told(k), 0);
        }
    }
}
