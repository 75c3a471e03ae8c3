/** Promises 10 and 11: the tape, texts. */
public final class TextsTest {
    private static final Due DUE = new Due();

    public static void main(String[] args) {
        feed();
        rightTexts();
        faultsOfForm();
        faultsOfNumbers();
        faultsOfRoom();
        nothingIsDoneByAFault();
        DUE.end();
    }

    private static void feed() {
        PoliteHall x = new PoliteHall();
        DUE.is("feed 0 bytes", x.feed(1, 0), Due.BEYOND);
        DUE.is("feed 9 bytes", x.feed(1, 9), Due.BEYOND);
        DUE.is("feed -1 bytes", x.feed(1, -1), Due.BEYOND);
        // "most 7" with the lowest byte first, above it bytes that are not asked for.
        DUE.is("feed 6", x.feed(0x7a7a_3720_7473_6f6dL, 6), 6);
        DUE.is("its text", x.text(), 1);
        DUE.is("most was 7", x.most(12), 7);
        DUE.is("the tape is empty then", x.count(4), 0);
        for (int i = 1; i <= 9; i++) {
            DUE.is("feed 8", x.feed(-1L, 8), 8 * i);
        }
        DUE.is("feed 7", x.feed(-1L, 7), 79);
        DUE.is("feed 2 more", x.feed(-1L, 2), Due.FULL);
        DUE.is("feed 9 more: BEYOND ahead", x.feed(-1L, 9), Due.BEYOND);
        DUE.is("nothing came", x.count(4), 79);
        DUE.is("feed 1 more", x.feed(-1L, 1), 80);
        DUE.is("feed 1 too many", x.feed(-1L, 1), Due.FULL);
        DUE.is("a byte of no text", x.text(), -10);
        DUE.is("empty then", x.count(4), 0);
    }

    private static void rightTexts() {
        PoliteHall x = new PoliteHall();
        String[] kinds = {"any", "polite", "contrary", "slack", "pact", "mute"};
        for (int kind = 0; kind < 6; kind++) {
            DUE.is("make " + kinds[kind], Due.text(x, "make " + kinds[kind] + " " + (kind + 1) + " 0" + (kind + 2)), 1);
            DUE.is("its kind", x.machineIs(kind, 0), kind);
            DUE.is("its price", x.machineIs(kind, 1), kind + 1);
            DUE.is("its chance", x.machineIs(kind, 2), kind + 2);
        }
        DUE.is("ties and sayings", Due.text(x, "tie 0 1 99;say 0 1 whole ; tie 1 0 001 ;say 1 0 broken;most 12"), 5);
        DUE.is("cost", x.count(7), 100);
        DUE.is("whole", x.sayingIs(0, 2), 1);
        DUE.is("broken", x.sayingIs(1, 2), 0);
        DUE.is("broken of", x.sayingIs(1, 1), 0);
        DUE.is("no blanks where none are needed", Due.text(x, "make any5 5;most3;tie 2 3 4;say 2 3whole"), 4);
        DUE.is("blanks all over", Due.text(x, "   most    0   ;   most   5   "), 2);
        DUE.is("most 5", x.most(12), 5);
        DUE.is("a tie to one made just then", Due.text(x, "make any 1 1;tie 7 0 1;say 7 0 whole"), 3);
        DUE.is("a tie's cost is new", Due.text(x, "tie 0 1 2"), 1);
        DUE.is("as by tie()", x.tie(0, 1, 2), 2);
        DUE.is("no ERROR in all that", x.told(1) + x.told(2) + x.told(3) + x.told(4), 0);
    }

    private static void fault(PoliteHall x, String text, int place) {
        DUE.is("'" + text + "'", Due.text(x, text), -10 - place);
        DUE.is("the tape behind '" + text + "'", x.count(4), 0);
    }

    private static void faultsOfForm() {
        PoliteHall x = Due.hallOf(2, 0);
        x.tie(0, 1, 1);
        fault(x, "", 0);
        fault(x, "   ", 3);
        fault(x, ";", 0);
        fault(x, " mak any 1 1", 1);
        fault(x, "makes any 1 1", 0);
        fault(x, "Make any 1 1", 0);
        fault(x, "make", 4);
        fault(x, "make  ", 6);
        fault(x, "make an 1 1", 5);
        fault(x, "make anyy 1 1", 5);
        fault(x, "make 1 1 1", 5);
        fault(x, "make any", 8);
        fault(x, "make any x", 9);
        fault(x, "make any 1 1 1", 13);
        fault(x, "make any 1 1;", 13);
        fault(x, "make any 1 1; ", 14);
        fault(x, "cake any 1 1", 0);
        fault(x, "most 1 mostz", 7);
        fault(x, "makez any 1 1", 0);
        fault(x, "mostz 1", 0);
        fault(x, "make anya 1 1", 5);
        fault(x, "most 1`", 6);
        fault(x, "most{1", 4);
        fault(x, "most 1/", 6);
        fault(x, "most 1:", 6);
        fault(x, "make any 1 1;;", 13);
        fault(x, "make any 1 1 make any 1 1", 13);
        fault(x, "make any 1,1", 10);
        fault(x, "make any -1 1", 9);
        fault(x, "say 0 1", 7);
        fault(x, "say 0 1 hole", 8);
        fault(x, "say 0 1 wholebroken", 8);
        fault(x, "say 0 1 1", 8);
        fault(x, "most 1\t", 6);
        fault(x, "most 1\u00e9", 6);
        fault(x, "most", 4);
        fault(x, "most;", 4);
        fault(x, "most 1 2", 7);
    }

    private static void faultsOfNumbers() {
        PoliteHall x = Due.hallOf(2, 0);
        x.tie(0, 1, 1);
        fault(x, "make any 0 1", 9);
        fault(x, "make any 100 1", 9);
        fault(x, "make any 0099 1", 9);
        fault(x, "make any 99999999999 1", 9);
        fault(x, "make any 1 0", 11);
        fault(x, "make any 1 10", 11);
        fault(x, "tie 2 0 1", 4);
        fault(x, "tie 0 2 1", 6);
        fault(x, "tie 0 0 1", 6);
        fault(x, "tie 0 0", 6);
        fault(x, "tie 0 1 0", 8);
        fault(x, "tie 0 1 100", 8);
        fault(x, "say 2 0 whole", 4);
        fault(x, "say 0 2 whole", 6);
        fault(x, "say 1 1 whole", 6);
        fault(x, "say 1 0 whole", 6);
        fault(x, "most 13", 5);
        fault(x, "most 0013", 5);
        PoliteHall none = new PoliteHall();
        fault(none, "tie", 3);
        fault(none, "tie 0 1 1", 4);
        fault(none, "say", 3);
        fault(none, "say 0 1 whole", 4);
        PoliteHall one = Due.hallOf(1, 0);
        fault(one, "tie 0", 5);
        fault(one, "tie 0 0 1", 6);
    }

    private static void faultsOfRoom() {
        PoliteHall x = Due.hallOf(11, 0);
        fault(x, "make any 1 1;make any 1 1", 13);
        DUE.is("none was made", x.count(0), 11);
        DUE.is("the twelfth", Due.text(x, "make any 1 1"), 1);
        fault(x, "make", 0);
        x.tie(0, 1, 1);
        for (int i = 0; i < 59; i++) {
            x.say(0, 1, true);
        }
        fault(x, "say 0 1 whole;say 0 1 whole", 14);
        DUE.is("none was said", x.count(2), 59);
        DUE.is("the last one", Due.text(x, "say 0 1 broken"), 1);
        fault(x, "most 3;say 9 9 9", 7);
        fault(x, "say", 0);
    }

    private static void nothingIsDoneByAFault() {
        PoliteHall x = Due.hallOf(2, 0);
        x.tie(0, 1, 5);
        x.tell(3);
        fault(x, "make any 1 1;tie 0 1 9;tie 1 0 9;say 0 1 broken;most 1;most", 59);
        DUE.is("machines", x.count(0), 2);
        DUE.is("ties", x.count(1), 1);
        DUE.is("cost", x.count(7), 5);
        DUE.is("sayings", x.count(2), 0);
        DUE.is("waiting", x.count(5), 1);
        DUE.is("most", x.most(12), 12);
        DUE.is("many", x.many(), 4);
        DUE.is("the first saying then", x.say(0, 1, true), 0);
    }
}
