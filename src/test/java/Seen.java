/**
 * All that the face shows of a hall, as one text: two halls of the same text can't be told apart. Some of it shows only
 * by acts that use it up, so a hall is seen once, and last.
 */
final class Seen {
    private static final int SOME_SAYINGS = 12;

    private final PoliteHall x;
    private final StringBuilder text = new StringBuilder();

    private Seen(PoliteHall x) {
        this.x = x;
    }

    static String all(PoliteHall x) {
        return new Seen(x).whole(true);
    }

    /** All but the trace, for the acts of which the document tells that they change it. */
    static String allButTrace(PoliteHall x) {
        return new Seen(x).whole(false);
    }

    private String whole(boolean withTrace) {
        if (withTrace) {
            trace();
        }
        standing();
        usedUp();
        show("restore", x.restore());
        standing();
        usedUp();
        show("image", x.image());
        return text.toString();
    }

    private void show(String what, long answer) {
        text.append(what).append(' ').append(answer).append('\n');
    }

    private void trace() {
        int bodies = x.count(6);
        show("bodies", bodies);
        for (int i = 0; i < bodies; i++) {
            show("body", x.body(i));
        }
    }

    private void standing() {
        for (int what = 0; what < 8; what++) {
            if (what != 6) {
                show("count " + what, x.count(what));
            }
        }
        int machines = x.count(0);
        for (int m = 0; m < machines; m++) {
            for (int what = 0; what < 6; what++) {
                show("machine " + m + " is", x.machineIs(m, what));
            }
        }
        int sayings = x.count(2);
        int step = sayings > SOME_SAYINGS ? 9 : 1;
        for (int i = sayings - 1; i >= 0; i -= step) {
            for (int what = 0; what < 4; what++) {
                show("saying " + i + " is", x.sayingIs(i, what));
            }
        }
        show("many", x.many());
        show("blame", x.blame(1));
        show("known", x.known());
    }

    private void usedUp() {
        show("check", x.check());
        show("text", x.text());
        show("machines then", x.count(0));
        show("ties then", x.count(1));
        show("many then", x.many());
        show("most", x.most(12));
        for (int sheet = 0; sheet < 4; sheet++) {
            sheet(sheet);
        }
        int machines = Math.min(5, x.count(0));
        for (int from = 0; from < machines; from++) {
            for (int to = 0; to < machines; to++) {
                show("cost " + from + " " + to, x.tie(from, to, 0));
            }
        }
    }

    /** How long it is, whose bits it has, and what it says as far as it goes. */
    private void sheet(int sheet) {
        int length = 0;
        while (length < 8 && x.move(sheet, 0, sheet, 0, length + 1) == length + 1) {
            length++;
        }
        show("sheet " + sheet + " of", length);
        for (int other = sheet + 1; other < 4; other++) {
            show("bits as those of " + other, x.move(sheet, 0, other, 0, 0));
        }
        int before = x.count(2);
        int came = x.says(sheet);
        show("it says", came);
        for (int i = 0; i < came; i++) {
            show("of", x.sayingIs(before + i, 0) * 100 + x.sayingIs(before + i, 1) * 10 + x.sayingIs(before + i, 2));
        }
    }
}
