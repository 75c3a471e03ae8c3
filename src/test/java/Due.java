/** Compares answers with those that are due, and ends a test with exit code 1 if one was wrong. */
final class Due {
    static final int BEYOND = -1000001;
    static final int NONE = -1000002;
    static final int STATE = -1000003;
    static final int FULL = -1000004;
    static final int KIND = -1000005;
    static final int PARTED = -1000006;
    private static final int TOLD_AT_MOST = 1000;

    private int asked;
    private int wrong;
    private String sentence = "";

    /** The sentence of the document by which the answers behind it are due. */
    void sentence(String words) {
        sentence = "[" + words + "] ";
    }

    void is(String call, long got, long due) {
        // Millions of answers come this way: only one that is wrong is worth a text.
        if (got == due) {
            asked++;
        } else {
            same(call, Long.toString(got), Long.toString(due));
        }
    }

    void same(String call, String got, String due) {
        asked++;
        if (!got.equals(due)) {
            wrong++;
            if (wrong <= TOLD_AT_MOST) {
                System.out.println(sentence + call + " answered " + got + ", due is " + due);
            }
        }
    }

    void holds(String what, boolean so) {
        is(what, so ? 1 : 0, 1);
    }

    void end() {
        System.out.println(wrong == 0 ? "all " + asked + " are as due" : wrong + " of " + asked + " are not as due");
        if (wrong != 0) {
            System.exit(1);
        }
    }

    /** A hall of n machines of a kind, price 10, chance 5. */
    static PoliteHall hallOf(int n, int kind) {
        PoliteHall hall = new PoliteHall();
        for (int i = 0; i < n; i++) {
            hall.machine(kind, 10, 5);
        }
        return hall;
    }

    /** Ties of cost 1 from each to all others. */
    static PoliteHall tieAll(PoliteHall hall) {
        int n = hall.count(0);
        for (int from = 0; from < n; from++) {
            for (int to = 0; to < n; to++) {
                if (from != to) {
                    hall.tie(from, to, 1);
                }
            }
        }
        return hall;
    }

    /** Each of n machines can try so many behind it, round about. */
    static PoliteHall ring(int n, int each) {
        PoliteHall hall = hallOf(n, 0);
        for (int i = 0; i < n; i++) {
            for (int k = 1; k <= each; k++) {
                hall.tie(i, (i + k) % n, 1);
            }
        }
        return hall;
    }

    /** Bytes come eight by eight, the lowest first. */
    static int feed(PoliteHall hall, String bytes) {
        int answer = hall.count(4);
        for (int i = 0; i < bytes.length(); i += 8) {
            int n = Math.min(8, bytes.length() - i);
            long word = 0;
            for (int k = 0; k < n; k++) {
                word |= (long) bytes.charAt(i + k) << 8 * k;
            }
            answer = hall.feed(word, n);
        }
        return answer;
    }

    /** So many bytes in all: blanks behind those that are told. */
    static int feed(PoliteHall hall, String bytes, int size) {
        return feed(hall, bytes + " ".repeat(size - bytes.length()));
    }

    static int text(PoliteHall hall, String bytes) {
        feed(hall, bytes);
        return hall.text();
    }
}
