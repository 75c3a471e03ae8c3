import java.math.BigInteger;
import java.util.ArrayList;
import java.util.Comparator;
import java.util.List;

/** The document once more, in its plainest form and without any haste: what RandomRunsTest measures PoliteHall by. */
final class PlainHall {
    static final int BEYOND = -1000001;
    static final int NONE = -1000002;
    static final int STATE = -1000003;
    static final int FULL = -1000004;
    static final int KIND = -1000005;
    static final int PARTED = -1000006;

    record Machine(int kind, int price, int chance) { }

    record Saying(int from, int to, boolean whole, boolean counts) { }

    record Token(int place, String text) {
        boolean isNumber() {
            return text.matches("[0-9]{1,3}");
        }
    }

    /** What an image keeps; lists are copied, their elements never change. */
    static final class State {
        List<Machine> machines = new ArrayList<>();
        int[][] cost = new int[12][12];
        List<Saying> sayings = new ArrayList<>();
        int most = 12;
        List<Byte> tape = new ArrayList<>();
        List<Integer> waiting = new ArrayList<>();

        State copy() {
            State c = new State();
            c.machines.addAll(machines);
            for (int i = 0; i < 12; i++) {
                c.cost[i] = cost[i].clone();
            }
            c.sayings.addAll(sayings);
            c.most = most;
            c.tape.addAll(tape);
            c.waiting.addAll(waiting);
            return c;
        }
    }

    static final class Parting extends Exception {
        private static final long serialVersionUID = 1;
    }

    State s = new State();
    State image;
    int images;
    List<Integer> trace = new ArrayList<>();
    int[][] sheets = new int[4][];
    int[] sheetBits = new int[4];
    int[] errors = new int[7];

    int err(int e) {
        errors[-1000000 - e]++;
        return e;
    }

    int n() {
        return s.machines.size();
    }

    boolean is(int machine) {
        return 0 <= machine && machine < n();
    }

    static boolean in(int set, int machine) {
        return (set >> machine & 1) == 1;
    }

    public int machine(int kind, int price, int chance) {
        if (kind < 0 || kind > 5 || price < 1 || price > 99 || chance < 1 || chance > 9) {
            return err(BEYOND);
        }
        if (n() == 12) {
            return err(FULL);
        }
        s.machines.add(new Machine(kind, price, chance));
        return n() - 1;
    }

    public int machineIs(int machine, int what) {
        if (!is(machine) || what < 0 || what > 5) {
            return err(BEYOND);
        }
        Machine m = s.machines.get(machine);
        int bits = 0;
        int by = 0;
        int of = 0;
        for (int i = 0; i < 12; i++) {
            bits += s.cost[machine][i] > 0 ? 1 << i : 0;
        }
        for (Saying y : s.sayings) {
            by += y.counts && y.from == machine ? 1 : 0;
            of += y.counts && y.to == machine ? 1 : 0;
        }
        return new int[] {m.kind, m.price, m.chance, bits, by, of}[what];
    }

    static boolean under(int kind, int other) {
        String[] paths = {"0", "01", "02", "03", "024", "035"};
        return paths[kind].contains("" + other);
    }

    public int as(int machine, int kind) {
        if (!is(machine) || kind < 0 || kind > 5) {
            return err(BEYOND);
        }
        if (!under(s.machines.get(machine).kind, kind)) {
            return err(KIND);
        }
        return s.machines.get(machine).price;
    }

    public int tie(int from, int to, int cost) {
        if (!is(from) || !is(to) || cost < 0 || cost > 99) {
            return err(BEYOND);
        }
        if (from == to) {
            return err(STATE);
        }
        int was = s.cost[from][to];
        s.cost[from][to] = cost;
        return was;
    }

    int whySayRefused(int from, int to) {
        if (!is(from) || !is(to)) {
            return BEYOND;
        }
        if (from == to || s.cost[from][to] == 0) {
            return STATE;
        }
        return s.sayings.size() == 60 ? FULL : 0;
    }

    public int say(int from, int to, boolean whole) {
        int why = whySayRefused(from, to);
        if (why != 0) {
            return err(why);
        }
        s.sayings.add(new Saying(from, to, whole, true));
        return s.sayings.size() - 1;
    }

    public int sayingIs(int saying, int what) {
        if (saying < 0 || saying >= s.sayings.size() || what < 0 || what > 3) {
            return err(BEYOND);
        }
        Saying y = s.sayings.get(saying);
        return new int[] {y.from, y.to, y.whole ? 1 : 0, y.counts ? 1 : 0}[what];
    }

    void hush(int i) {
        Saying y = s.sayings.get(i);
        s.sayings.set(i, new Saying(y.from, y.to, y.whole, false));
    }

    public int unsay(int saying) {
        if (saying < 0 || saying >= s.sayings.size()) {
            return err(BEYOND);
        }
        if (!s.sayings.get(saying).counts) {
            return err(STATE);
        }
        hush(saying);
        return 1;
    }

    public int most(int v) {
        if (v < 0 || v > 12) {
            return err(BEYOND);
        }
        int was = s.most;
        s.most = v;
        return was;
    }

    public int feed(long word, int n) {
        if (n < 1 || n > 8) {
            return err(BEYOND);
        }
        if (s.tape.size() + n > 80) {
            return err(FULL);
        }
        for (int i = 0; i < n; i++) {
            s.tape.add((byte) (word & 255));
            word >>>= 8;
        }
        return s.tape.size();
    }

    // A text: all is done in a copy, which takes the place of what was if no token was wrong.

    List<Token> tokens;
    int at;
    int bytes;

    static final class Fault extends Exception {
        private static final long serialVersionUID = 1;
        final int place;

        Fault(int place) {
            this.place = place;
        }
    }

    static List<Token> split(List<Byte> tape) {
        StringBuilder all = new StringBuilder();
        for (byte b : tape) {
            all.append((char) (b & 255));
        }
        List<Token> list = new ArrayList<>();
        java.util.regex.Matcher m = java.util.regex.Pattern.compile("[a-z]+|[0-9]+|[^ ]", java.util.regex.Pattern.DOTALL).matcher(all);
        while (m.find()) {
            list.add(new Token(m.start(), m.group()));
        }
        return list;
    }

    Token peek() throws Fault {
        if (at == tokens.size()) {
            throw new Fault(bytes);
        }
        return tokens.get(at);
    }

    int choice(String... words) throws Fault {
        Token t = peek();
        for (int i = 0; i < words.length; i++) {
            if (t.text.equals(words[i])) {
                at++;
                return i;
            }
        }
        throw new Fault(t.place);
    }

    int number(int least, int greatest, int butNot) throws Fault {
        Token t = peek();
        if (!t.isNumber()) {
            throw new Fault(t.place);
        }
        int v = Integer.parseInt(t.text);
        if (v < least || v > greatest || v == butNot) {
            throw new Fault(t.place);
        }
        at++;
        return v;
    }

    void item() throws Fault {
        Token first = peek();
        int act = choice("make", "tie", "say", "most");
        if (act == 0) {
            if (n() == 12) {
                throw new Fault(first.place);
            }
            int kind = choice("any", "polite", "contrary", "slack", "pact", "mute");
            int price = number(1, 99, -1);
            machine(kind, price, number(1, 9, -1));
        } else if (act == 1) {
            int from = number(0, n() - 1, -1);
            int to = number(0, n() - 1, from);
            tie(from, to, number(1, 99, -1));
        } else if (act == 2) {
            if (s.sayings.size() == 60) {
                throw new Fault(first.place);
            }
            int from = number(0, n() - 1, -1);
            Token second = peek();
            int to = number(0, n() - 1, from);
            if (s.cost[from][to] == 0) {
                throw new Fault(second.place);
            }
            say(from, to, choice("whole", "broken") == 0);
        } else {
            most(number(0, 12, -1));
        }
    }

    public int text() {
        tokens = split(s.tape);
        bytes = s.tape.size();
        s.tape.clear();
        at = 0;
        State before = s.copy();
        try {
            int items = 1;
            item();
            while (at < tokens.size()) {
                choice(";");
                item();
                items++;
            }
            return items;
        } catch (Fault f) {
            s = before;
            return -10 - f.place;
        }
    }

    // Sets.

    static boolean let(int kind, boolean fromBroken, boolean toBroken, boolean whole) {
        boolean so = whole != toBroken;
        String who = new String[] {"machine", "polite", "contrary", "slack", "pact", "mute"}[kind];
        if (!fromBroken) {
            return who.equals("slack") || who.equals("mute") ? whole || so : so;
        }
        if (who.equals("polite")) {
            return whole;
        }
        if (who.equals("contrary")) {
            return !so;
        }
        if (who.equals("pact")) {
            return !toBroken || whole;
        }
        return !who.equals("mute");
    }

    boolean lets(int set, Saying y) {
        return let(s.machines.get(y.from).kind, in(set, y.from), in(set, y.to), y.whole);
    }

    boolean fitting(int set, List<Saying> sayings) {
        if (Integer.bitCount(set) > s.most) {
            return false;
        }
        for (Saying y : sayings) {
            if (y.counts && !lets(set, y)) {
                return false;
            }
        }
        return true;
    }

    static void order(List<Integer> sets) {
        sets.sort(Comparator.<Integer>comparingInt(Integer::bitCount).thenComparingInt(x -> x));
    }

    List<Integer> fittingOnes(List<Saying> sayings) {
        List<Integer> list = new ArrayList<>();
        for (int set = 0; set < 1 << n(); set++) {
            if (fitting(set, sayings)) {
                list.add(set);
            }
        }
        order(list);
        return list;
    }

    List<Integer> fittingOnes() {
        return fittingOnes(s.sayings);
    }

    boolean badSet(int set) {
        return set < 0 || set >= 1 << n();
    }

    public int fits(int set) {
        if (badSet(set)) {
            return err(BEYOND);
        }
        return fitting(set, s.sayings) ? 1 : 0;
    }

    public int bars(int set) {
        if (badSet(set)) {
            return err(BEYOND);
        }
        if (Integer.bitCount(set) > s.most) {
            return 100;
        }
        for (int i = 0; i < s.sayings.size(); i++) {
            if (s.sayings.get(i).counts && !lets(set, s.sayings.get(i))) {
                return i;
            }
        }
        return -1;
    }

    public int many() {
        return fittingOnes().size();
    }

    public int which(int i) {
        List<Integer> f = fittingOnes();
        return i < 0 || i >= f.size() ? err(BEYOND) : f.get(i);
    }

    public int sure(int what) {
        if (what != 0 && what != 1) {
            return err(BEYOND);
        }
        List<Integer> f = fittingOnes();
        if (f.isEmpty()) {
            return err(NONE);
        }
        int answer = 0;
        for (int m = 0; m < n(); m++) {
            int who = m;
            boolean all = f.stream().allMatch(x -> in(x, who));
            boolean none = f.stream().noneMatch(x -> in(x, who));
            answer += (what == 0 ? all : none) ? 1 << m : 0;
        }
        return answer;
    }

    public int blame(int what) {
        if (what != 0 && what != 1) {
            return err(BEYOND);
        }
        List<Integer> sets = fittingOnes(List.of());
        int best = -1;
        long fewest = 999;
        for (int set : sets) {
            long not = s.sayings.stream().filter(y -> y.counts && !lets(set, y)).count();
            if (not < fewest) {
                fewest = not;
                best = set;
            }
        }
        return what == 0 ? (int) fewest : best;
    }

    public int leads(int machine) {
        if (!is(machine)) {
            return err(BEYOND);
        }
        return follow(machine, 1 << machine);
    }

    int follow(int machine, int seen) {
        for (Saying y : s.sayings) {
            int kind = s.machines.get(y.from).kind;
            if (y.counts && y.whole && y.from == machine && kind != 3 && kind != 5 && !in(seen, y.to)) {
                seen = follow(y.to, seen | 1 << y.to);
            }
        }
        return seen;
    }

    // Ties: all twos of sets, one after the other.

    /** Of each set, whom its members can try, all together. */
    int[] triedBy() {
        int[] tried = new int[1 << n()];
        List<int[]> ties = ties();
        for (int set = 0; set < tried.length; set++) {
            for (int[] t : ties) {
                tried[set] |= in(set, t[0]) ? 1 << t[1] : 0;
            }
        }
        return tried;
    }

    static boolean asOne(int[] triedBy, int a, int b) {
        int neither = triedBy.length - 1 & ~(a | b);
        return (triedBy[neither] & (a ^ b)) == 0;
    }

    int fewestOfGreater() {
        int[] triedBy = triedBy();
        int fewest = 13;
        for (int a = 0; a < 1 << n(); a++) {
            for (int b = a + 1; b < 1 << n(); b++) {
                int greater = Math.max(Integer.bitCount(a), Integer.bitCount(b));
                if (greater < fewest && asOne(triedBy, a, b)) {
                    fewest = greater;
                }
            }
        }
        return fewest;
    }

    public int known() {
        return n() == 0 ? 12 : fewestOfGreater() - 1;
    }

    public int pair(int what) {
        if (what != 0 && what != 1) {
            return err(BEYOND);
        }
        if (n() == 0) {
            return err(NONE);
        }
        int[] triedBy = triedBy();
        int fewest = fewestOfGreater();
        int union = 1 << 20;
        int apart = 0;
        for (int a = 0; a < 1 << n(); a++) {
            for (int b = a + 1; b < 1 << n(); b++) {
                int greater = Math.max(Integer.bitCount(a), Integer.bitCount(b));
                if (greater != fewest || !asOne(triedBy, a, b)) {
                    continue;
                }
                boolean more = Integer.bitCount(a ^ b) > Integer.bitCount(apart);
                if ((a | b) < union || (a | b) == union && more) {
                    union = a | b;
                    apart = a ^ b;
                }
            }
        }
        List<Integer> members = new ArrayList<>();
        for (int i = 0; i < n(); i++) {
            if (in(apart, i)) {
                members.add(i);
            }
        }
        int first = union & ~apart;
        int other = first;
        for (int i = 0; i < members.size(); i++) {
            if (2 * i < members.size()) {
                first |= 1 << members.get(i);
            } else {
                other |= 1 << members.get(i);
            }
        }
        return what == 0 ? first : other;
    }

    public int more() {
        int best = -1;
        int answer = NONE;
        for (int from = 0; from < n(); from++) {
            for (int to = 0; to < n(); to++) {
                if (from != to && s.cost[from][to] == 0) {
                    s.cost[from][to] = 1;
                    int known = known();
                    s.cost[from][to] = 0;
                    if (known > best) {
                        best = known;
                        answer = 100 * from + to;
                    }
                }
            }
        }
        return best < 0 ? err(answer) : answer;
    }

    public int without(int from, int to) {
        if (!is(from) || !is(to)) {
            return err(BEYOND);
        }
        if (s.cost[from][to] == 0) {
            return err(STATE);
        }
        int was = s.cost[from][to];
        s.cost[from][to] = 0;
        int known = known();
        s.cost[from][to] = was;
        return known;
    }

    // Trials, chances.

    List<Saying> with(List<Saying> sayings, int from, int to, boolean whole) {
        List<Saying> more = new ArrayList<>(sayings);
        more.add(new Saying(from, to, whole, true));
        return more;
    }

    List<int[]> ties() {
        List<int[]> list = new ArrayList<>();
        for (int from = 0; from < n(); from++) {
            for (int to = 0; to < n(); to++) {
                if (s.cost[from][to] > 0) {
                    list.add(new int[] {from, to, s.cost[from][to]});
                }
            }
        }
        return list;
    }

    public int next(int what) {
        if (what != 0 && what != 1) {
            return err(BEYOND);
        }
        if (ties().isEmpty()) {
            return err(NONE);
        }
        List<Integer> f = fittingOnes();
        int[] best = null;
        for (int[] t : ties()) {
            int kind = s.machines.get(t[0]).kind;
            long ifWhole = f.stream().filter(x -> let(kind, in(x, t[0]), in(x, t[1]), true)).count();
            long ifBroken = f.stream().filter(x -> let(kind, in(x, t[0]), in(x, t[1]), false)).count();
            int greater = (int) Math.max(ifWhole, ifBroken);
            if (best == null || greater < best[0] || greater == best[0] && t[2] < best[1]) {
                best = new int[] {greater, t[2], 100 * t[0] + t[1]};
            }
        }
        return what == 0 ? best[2] : best[0];
    }

    boolean does(List<Integer> f, int trials) {
        if (f.size() <= 1) {
            return true;
        }
        if (trials == 0) {
            return false;
        }
        for (int[] t : ties()) {
            boolean both = true;
            for (int said = 0; said < 2 && both; said++) {
                List<Integer> rest = new ArrayList<>();
                for (int x : f) {
                    if (let(s.machines.get(t[0]).kind, in(x, t[0]), in(x, t[1]), said == 1)) {
                        rest.add(x);
                    }
                }
                both = does(rest, trials - 1);
            }
            if (both) {
                return true;
            }
        }
        return false;
    }

    public int rounds() {
        if (n() > 8 || ties().size() > 24) {
            return err(FULL);
        }
        List<Integer> f = fittingOnes();
        for (int trials = 0; trials < 3; trials++) {
            if (does(f, trials)) {
                return trials;
            }
        }
        return err(NONE);
    }

    BigInteger weight(int set) {
        BigInteger w = BigInteger.ONE;
        for (int i = 0; i < n(); i++) {
            int c = s.machines.get(i).chance;
            w = w.multiply(BigInteger.valueOf(in(set, i) ? c : 10 - c));
        }
        return w;
    }

    public int likely() {
        List<Integer> f = fittingOnes();
        if (f.isEmpty()) {
            return err(NONE);
        }
        int best = f.get(0);
        for (int x : f) {
            best = weight(x).compareTo(weight(best)) > 0 ? x : best;
        }
        return best;
    }

    public long chance(int machine, int what) {
        if (!is(machine) || what != 0 && what != 1) {
            return err(BEYOND);
        }
        BigInteger part = BigInteger.ZERO;
        BigInteger all = BigInteger.ZERO;
        for (int x : fittingOnes()) {
            all = all.add(weight(x));
            part = in(x, machine) ? part.add(weight(x)) : part;
        }
        if (all.signum() == 0) {
            return err(NONE);
        }
        return (what == 0 ? part : all).divide(part.gcd(all)).longValueExact();
    }

    public int worst(int set, int what) {
        if (badSet(set) || what != 0 && what != 1) {
            return err(BEYOND);
        }
        List<int[]> asked = new ArrayList<>();
        List<Saying> truths = new ArrayList<>();
        for (int[] t : ties()) {
            if (!in(set, t[0])) {
                truths.add(new Saying(t[0], t[1], !in(set, t[1]), true));
            } else if (s.machines.get(t[0]).kind != 5) {
                asked.add(t);
            }
        }
        if (asked.size() > 8) {
            return err(FULL);
        }
        List<Integer> left = fittingOnes(truths);
        int best = -1;
        int words = -1;
        for (int bits = 0; bits < 1 << asked.size(); bits++) {
            List<Saying> lies = new ArrayList<>();
            for (int i = 0; i < asked.size(); i++) {
                lies.add(new Saying(asked.get(i)[0], asked.get(i)[1], in(bits, i), true));
            }
            if (!lies.stream().allMatch(y -> lets(set, y))) {
                continue;
            }
            int fit = (int) left.stream().filter(x -> lies.stream().allMatch(y -> lets(x, y))).count();
            if (fit > best) {
                best = fit;
                words = bits;
            }
        }
        return what == 0 ? best : words;
    }

    public int mend(int coins) {
        if (coins < 0 || coins > 9999) {
            return err(BEYOND);
        }
        List<Integer> f = fittingOnes();
        int best = -1;
        long bestHeld = -1;
        int bestPrice = 0;
        for (int set = 0; set < 1 << n(); set++) {
            int mending = set;
            int price = 0;
            for (int i = 0; i < n(); i++) {
                price += in(set, i) ? s.machines.get(i).price : 0;
            }
            if (price > coins) {
                continue;
            }
            long held = f.stream().filter(x -> (x & ~mending) == 0).count();
            if (held > bestHeld || held == bestHeld && price < bestPrice) {
                best = set;
                bestHeld = held;
                bestPrice = price;
            }
        }
        return best;
    }

    public int mended(int machine) {
        if (!is(machine)) {
            return err(BEYOND);
        }
        int hushed = 0;
        for (int i = 0; i < s.sayings.size(); i++) {
            Saying y = s.sayings.get(i);
            if (y.counts && (y.from == machine || y.to == machine)) {
                hush(i);
                hushed++;
            }
        }
        return hushed;
    }

    // Voices: here by Java's own way of super and overriding.

    class Voice {
        final int n;
        final int p;
        final int c;

        Voice(int n) {
            this.n = n;
            p = s.machines.get(n).price;
            c = s.machines.get(n).chance;
        }

        void began(int number) {
            if (trace.size() < 30) {
                trace.add(number);
            }
        }

        int hums(int x) {
            began(10);
            return x + c;
        }

        int tries(int x) {
            began(11);
            return hums(x) * 3;
        }

        int speaks(int x) {
            began(12);
            return tries(x) - p;
        }

        int ends(int x) throws Parting {
            began(13);
            if (p == n) {
                throw new Parting();
            }
            return x / (p - n);
        }
    }

    class PoliteVoice extends Voice {
        PoliteVoice(int n) {
            super(n);
        }

        @Override
        int hums(int x) {
            began(20);
            return super.hums(x) + 1;
        }

        @Override
        int speaks(int x) {
            began(21);
            return super.speaks(x) ^ p;
        }
    }

    class ContraryVoice extends Voice {
        ContraryVoice(int n) {
            super(n);
        }

        @Override
        int tries(int x) {
            began(30);
            return 0 - super.tries(x);
        }

        @Override
        int ends(int x) throws Parting {
            began(31);
            return super.ends(x) + hums(n);
        }
    }

    class SlackVoice extends Voice {
        SlackVoice(int n) {
            super(n);
        }

        @Override
        int hums(int x) {
            began(40);
            return super.hums(x / 2);
        }

        @Override
        int speaks(int x) {
            began(41);
            return super.speaks(x) + tries(1);
        }
    }

    class PactVoice extends ContraryVoice {
        PactVoice(int n) {
            super(n);
        }

        @Override
        int tries(int x) {
            began(50);
            return super.tries(x + 1);
        }

        @Override
        int speaks(int x) {
            began(51);
            return super.speaks(x) - super.tries(0);
        }
    }

    class MuteVoice extends SlackVoice {
        MuteVoice(int n) {
            super(n);
        }

        @Override
        int hums(int x) {
            began(60);
            return 0;
        }

        @Override
        int ends(int x) throws Parting {
            began(61);
            return speaks(x) - super.ends(x);
        }
    }

    Voice voiceOf(int machine) {
        return switch (s.machines.get(machine).kind) {
            case 0 -> new Voice(machine);
            case 1 -> new PoliteVoice(machine);
            case 2 -> new ContraryVoice(machine);
            case 3 -> new SlackVoice(machine);
            case 4 -> new PactVoice(machine);
            default -> new MuteVoice(machine);
        };
    }

    public int voice(int machine, int act, int x) {
        if (!is(machine) || act < 0 || act > 3) {
            return err(BEYOND);
        }
        trace.clear();
        Voice v = voiceOf(machine);
        try {
            return switch (act) {
                case 0 -> v.hums(x);
                case 1 -> v.tries(x);
                case 2 -> v.speaks(x);
                default -> v.ends(x);
            };
        } catch (Parting e) {
            return err(PARTED);
        }
    }

    public int body(int i) {
        return i < 0 || i >= trace.size() ? err(NONE) : trace.get(i);
    }

    // Sheets.

    public int sheet(int sheet, int bits, int n) {
        if (sheet < 0 || sheet > 3 || bits != 0 && bits != 8 && bits != 16 && bits != 32) {
            return err(BEYOND);
        }
        if (bits == 0) {
            sheets[sheet] = null;
            return 1;
        }
        if (n < 0) {
            return err(STATE);
        }
        if (n > 24) {
            return err(BEYOND);
        }
        sheets[sheet] = new int[n];
        sheetBits[sheet] = bits;
        return 1;
    }

    public int put(int sheet, int i, int v) {
        if (sheet < 0 || sheet > 3) {
            return err(BEYOND);
        }
        if (sheets[sheet] == null) {
            return err(NONE);
        }
        if (i < 0 || i >= sheets[sheet].length) {
            return err(BEYOND);
        }
        int shift = 32 - sheetBits[sheet];
        sheets[sheet][i] = v << shift >> shift;
        return 1;
    }

    public int move(int sheet, int i, int other, int j, int n) {
        if (sheet < 0 || sheet > 3 || other < 0 || other > 3) {
            return err(BEYOND);
        }
        if (sheets[sheet] == null || sheets[other] == null) {
            return err(NONE);
        }
        if (sheetBits[sheet] != sheetBits[other]) {
            return err(KIND);
        }
        boolean there = (long) i + n <= sheets[sheet].length && (long) j + n <= sheets[other].length;
        if (n < 0 || i < 0 || j < 0 || !there) {
            return err(BEYOND);
        }
        int[] were = sheets[sheet].clone();
        for (int k = 0; k < n; k++) {
            sheets[other][j + k] = were[i + k];
        }
        return n;
    }

    public int says(int sheet) {
        if (sheet < 0 || sheet > 3) {
            return err(BEYOND);
        }
        if (sheets[sheet] == null) {
            return err(NONE);
        }
        int came = 0;
        for (int k = 0; 2 * k + 1 < sheets[sheet].length; k++) {
            int v = sheets[sheet][2 * k];
            if (v < 0 || v >= 144 || whySayRefused(v / 12, v % 12) != 0) {
                return came;
            }
            say(v / 12, v % 12, sheets[sheet][2 * k + 1] != 0);
            came++;
        }
        return came;
    }

    // Images, what is told.

    public int image() {
        image = s.copy();
        return ++images;
    }

    public int restore() {
        if (image == null) {
            return err(NONE);
        }
        s = image.copy();
        return n();
    }

    public int tell(int v) {
        if (s.waiting.size() == 48) {
            return err(FULL);
        }
        s.waiting.add(v);
        return s.waiting.size();
    }

    public int check() {
        List<Integer> told = s.waiting;
        s.waiting = new ArrayList<>();
        List<Integer> f = fittingOnes();
        for (int i = 0; i < told.size(); i++) {
            if (i == f.size() || !told.get(i).equals(f.get(i))) {
                return 1 + i;
            }
        }
        return 0;
    }

    public int count(int what) {
        if (what < 0 || what > 7) {
            return err(BEYOND);
        }
        int valid = (int) s.sayings.stream().filter(Saying::counts).count();
        int costs = ties().stream().mapToInt(t -> t[2]).sum();
        return new int[] {n(), ties().size(), s.sayings.size(), valid, s.tape.size(), s.waiting.size(), trace.size(), costs}[what];
    }

    public int told(int k) {
        return k < 1 || k > 6 ? err(BEYOND) : errors[k];
    }
}
