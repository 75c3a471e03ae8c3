import java.lang.reflect.InvocationTargetException;
import java.lang.reflect.Method;
import java.util.ArrayList;
import java.util.List;
import java.util.Random;

/** Runs of random calls, the same on PoliteHall and on PlainHall: each answer must be the same. */
public final class RandomRunsTest {
    private static final int RUNS = 700;
    private static final int CALLS = 512;

    private final Random random;
    private final PoliteHall hall = new PoliteHall();
    private final PlainHall plain = new PlainHall();
    private final List<String> log = new ArrayList<>();
    /** How many machines come at most, and how often arguments are wild: a run is small or large, tame or wild. */
    private final int size;
    private final int wild;
    /** Who is broken behind the scenes: sayings that keep to it leave sets that fit. */
    private final int broken;
    private final boolean honest;
    private final boolean filling;
    /** Arguments stand at an edge, or next to it on the other side; the tape is read only when it is nearly full. */
    private final boolean edgy;
    private int wrong;

    private RandomRunsTest(long seed) {
        random = new Random(seed);
        size = seed % 7 == 0 ? 12 : 1 + random.nextInt(7);
        wild = new int[] {3, 10, 40}[random.nextInt(3)];
        broken = random.nextInt(1 << 12) & random.nextInt(1 << 12);
        honest = random.nextInt(4) != 0;
        filling = random.nextInt(6) == 0;
        edgy = seed % 4 == 0;
    }

    public static void main(String[] args) throws ReflectiveOperationException {
        int wrong = 0;
        for (long seed = 0; seed < RUNS && wrong == 0; seed++) {
            RandomRunsTest run = new RandomRunsTest(seed);
            run.go();
            wrong += run.wrong;
            if (run.wrong > 0) {
                System.out.println("seed " + seed);
                run.log.forEach(System.out::println);
            }
        }
        System.out.println(wrong == 0 ? "random runs are as plain" : wrong + " answers are not as plain");
        if (wrong != 0) {
            System.exit(1);
        }
    }

    private void go() throws ReflectiveOperationException {
        Method[] methods = PoliteHall.class.getDeclaredMethods();
        java.util.Arrays.sort(methods, java.util.Comparator.comparing(Method::getName));
        List<Method> open = new ArrayList<>();
        for (Method m : methods) {
            if (java.lang.reflect.Modifier.isPublic(m.getModifiers())) {
                open.add(m);
            }
        }
        for (int i = 0; i < CALLS && wrong == 0; i++) {
            String name = pickName(open, i);
            for (Method m : open) {
                if (m.getName().equals(name)) {
                    call(m, arguments(m));
                }
            }
        }
    }

    private String pickName(List<Method> open, int i) {
        int machines = plain.n();
        if (machines < size && random.nextInt(machines + 1) == 0) {
            return "machine";
        }
        int roll = random.nextInt(100);
        if (roll < (i < 100 ? 25 : 6)) {
            return "tie";
        }
        if (roll < 30) {
            return "say";
        }
        if (!pending.isEmpty() && random.nextInt(wild) != 0) {
            return "feed";
        }
        if (edgy && !plain.s.tape.isEmpty() && random.nextInt(6) != 0) {
            return random.nextInt(5) == 0 ? "text" : "feed";
        }
        if (!plain.s.tape.isEmpty() && random.nextInt(wild) != 0) {
            return "text";
        }
        if (roll < 33) {
            return "feed";
        }
        if (roll < 40) {
            return new String[] {"says", "sheet", "move", "put", "put", "put", "put"}[random.nextInt(7)];
        }
        if (filling && roll < 60) {
            return "tell";
        }
        String name = open.get(random.nextInt(open.size())).getName();
        boolean slow = name.equals("known") || name.equals("pair") || name.equals("more") || name.equals("without");
        boolean refused = slow && machines > (name.equals("more") ? 7 : 9) && i % 64 != 0 || machines >= 12 && name.equals("mend") && i % 8 != 0;
        boolean rare = name.equals("mended") || name.equals("unsay") || name.equals("restore") || name.equals("most");
        return refused || name.equals("machine") && machines >= size && random.nextInt(3) != 0 || rare && random.nextInt(3) != 0 || filling && name.equals("check") && random.nextInt(6) != 0 ? "many" : name;
    }

    private int any(int least, int greatest) {
        if (random.nextInt(wild) == 0) {
            int[] odd = {-1, least - 1, greatest + 1, Integer.MIN_VALUE, Integer.MAX_VALUE, random.nextInt(), -2, 0};
            return odd[random.nextInt(odd.length)];
        }
        if (edgy && random.nextInt(3) == 0) {
            int[] edges = {least, least, greatest, greatest, least - 1, greatest + 1};
            return edges[random.nextInt(edges.length)];
        }
        return least + random.nextInt(Math.max(1, greatest - least + 1));
    }

    private int machine() {
        return any(0, plain.n() - 1);
    }

    private int set() {
        return any(0, (1 << plain.n()) - 1);
    }

    private Object[] arguments(Method m) {
        switch (m.getName()) {
            case "machine":
                return new Object[] {any(0, 5), random.nextInt(3) == 0 ? Math.max(1, plain.n()) : any(1, 99), any(1, 9)};
            case "machineIs":
                return new Object[] {machine(), any(0, 5)};
            case "as":
                return new Object[] {machine(), any(0, 5)};
            case "tie":
                return new Object[] {machine(), machine(), random.nextInt(5) == 0 ? 0 : any(1, random.nextBoolean() ? 3 : 99)};
            case "say":
                return saying();
            case "sayingIs":
                return new Object[] {any(0, plain.s.sayings.size() - 1), any(0, 3)};
            case "unsay":
                return new Object[] {any(0, plain.s.sayings.size() - 1)};
            case "most":
                return new Object[] {random.nextBoolean() ? 12 : any(0, 12)};
            case "feed":
                return chunk();
            case "fits":
            case "bars":
                return new Object[] {set()};
            case "which":
                return new Object[] {any(0, plain.many() - 1)};
            case "leads":
            case "mended":
                return new Object[] {machine()};
            case "without":
                return new Object[] {machine(), machine()};
            case "chance":
                return new Object[] {machine(), any(0, 1)};
            case "worst":
                return new Object[] {set() & (random.nextBoolean() ? -1 : set()), any(0, 1)};
            case "mend":
                return new Object[] {random.nextBoolean() ? any(0, 9999) : any(0, 200)};
            case "voice":
                return new Object[] {machine(), any(0, 3), random.nextBoolean() ? random.nextInt() : any(-20, 20)};
            case "body":
                return new Object[] {any(0, plain.trace.size() - 1)};
            case "sheet":
                return new Object[] {any(0, 3), random.nextInt(wild) == 0 ? any(0, 33) : new int[] {0, 8, 8, 8, 8, 8, 16, 32}[random.nextInt(8)], any(0, 24)};
            case "put":
                int sheet = sheet();
                int place = random.nextBoolean() ? any(0, 3) : any(0, 23);
                return new Object[] {sheet, place, place % 2 == 0 ? pairOrAny() : random.nextInt(3) - 1};
            case "move":
                return moving();
            case "says":
                return new Object[] {sheet()};
            case "tell":
                return new Object[] {likelyNext()};
            case "count":
                return new Object[] {any(0, 7)};
            case "told":
                return new Object[] {any(1, 6)};
            default:
                Object[] one = {any(0, 1)};
                return m.getParameterCount() == 0 ? new Object[0] : one;
        }
    }

    private Object[] saying() {
        int from = machine();
        int to = machine();
        List<int[]> ties = plain.ties();
        if (!ties.isEmpty() && random.nextBoolean()) {
            int[] tie = ties.get(random.nextInt(ties.size()));
            from = tie[0];
            to = tie[1];
        }
        boolean whole = random.nextBoolean();
        if (honest && plain.is(from) && plain.is(to)) {
            int kind = plain.s.machines.get(from).kind();
            if (!PlainHall.let(kind, PlainHall.in(broken, from), PlainHall.in(broken, to), whole)) {
                whole = !whole;
            }
            if (!PlainHall.let(kind, PlainHall.in(broken, from), PlainHall.in(broken, to), whole)) {
                from = -1;
            }
        }
        return new Object[] {from, to, whole};
    }

    private int sheet() {
        int sheet = any(0, 3);
        return sheet >= 0 && sheet < 4 && plain.sheets[sheet] == null && random.nextInt(wild) != 0 ? random.nextInt(4) : sheet;
    }

    /** Numbers that often stand where they are looked for, to the last one. */
    private Object[] moving() {
        int from = sheet();
        int to = sheet();
        int i = any(0, 8);
        int j = any(0, 8);
        int n = any(0, 12);
        boolean both = from >= 0 && from < 4 && to >= 0 && to < 4 && plain.sheets[from] != null && plain.sheets[to] != null;
        if (both && random.nextBoolean()) {
            n = Math.min(plain.sheets[from].length - i, plain.sheets[to].length - j) + (random.nextInt(3) == 0 ? 1 : 0);
        }
        return new Object[] {from, i, to, j, n};
    }

    private int pairOrAny() {
        List<int[]> ties = plain.ties();
        if (!ties.isEmpty() && random.nextInt(8) != 0) {
            int[] tie = ties.get(random.nextInt(ties.size()));
            return 12 * tie[0] + tie[1];
        }
        return random.nextInt(4) == 0 ? random.nextInt() : 12 * random.nextInt(plain.n() + 1) + random.nextInt(plain.n() + 1);
    }

    private int likelyNext() {
        List<Integer> f = plain.fittingOnes();
        int place = plain.s.waiting.size();
        return place < f.size() && random.nextInt(8) != 0 ? f.get(place) : any(0, 7);
    }

    // Texts: mostly words of the language, sometimes cut or spoilt.

    private String pending = "";

    private Object[] chunk() {
        if (pending.isEmpty()) {
            pending = randomText();
        }
        int n = Math.min(8, pending.length());
        long word = 0;
        for (int i = 0; i < n; i++) {
            word |= (long) (pending.charAt(i) & 255) << 8 * i;
        }
        pending = pending.substring(n);
        return new Object[] {word, random.nextInt(50) == 0 ? any(1, 8) : n};
    }

    private String number(int least, int greatest) {
        String digits = "" + (random.nextInt(25) == 0 ? random.nextInt(2000) : least + random.nextInt(greatest - least + 1));
        return random.nextInt(12) == 0 ? "0" + digits : digits;
    }

    private String randomItem() {
        String[] kinds = {"any", "polite", "contrary", "slack", "pact", "mute"};
        int top = Math.max(0, plain.n() - 1);
        switch (random.nextInt(plain.n() < size ? 5 : 4)) {
            case 0:
                return "tie " + number(0, top) + " " + number(0, top) + " " + number(1, 99);
            case 1:
                return "say " + number(0, top) + " " + number(0, top) + (random.nextBoolean() ? " whole" : " broken");
            case 2:
                return "most " + number(0, 12);
            case 3:
                return "tie " + number(0, top) + " " + number(0, top) + " " + number(1, 99);
            default:
                return "make " + kinds[random.nextInt(6)] + " " + number(1, 99) + " " + number(1, 9);
        }
    }

    private String randomText() {
        StringBuilder b = new StringBuilder(randomItem());
        for (int i = random.nextInt(4); i > 0; i--) {
            b.append(random.nextBoolean() ? ";" : " ; ").append(randomItem());
        }
        if (random.nextInt(6) == 0) {
            int place = random.nextInt(b.length());
            b.setCharAt(place, " ;0a9zA\u00e9".charAt(random.nextInt(8)));
        }
        if (random.nextInt(8) == 0) {
            b.setLength(random.nextInt(b.length()));
        }
        return b.toString().replace(" ", random.nextInt(5) == 0 ? "  " : " ");
    }

    private void call(Method m, Object[] arguments) throws ReflectiveOperationException {
        String told = m.getName() + java.util.Arrays.toString(arguments);
        Object got;
        try {
            got = m.invoke(hall, arguments);
        } catch (InvocationTargetException e) {
            got = e.getCause();
        }
        Object due = PlainHall.class.getDeclaredMethod(m.getName(), m.getParameterTypes()).invoke(plain, arguments);
        log.add(told + " -> " + got);
        if (!due.equals(got)) {
            wrong++;
            log.add("due is " + due);
        }
    }
}
