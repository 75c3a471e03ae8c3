/** A hall of machines of which some may be broken, and all that can be worked out of what they said of one another. */
public final class PoliteHall {
    private static final int LOW = -1000000;
    private static final int BEYOND = LOW - 1;
    private static final int NONE = LOW - 2;
    private static final int STATE = LOW - 3;
    private static final int FULL = LOW - 4;
    private static final int UNLIKE_KIND = LOW - 5;
    private static final int PARTED = LOW - 6;
    private static final int ERROR_KINDS = 6;

    private static final int MACHINES = 12;
    private static final int SETS = 1 << MACHINES;
    private static final int SAYINGS = 60;
    private static final int TAPE = 80;
    private static final int WAITING = 48;
    private static final int SHEETS = 4;
    private static final int SHEET_NUMBERS = 24;
    private static final int TRACE = 30;
    private static final int COINS = 9999;
    private static final int ROUNDS_MACHINES = 8;
    private static final int ROUNDS_TIES = 24;
    private static final int WORST_TIES = 8;
    private static final int TOO_MANY_BROKEN = 100;

    private static final int ANY = 0;
    private static final int POLITE = 1;
    private static final int CONTRARY = 2;
    private static final int SLACK = 3;
    private static final int PACT = 4;
    private static final int MUTE = 5;

    private static final int HUMS = 0;
    private static final int TRIES = 1;
    private static final int SAYS = 2;
    private static final int ENDS = 3;

    /** The kind above each kind; -1 above the highest. */
    private static final int[] ABOVE = {-1, ANY, ANY, ANY, CONTRARY, SLACK};

    /** Four a kind: the numbers of its own bodies of hums, tries, says, ends; 0 where it has none. */
    private static final int[] BODIES = {
        10, 11, 12, 13,
        20, 0, 21, 0,
        0, 30, 0, 31,
        40, 0, 41, 0,
        0, 50, 51, 0,
        60, 0, 0, 61
    };

    private final Hall hall = new Hall();
    private final Hall kept = new Hall();
    private final Hall draft = new Hall();
    private final Reader reader = new Reader(draft);
    private final Fitting fitting = new Fitting(hall);
    private final Doubt doubt = new Doubt(hall);
    private final Trials trials = new Trials(hall, fitting);
    private final Rumour rumour = new Rumour(hall);
    private final Voices voices = new Voices();
    private final Sheet[] sheets = new Sheet[SHEETS];
    private final int[] refused = new int[ERROR_KINDS + 1];
    private int images;

    public PoliteHall() {
        for (int i = 0; i < SHEETS; i++) {
            sheets[i] = new Sheet();
        }
    }

    // ---- machines, ties, sayings

    public int machine(int kind, int price, int chance) {
        if (outside(kind, ANY, MUTE) || outside(price, 1, 99) || outside(chance, 1, 9)) {
            return refuse(BEYOND);
        }
        if (!hall.hasRoomForMachine()) {
            return refuse(FULL);
        }
        return hall.addMachine(kind, price, chance);
    }

    public int machineIs(int machine, int what) {
        if (!hall.has(machine) || outside(what, 0, 5)) {
            return refuse(BEYOND);
        }
        switch (what) {
            case 0:
                return hall.kinds[machine];
            case 1:
                return hall.prices[machine];
            case 2:
                return hall.chances[machine];
            case 3:
                return hall.canTry[machine];
            case 4:
                return hall.sayingsBy(machine);
            default:
                return hall.sayingsOf(machine);
        }
    }

    public int as(int machine, int kind) {
        if (!hall.has(machine) || outside(kind, ANY, MUTE)) {
            return refuse(BEYOND);
        }
        if (!Kinds.isOrIsUnder(hall.kinds[machine], kind)) {
            return refuse(UNLIKE_KIND);
        }
        return hall.prices[machine];
    }

    public int tie(int from, int to, int cost) {
        if (!hall.has(from) || !hall.has(to) || outside(cost, 0, 99)) {
            return refuse(BEYOND);
        }
        if (from == to) {
            return refuse(STATE);
        }
        return hall.setTie(from, to, cost);
    }

    public int say(int from, int to, boolean whole) {
        int objection = hall.objectionToSaying(from, to);
        if (objection != 0) {
            return refuse(objection);
        }
        return hall.addSaying(from, to, whole);
    }

    public int sayingIs(int saying, int what) {
        if (!hall.hasSaying(saying) || outside(what, 0, 3)) {
            return refuse(BEYOND);
        }
        switch (what) {
            case 0:
                return hall.sayers[saying];
            case 1:
                return hall.subjects[saying];
            case 2:
                return hall.saidWhole(saying) ? 1 : 0;
            default:
                return hall.isValid(saying) ? 1 : 0;
        }
    }

    public int unsay(int saying) {
        if (!hall.hasSaying(saying)) {
            return refuse(BEYOND);
        }
        if (!hall.isValid(saying)) {
            return refuse(STATE);
        }
        hall.silence(saying);
        return 1;
    }

    public int most(int v) {
        if (outside(v, 0, MACHINES)) {
            return refuse(BEYOND);
        }
        return hall.setMost(v);
    }

    public int feed(long word, int n) {
        if (outside(n, 1, 8)) {
            return refuse(BEYOND);
        }
        if (n > TAPE - hall.taped) {
            return refuse(FULL);
        }
        return hall.addToTape(word, n);
    }

    public int text() {
        draft.copyFrom(hall);
        int answer = reader.read();
        if (answer >= 0) {
            hall.copyFrom(draft);
        }
        hall.taped = 0;
        return answer;
    }

    // ---- sets

    public int fits(int set) {
        if (!hall.hasAll(set)) {
            return refuse(BEYOND);
        }
        fitting.refresh();
        return fitting.holds(set) ? 1 : 0;
    }

    public int bars(int set) {
        if (!hall.hasAll(set)) {
            return refuse(BEYOND);
        }
        if (Integer.bitCount(set) > hall.most) {
            return TOO_MANY_BROKEN;
        }
        return hall.firstNotLet(set);
    }

    public int many() {
        fitting.refresh();
        return fitting.size;
    }

    public int which(int i) {
        fitting.refresh();
        if (outside(i, 0, fitting.size - 1)) {
            return refuse(BEYOND);
        }
        return fitting.sets[i];
    }

    public int sure(int what) {
        if (outside(what, 0, 1)) {
            return refuse(BEYOND);
        }
        fitting.refresh();
        if (fitting.size == 0) {
            return refuse(NONE);
        }
        return what == 0 ? fitting.inAll() : fitting.inNone();
    }

    public int blame(int what) {
        if (outside(what, 0, 1)) {
            return refuse(BEYOND);
        }
        fitting.refresh();
        int set = fitting.leastNotLet();
        return what == 0 ? fitting.notLetBy(set) : set;
    }

    public int leads(int machine) {
        if (!hall.has(machine)) {
            return refuse(BEYOND);
        }
        return hall.ledFrom(machine);
    }

    // ---- ties

    public int known() {
        doubt.look();
        return doubt.knowable();
    }

    public int pair(int what) {
        if (outside(what, 0, 1)) {
            return refuse(BEYOND);
        }
        doubt.look();
        if (doubt.knowable() == MACHINES) {
            return refuse(NONE);
        }
        return what == 0 ? doubt.firstOfPair() : doubt.otherOfPair();
    }

    public int more() {
        doubt.look();
        int tie = doubt.bestMissingTie();
        return tie < 0 ? refuse(NONE) : tie;
    }

    public int without(int from, int to) {
        if (!hall.has(from) || !hall.has(to)) {
            return refuse(BEYOND);
        }
        if (!hall.tied(from, to)) {
            return refuse(STATE);
        }
        doubt.lookWithout(from, to);
        return doubt.knowable();
    }

    // ---- trials, chances

    public int next(int what) {
        if (outside(what, 0, 1)) {
            return refuse(BEYOND);
        }
        fitting.refresh();
        int tie = trials.bestTie();
        if (tie < 0) {
            return refuse(NONE);
        }
        return what == 0 ? tie : trials.mostLeft;
    }

    public int rounds() {
        if (hall.machines > ROUNDS_MACHINES || hall.ties() > ROUNDS_TIES) {
            return refuse(FULL);
        }
        fitting.refresh();
        int needed = trials.roundsNeeded();
        return needed < 0 ? refuse(NONE) : needed;
    }

    public int likely() {
        fitting.refresh();
        if (fitting.size == 0) {
            return refuse(NONE);
        }
        return fitting.weightiest();
    }

    public long chance(int machine, int what) {
        if (!hall.has(machine) || outside(what, 0, 1)) {
            return refuse(BEYOND);
        }
        fitting.refresh();
        if (fitting.size == 0) {
            return refuse(NONE);
        }
        long upper = fitting.weightOfThoseWith(1 << machine);
        long lower = fitting.weightOfThoseWith(0);
        long shared = commonDivisor(lower, upper);
        if (shared == 0) {
            return 0;
        }
        return what == 0 ? upper / shared : lower / shared;
    }

    public int worst(int set, int what) {
        if (!hall.hasAll(set) || outside(what, 0, 1)) {
            return refuse(BEYOND);
        }
        if (rumour.tiesOfLiars(set) > WORST_TIES) {
            return refuse(FULL);
        }
        rumour.spread(set);
        return what == 0 ? rumour.fitting : rumour.words;
    }

    public int mend(int coins) {
        if (outside(coins, 0, COINS)) {
            return refuse(BEYOND);
        }
        fitting.refresh();
        return fitting.bestToMend(coins);
    }

    public int mended(int machine) {
        if (!hall.has(machine)) {
            return refuse(BEYOND);
        }
        return hall.silenceAllAbout(machine);
    }

    // ---- voices, sheets, images, what is told

    public int voice(int machine, int act, int x) {
        if (!hall.has(machine) || outside(act, HUMS, ENDS)) {
            return refuse(BEYOND);
        }
        int answer = voices.sound(hall, machine, act, x);
        return voices.parted ? refuse(PARTED) : answer;
    }

    public int body(int i) {
        if (outside(i, 0, voices.begun - 1)) {
            return refuse(NONE);
        }
        return voices.trace[i];
    }

    public int sheet(int sheet, int bits, int n) {
        if (outside(sheet, 0, SHEETS - 1) || !Sheet.isWidth(bits)) {
            return refuse(BEYOND);
        }
        if (bits == 0) {
            sheets[sheet].lay(0, 0);
            return 1;
        }
        if (n < 0) {
            return refuse(STATE);
        }
        if (n > SHEET_NUMBERS) {
            return refuse(BEYOND);
        }
        sheets[sheet].lay(bits, n);
        return 1;
    }

    public int put(int sheet, int i, int v) {
        int objection = objectionToSheet(sheet);
        if (objection != 0) {
            return refuse(objection);
        }
        if (outside(i, 0, sheets[sheet].length - 1)) {
            return refuse(BEYOND);
        }
        sheets[sheet].write(i, v);
        return 1;
    }

    public int move(int sheet, int i, int other, int j, int n) {
        if (outside(sheet, 0, SHEETS - 1) || outside(other, 0, SHEETS - 1)) {
            return refuse(BEYOND);
        }
        Sheet source = sheets[sheet];
        Sheet target = sheets[other];
        if (source.isMissing() || target.isMissing()) {
            return refuse(NONE);
        }
        if (source.bits != target.bits) {
            return refuse(UNLIKE_KIND);
        }
        if (!source.hasRun(i, n) || !target.hasRun(j, n)) {
            return refuse(BEYOND);
        }
        System.arraycopy(source.numbers, i, target.numbers, j, n);
        return n;
    }

    public int says(int sheet) {
        int objection = objectionToSheet(sheet);
        if (objection != 0) {
            return refuse(objection);
        }
        Sheet row = sheets[sheet];
        int came = 0;
        for (int i = 0; i + 1 < row.length; i += 2) {
            int from = row.numbers[i] / MACHINES;
            int to = row.numbers[i] % MACHINES;
            if (hall.objectionToSaying(from, to) != 0) {
                return came;
            }
            hall.addSaying(from, to, row.numbers[i + 1] != 0);
            came++;
        }
        return came;
    }

    public int image() {
        kept.copyFrom(hall);
        images++;
        return images;
    }

    public int restore() {
        if (images == 0) {
            return refuse(NONE);
        }
        hall.copyFrom(kept);
        return hall.machines;
    }

    public int tell(int v) {
        if (hall.waits >= WAITING) {
            return refuse(FULL);
        }
        return hall.addWaiting(v);
    }

    public int check() {
        fitting.refresh();
        int told = hall.waits;
        hall.waits = 0;
        for (int i = 0; i < told; i++) {
            if (i >= fitting.size || hall.waiting[i] != fitting.sets[i]) {
                return 1 + i;
            }
        }
        return 0;
    }

    public int count(int what) {
        switch (what) {
            case 0:
                return hall.machines;
            case 1:
                return hall.ties();
            case 2:
                return hall.sayings;
            case 3:
                return hall.validSayings();
            case 4:
                return hall.taped;
            case 5:
                return hall.waits;
            case 6:
                return voices.begun;
            case 7:
                return hall.costOfAllTies();
            default:
                return refuse(BEYOND);
        }
    }

    public int told(int k) {
        if (outside(k, 1, ERROR_KINDS)) {
            return refuse(BEYOND);
        }
        return refused[k];
    }

    /** Answers an error, and counts it for told(). */
    private int refuse(int error) {
        int k = LOW - error;
        if (!outside(k, 1, ERROR_KINDS)) {
            refused[k]++;
        }
        return error;
    }

    private int objectionToSheet(int sheet) {
        if (outside(sheet, 0, SHEETS - 1)) {
            return BEYOND;
        }
        return sheets[sheet].isMissing() ? NONE : 0;
    }

    private static boolean outside(int v, int least, int greatest) {
        return v < least || v > greatest;
    }

    private static long commonDivisor(long a, long b) {
        long greater = a;
        long lesser = b;
        // Numbers below 10 to the 12th: some sixty steps are the most that Euclid's way takes.
        for (int step = 0; step < 200 && lesser != 0; step++) {
            long rest = greater % lesser;
            greater = lesser;
            lesser = rest;
        }
        return greater;
    }

    /** What the kinds are, and what each kind may say. */
    private static final class Kinds {
        static boolean isOrIsUnder(int kind, int other) {
            int climbed = kind;
            for (int step = 0; step < ABOVE.length && climbed >= 0; step++) {
                if (climbed == other) {
                    return true;
                }
                climbed = ABOVE[climbed];
            }
            return false;
        }

        /** Whether one that is whole says whole only of those that are. */
        static boolean vouches(int kind) {
            return !isOrIsUnder(kind, SLACK);
        }

        private static boolean maySay(int kind, boolean sayerBroken, boolean subjectBroken, boolean whole) {
            return sayerBroken ? brokenMaySay(kind, subjectBroken, whole) : wholeMaySay(kind, subjectBroken, whole);
        }

        private static boolean wholeMaySay(int kind, boolean subjectBroken, boolean whole) {
            if (isOrIsUnder(kind, SLACK)) {
                return whole || subjectBroken;
            }
            return whole != subjectBroken;
        }

        private static boolean brokenMaySay(int kind, boolean subjectBroken, boolean whole) {
            switch (kind) {
                case POLITE:
                    return whole;
                case CONTRARY:
                    return whole == subjectBroken;
                case PACT:
                    return whole || !subjectBroken;
                case MUTE:
                    return false;
                default:
                    return true;
            }
        }

        /** The cases in which a saying is let, as bits: a walk over all sets asks these, not the kinds again. */
        static int letCases(int kind, boolean whole) {
            int cases = 0;
            for (int i = 0; i < 4; i++) {
                if (maySay(kind, (i & 2) != 0, (i & 1) != 0, whole)) {
                    cases |= 1 << i;
                }
            }
            return cases;
        }

        static boolean areLet(int cases, int set, int sayer, int subject) {
            int sayerBroken = set >> sayer & 1;
            int subjectBroken = set >> subject & 1;
            return (cases >> 2 * sayerBroken + subjectBroken & 1) != 0;
        }
    }

    /** All that an image keeps: machines, ties, sayings, the tape, the numbers that wait. */
    private static final class Hall {
        private int machines;
        private final int[] kinds = new int[MACHINES];
        private final int[] prices = new int[MACHINES];
        private final int[] chances = new int[MACHINES];
        private final int[] canTry = new int[MACHINES];
        private final int[] costs = new int[MACHINES * MACHINES];
        private int sayings;
        private final int[] sayers = new int[SAYINGS];
        private final int[] subjects = new int[SAYINGS];
        private long wholeBits;
        private long validBits;
        private int most = MACHINES;
        private final byte[] tape = new byte[TAPE];
        private int taped;
        private final int[] waiting = new int[WAITING];
        private int waits;
        /** Something came that which sets fit hangs on: tells Fitting to work anew. */
        private boolean changed = true;

        void copyFrom(Hall other) {
            machines = other.machines;
            System.arraycopy(other.kinds, 0, kinds, 0, MACHINES);
            System.arraycopy(other.prices, 0, prices, 0, MACHINES);
            System.arraycopy(other.chances, 0, chances, 0, MACHINES);
            System.arraycopy(other.canTry, 0, canTry, 0, MACHINES);
            System.arraycopy(other.costs, 0, costs, 0, MACHINES * MACHINES);
            sayings = other.sayings;
            System.arraycopy(other.sayers, 0, sayers, 0, SAYINGS);
            System.arraycopy(other.subjects, 0, subjects, 0, SAYINGS);
            wholeBits = other.wholeBits;
            validBits = other.validBits;
            most = other.most;
            System.arraycopy(other.tape, 0, tape, 0, TAPE);
            taped = other.taped;
            System.arraycopy(other.waiting, 0, waiting, 0, WAITING);
            waits = other.waits;
            changed = true;
        }

        boolean has(int machine) {
            return machine >= 0 && machine < machines;
        }

        boolean hasAll(int set) {
            return (set & ~everyone()) == 0;
        }

        int everyone() {
            return (1 << machines) - 1;
        }

        boolean hasRoomForMachine() {
            return machines < MACHINES;
        }

        int addMachine(int kind, int price, int chance) {
            kinds[machines] = kind;
            prices[machines] = price;
            chances[machines] = chance;
            machines++;
            changed = true;
            return machines - 1;
        }

        boolean tied(int from, int to) {
            return (canTry[from] >> to & 1) != 0;
        }

        int costOf(int from, int to) {
            return costs[from * MACHINES + to];
        }

        int setTie(int from, int to, int cost) {
            int before = costOf(from, to);
            costs[from * MACHINES + to] = cost;
            if (cost == 0) {
                canTry[from] &= ~(1 << to);
            } else {
                canTry[from] |= 1 << to;
            }
            return before;
        }

        int ties() {
            int sum = 0;
            for (int from = 0; from < machines; from++) {
                sum += Integer.bitCount(canTry[from]);
            }
            return sum;
        }

        int costOfAllTies() {
            int sum = 0;
            for (int i = 0; i < costs.length; i++) {
                sum += costs[i];
            }
            return sum;
        }

        boolean hasRoomForSaying() {
            return sayings < SAYINGS;
        }

        /** The error with which a saying is refused; 0: it is not. */
        int objectionToSaying(int from, int to) {
            if (!has(from) || !has(to)) {
                return BEYOND;
            }
            if (from == to || !tied(from, to)) {
                return STATE;
            }
            return hasRoomForSaying() ? 0 : FULL;
        }

        int addSaying(int from, int to, boolean whole) {
            sayers[sayings] = from;
            subjects[sayings] = to;
            long bit = 1L << sayings;
            wholeBits = whole ? wholeBits | bit : wholeBits & ~bit;
            validBits |= bit;
            sayings++;
            changed = true;
            return sayings - 1;
        }

        boolean hasSaying(int saying) {
            return saying >= 0 && saying < sayings;
        }

        boolean saidWhole(int saying) {
            return (wholeBits >> saying & 1) != 0;
        }

        boolean isValid(int saying) {
            return (validBits >> saying & 1) != 0;
        }

        void silence(int saying) {
            validBits &= ~(1L << saying);
            changed = true;
        }

        int silenceAllAbout(int machine) {
            int silenced = 0;
            for (int i = 0; i < sayings; i++) {
                if (isValid(i) && (sayers[i] == machine || subjects[i] == machine)) {
                    silence(i);
                    silenced++;
                }
            }
            return silenced;
        }

        int validSayings() {
            return Long.bitCount(validBits);
        }

        int sayingsBy(int machine) {
            int sum = 0;
            for (int i = 0; i < sayings; i++) {
                if (isValid(i) && sayers[i] == machine) {
                    sum++;
                }
            }
            return sum;
        }

        int sayingsOf(int machine) {
            int sum = 0;
            for (int i = 0; i < sayings; i++) {
                if (isValid(i) && subjects[i] == machine) {
                    sum++;
                }
            }
            return sum;
        }

        /** The first saying that a set of broken ones does not let; -1: it lets all. */
        int firstNotLet(int set) {
            for (int i = 0; i < sayings; i++) {
                if (isValid(i)) {
                    int cases = Kinds.letCases(kinds[sayers[i]], saidWhole(i));
                    if (!Kinds.areLet(cases, set, sayers[i], subjects[i])) {
                        return i;
                    }
                }
            }
            return -1;
        }

        int ledFrom(int machine) {
            int reached = 1 << machine;
            // Each pass but the last one reaches one machine more at least.
            for (int pass = 0; pass < machines; pass++) {
                for (int i = 0; i < sayings; i++) {
                    boolean said = isValid(i) && saidWhole(i) && Kinds.vouches(kinds[sayers[i]]);
                    if (said && (reached >> sayers[i] & 1) != 0) {
                        reached |= 1 << subjects[i];
                    }
                }
            }
            return reached;
        }

        int setMost(int v) {
            int before = most;
            most = v;
            changed = true;
            return before;
        }

        int addToTape(long word, int n) {
            for (int i = 0; i < n; i++) {
                tape[taped] = (byte) (word >> 8 * i);
                taped++;
            }
            return taped;
        }

        int addWaiting(int v) {
            waiting[waits] = v;
            waits++;
            return waits;
        }
    }

    /**
     * How many sayings each set does not let. What one saying adds hangs on two machines alone: a constant,
     * something for either if it is broken, and something for both; so each set follows from lesser ones in one step.
     */
    private static final class Tally {
        private final int[] notLet = new int[SETS];
        private final int[] single = new int[MACHINES];
        private final int[] both = new int[MACHINES * MACHINES];
        private int always;

        void clear() {
            always = 0;
            for (int i = 0; i < MACHINES; i++) {
                single[i] = 0;
            }
            for (int i = 0; i < both.length; i++) {
                both[i] = 0;
            }
        }

        void add(int cases, int sayer, int subject) {
            int noneBroken = 1 - (cases & 1);
            int subjectBroken = 1 - (cases >> 1 & 1);
            int sayerBroken = 1 - (cases >> 2 & 1);
            int bothBroken = 1 - (cases >> 3 & 1);
            always += noneBroken;
            single[sayer] += sayerBroken - noneBroken;
            single[subject] += subjectBroken - noneBroken;
            int higher = Math.max(sayer, subject);
            int lower = Math.min(sayer, subject);
            both[higher * MACHINES + lower] += bothBroken - sayerBroken - subjectBroken + noneBroken;
        }

        void fill(int machines) {
            notLet[0] = always;
            for (int higher = 0; higher < machines; higher++) {
                int high = 1 << higher;
                notLet[high] = always + single[higher];
                for (int lower = 0; lower < higher; lower++) {
                    int low = 1 << lower;
                    int forBoth = both[higher * MACHINES + lower];
                    for (int rest = 0; rest < low; rest++) {
                        notLet[high + low + rest] = notLet[high + rest] + notLet[low + rest] - notLet[rest] + forBoth;
                    }
                }
            }
        }
    }

    /** The sets that fit, in order; kept till the hall changes. */
    private static final class Fitting {
        private final Hall hall;
        private final Tally tally = new Tally();
        private final int[] sets = new int[SETS];
        private final int[] places = new int[MACHINES + 2];
        private final int[] counted = new int[SETS];
        private final int[] prices = new int[SETS];
        private final long[] weights = new long[SETS];
        private int size;

        Fitting(Hall hall) {
            this.hall = hall;
        }

        void refresh() {
            if (!hall.changed) {
                return;
            }
            tally.clear();
            for (int i = 0; i < hall.sayings; i++) {
                if (hall.isValid(i)) {
                    int cases = Kinds.letCases(hall.kinds[hall.sayers[i]], hall.saidWhole(i));
                    tally.add(cases, hall.sayers[i], hall.subjects[i]);
                }
            }
            tally.fill(hall.machines);
            sort();
            hall.changed = false;
        }

        /** Puts the fewest first: where those of each size begin is counted ahead. */
        private void sort() {
            for (int i = 0; i < places.length; i++) {
                places[i] = 0;
            }
            int end = 1 << hall.machines;
            for (int set = 0; set < end; set++) {
                if (holds(set)) {
                    places[Integer.bitCount(set) + 1]++;
                }
            }
            for (int i = 1; i < places.length; i++) {
                places[i] += places[i - 1];
            }
            size = places[MACHINES + 1];
            for (int set = 0; set < end; set++) {
                if (holds(set)) {
                    int few = Integer.bitCount(set);
                    sets[places[few]] = set;
                    places[few]++;
                }
            }
        }

        boolean holds(int set) {
            return tally.notLet[set] == 0 && Integer.bitCount(set) <= hall.most;
        }

        int notLetBy(int set) {
            return tally.notLet[set];
        }

        int inAll() {
            int common = hall.everyone();
            for (int i = 0; i < size; i++) {
                common &= sets[i];
            }
            return common;
        }

        int inNone() {
            int some = 0;
            for (int i = 0; i < size; i++) {
                some |= sets[i];
            }
            return hall.everyone() & ~some;
        }

        /** The first set, in order, of those of at most so many that do not let the fewest sayings. */
        int leastNotLet() {
            int best = 0;
            int end = 1 << hall.machines;
            for (int set = 1; set < end; set++) {
                int more = tally.notLet[set] - tally.notLet[best];
                if (more <= 0 && Integer.bitCount(set) <= hall.most) {
                    boolean ahead = more < 0 || Integer.bitCount(set) < Integer.bitCount(best);
                    best = ahead ? set : best;
                }
            }
            return best;
        }

        /** Doubles the sets machine by machine: each with it, and without it. */
        private void weigh() {
            weights[0] = 1;
            for (int i = 0; i < hall.machines; i++) {
                int bit = 1 << i;
                for (int set = 0; set < bit; set++) {
                    weights[bit + set] = weights[set] * hall.chances[i];
                    weights[set] *= 10 - hall.chances[i];
                }
            }
        }

        int weightiest() {
            weigh();
            int best = sets[0];
            for (int i = 1; i < size; i++) {
                if (weights[sets[i]] > weights[best]) {
                    best = sets[i];
                }
            }
            return best;
        }

        long weightOfThoseWith(int some) {
            weigh();
            long sum = 0;
            for (int i = 0; i < size; i++) {
                if ((sets[i] & some) == some) {
                    sum += weights[sets[i]];
                }
            }
            return sum;
        }

        private void priceEach() {
            prices[0] = 0;
            for (int i = 0; i < hall.machines; i++) {
                int bit = 1 << i;
                for (int set = 0; set < bit; set++) {
                    prices[bit + set] = prices[set] + hall.prices[i];
                }
            }
        }

        private void markEach() {
            int end = 1 << hall.machines;
            for (int set = 0; set < end; set++) {
                counted[set] = 0;
            }
            for (int i = 0; i < size; i++) {
                counted[sets[i]] = 1;
            }
        }

        /** Of each set, how many fitting ones lie in it: machine by machine, those without it lie in those with it. */
        private void countThoseIn() {
            markEach();
            int end = 1 << hall.machines;
            for (int bit = 1; bit < end; bit *= 2) {
                for (int block = 0; block < end; block += 2 * bit) {
                    for (int set = block; set < block + bit; set++) {
                        counted[set + bit] += counted[set];
                    }
                }
            }
        }

        /** Of each set, how many fitting ones have all of it. */
        void countThoseWith() {
            markEach();
            int end = 1 << hall.machines;
            for (int bit = 1; bit < end; bit *= 2) {
                for (int block = 0; block < end; block += 2 * bit) {
                    for (int set = block; set < block + bit; set++) {
                        counted[set] += counted[set + bit];
                    }
                }
            }
        }

        int bestToMend(int coins) {
            countThoseIn();
            priceEach();
            int best = 0;
            int end = 1 << hall.machines;
            for (int set = 1; set < end; set++) {
                boolean cheaper = counted[set] == counted[best] && prices[set] < prices[best];
                if (prices[set] <= coins && (counted[set] > counted[best] || cheaper)) {
                    best = set;
                }
            }
            return best;
        }
    }

    /** What can be known by ties alone: two sets that nobody outside of both can tell apart. */
    private static final class Doubt {
        private final Hall hall;
        private final int[] canTry = new int[MACHINES];
        /** Of each set, whom its members together can try. */
        private final int[] reached = new int[SETS];
        private int union;
        private int apart;
        private int greater;

        Doubt(Hall hall) {
            this.hall = hall;
        }

        void look() {
            System.arraycopy(hall.canTry, 0, canTry, 0, MACHINES);
            findPair();
        }

        void lookWithout(int from, int to) {
            System.arraycopy(hall.canTry, 0, canTry, 0, MACHINES);
            canTry[from] &= ~(1 << to);
            findPair();
        }

        private void reachOut() {
            for (int i = 0; i < hall.machines; i++) {
                int bit = 1 << i;
                for (int set = 0; set < bit; set++) {
                    reached[bit + set] = reached[set] | canTry[i];
                }
            }
        }

        /** Of those that the union of both has, the ones whom nobody outside can try may all be in just one of both. */
        private int apartIn(int set) {
            return set & ~reached[hall.everyone() & ~set];
        }

        private static int greaterOf(int set, int apartThere) {
            return Integer.bitCount(set) - Integer.bitCount(apartThere) / 2;
        }

        private void findPair() {
            reachOut();
            greater = MACHINES + 1;
            union = 0;
            apart = 0;
            int end = 1 << hall.machines;
            for (int set = 1; set < end; set++) {
                int apartThere = apartIn(set);
                if (apartThere != 0 && greaterOf(set, apartThere) < greater) {
                    greater = greaterOf(set, apartThere);
                    union = set;
                    apart = apartThere;
                }
            }
        }

        int knowable() {
            return greater - 1;
        }

        private int lowerHalf() {
            int half = 0;
            int wanted = (Integer.bitCount(apart) + 1) / 2;
            for (int i = 0; i < MACHINES; i++) {
                if ((apart >> i & 1) != 0 && Integer.bitCount(half) < wanted) {
                    half |= 1 << i;
                }
            }
            return half;
        }

        int firstOfPair() {
            return union & ~apart | lowerHalf();
        }

        int otherOfPair() {
            return union & ~lowerHalf();
        }

        /** 100 times from, and to; -1: all ties are there. */
        int bestMissingTie() {
            int best = -1;
            int bestGreater = 0;
            for (int from = 0; from < hall.machines; from++) {
                for (int to = 0; to < hall.machines; to++) {
                    if (from != to && !hall.tied(from, to)) {
                        int then = greaterWith(from, to, bestGreater);
                        if (then > bestGreater) {
                            bestGreater = then;
                            best = 100 * from + to;
                        }
                    }
                }
            }
            return best;
        }

        /** The greater of the pair if there were one tie more; anything up to enough, if it is not above that. */
        private int greaterWith(int from, int to, int enough) {
            // The pair that there is now decides for nearly all ties, without a look at all sets.
            if (changedGreater(union, apart, from, to) <= enough) {
                return enough;
            }
            int least = MACHINES + 1;
            int end = 1 << hall.machines;
            for (int set = 1; set < end && least > enough; set++) {
                least = Math.min(least, changedGreater(set, apartIn(set), from, to));
            }
            return least;
        }

        private static int changedGreater(int set, int apartThere, int from, int to) {
            int left = (set >> from & 1) != 0 ? apartThere : apartThere & ~(1 << to);
            return left == 0 ? MACHINES + 1 : greaterOf(set, left);
        }
    }

    /** Which tie to try next, and how many trials it takes. */
    private static final class Trials {
        private static final int SMALL_SETS = 1 << ROUNDS_MACHINES;

        private final Hall hall;
        private final Fitting fitting;
        private final int[] wholeCases = new int[MACHINES];
        private final int[] brokenCases = new int[MACHINES];
        private final int[] left = new int[SMALL_SETS];
        private int mostLeft;

        Trials(Hall hall, Fitting fitting) {
            this.hall = hall;
            this.fitting = fitting;
        }

        private void readKinds() {
            for (int i = 0; i < hall.machines; i++) {
                wholeCases[i] = Kinds.letCases(hall.kinds[i], true);
                brokenCases[i] = Kinds.letCases(hall.kinds[i], false);
            }
        }

        /** How many sets fit still, if what is said by a tie is let in these cases; fitting has counted those with each. */
        private int setsLeft(int cases, int from, int to) {
            int both = fitting.counted[1 << from | 1 << to];
            int fromOnly = fitting.counted[1 << from] - both;
            int toOnly = fitting.counted[1 << to] - both;
            int neither = fitting.size - both - fromOnly - toOnly;
            return (cases & 1) * neither + (cases >> 1 & 1) * toOnly + (cases >> 2 & 1) * fromOnly + (cases >> 3 & 1) * both;
        }

        /** 100 times from, and to; -1: there is no tie. How many sets it leaves at the most is in mostLeft then. */
        int bestTie() {
            readKinds();
            fitting.countThoseWith();
            int best = -1;
            int bestCost = 0;
            for (int from = 0; from < hall.machines; from++) {
                for (int to = 0; to < hall.machines; to++) {
                    if (hall.tied(from, to)) {
                        int leaves = Math.max(setsLeft(wholeCases[from], from, to), setsLeft(brokenCases[from], from, to));
                        int cost = hall.costOf(from, to);
                        if (best < 0 || leaves < mostLeft || leaves == mostLeft && cost < bestCost) {
                            best = 100 * from + to;
                            mostLeft = leaves;
                            bestCost = cost;
                        }
                    }
                }
            }
            return best;
        }

        /** 0, 1, 2; -1: two trials don't do. */
        int roundsNeeded() {
            if (fitting.size <= 1) {
                return 0;
            }
            readKinds();
            if (oneTrialDoes(fitting.sets, fitting.size)) {
                return 1;
            }
            for (int from = 0; from < hall.machines; from++) {
                for (int to = 0; to < hall.machines; to++) {
                    if (hall.tied(from, to) && oneMoreDoes(wholeCases[from], from, to) && oneMoreDoes(brokenCases[from], from, to)) {
                        return 2;
                    }
                }
            }
            return -1;
        }

        private boolean oneMoreDoes(int cases, int from, int to) {
            int size = 0;
            for (int i = 0; i < fitting.size && size < left.length; i++) {
                if (Kinds.areLet(cases, fitting.sets[i], from, to)) {
                    left[size] = fitting.sets[i];
                    size++;
                }
            }
            return size <= 1 || oneTrialDoes(left, size);
        }

        private boolean oneTrialDoes(int[] sets, int size) {
            for (int from = 0; from < hall.machines; from++) {
                for (int to = 0; to < hall.machines; to++) {
                    if (hall.tied(from, to) && leavesAtMostOne(sets, size, from, to)) {
                        return true;
                    }
                }
            }
            return false;
        }

        private boolean leavesAtMostOne(int[] sets, int size, int from, int to) {
            int ifWhole = 0;
            int ifBroken = 0;
            for (int i = 0; i < size && ifWhole <= 1 && ifBroken <= 1; i++) {
                ifWhole += Kinds.areLet(wholeCases[from], sets[i], from, to) ? 1 : 0;
                ifBroken += Kinds.areLet(brokenCases[from], sets[i], from, to) ? 1 : 0;
            }
            return ifWhole <= 1 && ifBroken <= 1;
        }
    }

    /** What broken ones should say so that the most sets fit. */
    private static final class Rumour {
        private static final int ALL_STANCES = 6561;
        private static final int STANCES = 3;
        private static final int BROKEN_ONLY = 0;
        private static final int WHOLE_ONLY = 1;
        private static final int EITHER = 2;

        private final Hall hall;
        private final Tally tally = new Tally();
        private final int[] liars = new int[WORST_TIES];
        private final int[] victims = new int[WORST_TIES];
        private final int[] wholeCases = new int[WORST_TIES];
        private final int[] brokenCases = new int[WORST_TIES];
        /** A digit of base 3 for each tie of the liars: how many sets let whole, broken, or either there. */
        private final int[] sets = new int[ALL_STANCES];
        private int asked;
        private int fitting;
        private int words;

        Rumour(Hall hall) {
            this.hall = hall;
        }

        private boolean lies(int machine, int set) {
            return (set >> machine & 1) != 0 && hall.kinds[machine] != MUTE;
        }

        int tiesOfLiars(int set) {
            int sum = 0;
            for (int i = 0; i < hall.machines; i++) {
                if (lies(i, set)) {
                    sum += Integer.bitCount(hall.canTry[i]);
                }
            }
            return sum;
        }

        void spread(int set) {
            listTies(set);
            hearWhole(set);
            int end = 1;
            for (int i = 0; i < asked; i++) {
                end *= STANCES;
            }
            countStances(end);
            shareEither(end);
            choose(set);
        }

        private void listTies(int set) {
            asked = 0;
            for (int from = 0; from < hall.machines; from++) {
                for (int to = 0; to < hall.machines; to++) {
                    if (lies(from, set) && hall.tied(from, to) && asked < WORST_TIES) {
                        liars[asked] = from;
                        victims[asked] = to;
                        wholeCases[asked] = Kinds.letCases(hall.kinds[from], true);
                        brokenCases[asked] = Kinds.letCases(hall.kinds[from], false);
                        asked++;
                    }
                }
            }
        }

        private void hearWhole(int set) {
            tally.clear();
            for (int from = 0; from < hall.machines; from++) {
                for (int to = 0; to < hall.machines; to++) {
                    if ((set >> from & 1) == 0 && hall.tied(from, to)) {
                        boolean whole = (set >> to & 1) == 0;
                        tally.add(Kinds.letCases(hall.kinds[from], whole), from, to);
                    }
                }
            }
            tally.fill(hall.machines);
        }

        private void countStances(int end) {
            for (int i = 0; i < end; i++) {
                sets[i] = 0;
            }
            int last = hall.everyone();
            for (int set = 0; set <= last; set++) {
                if (tally.notLet[set] == 0 && Integer.bitCount(set) <= hall.most) {
                    sets[stancesOf(set)]++;
                }
            }
        }

        private int stancesOf(int set) {
            int stances = 0;
            for (int i = asked - 1; i >= 0; i--) {
                stances = stances * STANCES + stanceOf(set, i);
            }
            return stances;
        }

        /** Those that lie are never mute: whatever is broken, each of them can say one or the other. */
        private int stanceOf(int set, int tie) {
            if (!Kinds.areLet(wholeCases[tie], set, liars[tie], victims[tie])) {
                return BROKEN_ONLY;
            }
            return Kinds.areLet(brokenCases[tie], set, liars[tie], victims[tie]) ? EITHER : WHOLE_ONLY;
        }

        /** Sets that let either count wherever one of both is said. */
        private void shareEither(int end) {
            for (int step = 1; step < end; step *= STANCES) {
                for (int block = 0; block < end; block += STANCES * step) {
                    for (int i = block; i < block + step; i++) {
                        int either = sets[i + EITHER * step];
                        sets[i + BROKEN_ONLY * step] += either;
                        sets[i + WHOLE_ONLY * step] += either;
                    }
                }
            }
        }

        private void choose(int set) {
            fitting = -1;
            words = 0;
            for (int said = 0; said < 1 << asked; said++) {
                if (maySay(set, said) && sets[placeOf(said)] > fitting) {
                    fitting = sets[placeOf(said)];
                    words = said;
                }
            }
        }

        private boolean maySay(int set, int said) {
            for (int i = 0; i < asked; i++) {
                int cases = (said >> i & 1) != 0 ? wholeCases[i] : brokenCases[i];
                if (!Kinds.areLet(cases, set, liars[i], victims[i])) {
                    return false;
                }
            }
            return true;
        }

        private int placeOf(int said) {
            int place = 0;
            for (int i = asked - 1; i >= 0; i--) {
                place = place * STANCES + (said >> i & 1);
            }
            return place;
        }
    }

    /** Reads the tape of a hall as a text, and does in that hall what it reads, also if a fault comes later. */
    private static final class Reader {
        private static final int END = 0;
        private static final int WORD = 1;
        private static final int NUMBER = 2;
        private static final int OTHER = 3;
        private static final int BLANK = 32;
        private static final int NO_NUMBER = -1;
        private static final int NO_FAULT = -1;

        private final Hall hall;
        private int place;
        private int start;
        private int type;
        private int fault;

        Reader(Hall hall) {
            this.hall = hall;
        }

        /** How many items there were; -10 less the fault. */
        int read() {
            place = 0;
            fault = NO_FAULT;
            int items = 0;
            boolean goesOn = true;
            while (goesOn && items < TAPE) {
                readItem();
                items++;
                advance();
                goesOn = isRight() && type == OTHER && hall.tape[start] == ';';
                if (!goesOn && type != END) {
                    fail();
                }
            }
            return isRight() ? items : -10 - fault;
        }

        private boolean isRight() {
            return fault == NO_FAULT;
        }

        private void fail() {
            if (isRight()) {
                fault = start;
            }
        }

        private void readItem() {
            advance();
            if (isWord("make") && hall.hasRoomForMachine()) {
                readMachine();
            } else if (isWord("tie")) {
                readTie();
            } else if (isWord("say") && hall.hasRoomForSaying()) {
                readSaying();
            } else if (isWord("most")) {
                readMost();
            } else {
                fail();
            }
        }

        private void readMachine() {
            int kind = readKind();
            int price = readNumber(1, 99);
            int chance = readNumber(1, 9);
            if (isRight()) {
                hall.addMachine(kind, price, chance);
            }
        }

        private void readTie() {
            int from = readNumber(0, hall.machines - 1);
            int to = readNumber(0, hall.machines - 1);
            if (isRight() && from == to) {
                fail();
            }
            int cost = readNumber(1, 99);
            if (isRight()) {
                hall.setTie(from, to, cost);
            }
        }

        private void readSaying() {
            int from = readNumber(0, hall.machines - 1);
            int to = readNumber(0, hall.machines - 1);
            if (isRight() && hall.objectionToSaying(from, to) != 0) {
                fail();
            }
            advance();
            boolean whole = isWord("whole");
            if (!whole && !isWord("broken")) {
                fail();
            }
            if (isRight()) {
                hall.addSaying(from, to, whole);
            }
        }

        private void readMost() {
            int v = readNumber(0, MACHINES);
            if (isRight()) {
                hall.setMost(v);
            }
        }

        private int readKind() {
            advance();
            for (int kind = ANY; kind <= MUTE; kind++) {
                if (isWord(wordOf(kind))) {
                    return kind;
                }
            }
            fail();
            return ANY;
        }

        private static String wordOf(int kind) {
            switch (kind) {
                case POLITE:
                    return "polite";
                case CONTRARY:
                    return "contrary";
                case SLACK:
                    return "slack";
                case PACT:
                    return "pact";
                case MUTE:
                    return "mute";
                default:
                    return "any";
            }
        }

        private int readNumber(int least, int greatest) {
            advance();
            int v = takenNumber();
            if (outside(v, least, greatest)) {
                fail();
            }
            return v;
        }

        private int takenNumber() {
            if (type != NUMBER || place - start > 3) {
                return NO_NUMBER;
            }
            int v = 0;
            for (int i = start; i < place; i++) {
                v = v * 10 + hall.tape[i] - '0';
            }
            return v;
        }

        private boolean isWord(String word) {
            if (type != WORD || place - start != word.length()) {
                return false;
            }
            for (int i = 0; i < word.length(); i++) {
                if (hall.tape[start + i] != word.charAt(i)) {
                    return false;
                }
            }
            return true;
        }

        /** Takes the next word, number or other byte; none once there is a fault. */
        private void advance() {
            if (!isRight()) {
                return;
            }
            while (place < hall.taped && hall.tape[place] == BLANK) {
                place++;
            }
            start = place;
            if (place >= hall.taped) {
                type = END;
                return;
            }
            type = typeAt(place);
            place++;
            while (type != OTHER && place < hall.taped && typeAt(place) == type) {
                place++;
            }
        }

        private int typeAt(int i) {
            int b = hall.tape[i];
            if (b >= 'a' && b <= 'z') {
                return WORD;
            }
            return b >= '0' && b <= '9' ? NUMBER : OTHER;
        }
    }

    /** The voices of machines, by kinds of which some have bodies of their own, and the trace of the latest one. */
    private static final class Voices {
        private static final int DEEPEST = 40;

        private final int[] trace = new int[TRACE];
        private int begun;
        private boolean parted;
        private int kind;
        private int number;
        private int price;
        private int chance;

        int sound(Hall hall, int machine, int act, int x) {
            begun = 0;
            parted = false;
            kind = hall.kinds[machine];
            number = machine;
            price = hall.prices[machine];
            chance = hall.chances[machine];
            return perform(kind, act, x, 0);
        }

        /** Runs the body of a kind, or of the next kind above that has one; nothing begins once it is parted. */
        private int perform(int lowest, int act, int x, int depth) {
            if (parted || depth > DEEPEST) {
                return 0;
            }
            int owner = lowest;
            for (int step = 0; step < ABOVE.length && BODIES[owner * 4 + act] == 0 && ABOVE[owner] >= 0; step++) {
                owner = ABOVE[owner];
            }
            int chosen = BODIES[owner * 4 + act];
            if (begun < TRACE) {
                trace[begun] = chosen;
                begun++;
            }
            return owner == ANY ? runHighest(chosen, x, depth + 1) : run(chosen, ABOVE[owner], x, depth + 1);
        }

        private int runHighest(int chosen, int x, int depth) {
            switch (chosen) {
                case 10:
                    return x + chance;
                case 11:
                    return perform(kind, HUMS, x, depth) * 3;
                case 12:
                    return perform(kind, TRIES, x, depth) - price;
                default:
                    return shareOut(x);
            }
        }

        private int shareOut(int x) {
            int parts = price - number;
            if (parts == 0) {
                parted = true;
                return 0;
            }
            return x / parts;
        }

        private int run(int chosen, int above, int x, int depth) {
            switch (chosen) {
                case 20:
                    return perform(above, HUMS, x, depth) + 1;
                case 21:
                    return perform(above, SAYS, x, depth) ^ price;
                case 30:
                    return 0 - perform(above, TRIES, x, depth);
                case 31:
                    return perform(above, ENDS, x, depth) + perform(kind, HUMS, number, depth);
                case 40:
                    return perform(above, HUMS, x / 2, depth);
                case 41:
                    return perform(above, SAYS, x, depth) + perform(kind, TRIES, 1, depth);
                case 50:
                    return perform(above, TRIES, x + 1, depth);
                case 51:
                    return perform(above, SAYS, x, depth) - perform(above, TRIES, 0, depth);
                case 61:
                    return perform(kind, SAYS, x, depth) - perform(above, ENDS, x, depth);
                default:
                    return 0;
            }
        }
    }

    /** A row of numbers of 8, 16 or 32 bits; of 0 bits: it is missing. */
    private static final class Sheet {
        private final int[] numbers = new int[SHEET_NUMBERS];
        private int bits;
        private int length;

        static boolean isWidth(int bits) {
            return bits == 0 || bits == 8 || bits == 16 || bits == 32;
        }

        boolean isMissing() {
            return bits == 0;
        }

        void lay(int width, int n) {
            bits = width;
            length = n;
            for (int i = 0; i < numbers.length; i++) {
                numbers[i] = 0;
            }
        }

        void write(int i, int v) {
            numbers[i] = bits == 8 ? (byte) v : bits == 16 ? (short) v : v;
        }

        /** Asked without a sum, which could wrap. */
        boolean hasRun(int i, int n) {
            return i >= 0 && n >= 0 && n <= length && i <= length - n;
        }
    }
}
