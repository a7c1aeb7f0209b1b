import java.util.Arrays;

/**
 * Gates of a garden of walls that open by how many have gone through them.
 *
 * <p>All rows are made with the object; no call makes another object.
 */
public final class OddLetsIn {
    public static final int BAD = -1, NO = -2, FULL = -3, NONE = -4;

    private static final int MOST_GATES = 5;
    private static final int MOST_PERSONS = 3;
    private static final int PERSONS_UNTOLD = 2;
    private static final int COURTS = 5;
    private static final int MOST_KEPT = 2;
    private static final int MOST_BYTES_AT_ONCE = 8;

    private static final int EVEN = 0, ODD = 1, THREES = 2, COPY = 3, ONE_WAY = 4;
    private static final int KINDS = 5;

    private static final int SIDE_A = 0, SIDE_B = 1;

    private static final int GOAL_ALL = 0, GOAL_ANY = 1, GOAL_SET = 2;

    private static final int AS_IT_IS = 32;
    private static final int MOST_GUESTS = 60;
    private static final int MOST_COMERS = 8;
    private static final int WHOLE_CHANCE = 10;
    private static final int HIGHEST_DAY = 9999;
    private static final int MOST_STEPS = 99;

    private final Text text = new Text();
    private final Garden now = new Garden();
    /** Calls that only ask try things out here, so that nothing changes by them. */
    private final Garden trial = new Garden();
    private final Garden lowerKept = new Garden();
    private final Garden upperKept = new Garden();
    private int keptMany = 0;
    private final Deeds deeds = new Deeds();
    private final Sights sights = new Sights();
    private final Route route = new Route();
    private final Walk walk = new Walk();
    private final Chance chance = new Chance();

    public OddLetsIn() {
        now.addGate(0, 1, EVEN, 0);
        now.addGate(1, 2, ODD, 1);
    }

    // ---- gardens

    public int write(int n, long v) {
        if (n < 1 || n > MOST_BYTES_AT_ONCE) {
            return BAD;
        }
        if (!text.hasRoom(n)) {
            return FULL;
        }
        text.append(n, v);
        return text.length;
    }

    public int wipe() {
        int length = text.length;
        text.length = 0;
        return length;
    }

    public int fault() {
        return text.readInto(trial);
    }

    public int lay() {
        if (text.readInto(trial) != NONE || trial.gates == 0) {
            return NO;
        }
        now.copyFrom(trial);
        sights.many = 0;
        route.many = 0;
        deeds.many = 0;
        keptMany = 0;
        return now.gates;
    }

    public int gate(int g, int what) {
        if (!now.hasGate(g)) {
            return BAD;
        }
        switch (what) {
            case 0:
                return now.courtA[g];
            case 1:
                return now.courtB[g];
            case 2:
                return now.kind[g];
            case 3:
                return now.gone[g];
            case 4:
                return now.isOpen(g, SIDE_A) ? 1 : 0;
            case 5:
                return now.isOpen(g, SIDE_B) ? 1 : 0;
            default:
                return BAD;
        }
    }

    public int where(int p) {
        return now.hasPerson(p) ? now.court[p] : BAD;
    }

    // ---- passes

    public int can(int p, int g) {
        if (!now.hasPerson(p) || !now.hasGate(g)) {
            return BAD;
        }
        return now.letsIn(p, g) ? 1 : 0;
    }

    public int pass(int p, int g) {
        if (!now.hasPerson(p) || !now.hasGate(g)) {
            return BAD;
        }
        if (!now.letsIn(p, g)) {
            return NO;
        }
        deeds.note(p, g, now.court[p], 0);
        now.letThrough(p, g);
        return now.court[p];
    }

    public int linger(int p, int g) {
        if (!now.hasPerson(p) || !now.hasGate(g)) {
            return BAD;
        }
        if (!now.letsIn(p, g)) {
            return NO;
        }
        deeds.note(p, g, now.court[p], 1);
        now.gone[g]++;
        now.fines++;
        return now.fines;
    }

    public int undo() {
        if (deeds.many == 0) {
            return NO;
        }
        deeds.takeBackIn(now);
        return deeds.many;
    }

    // ---- ways

    public int way(int c, boolean all, int what) {
        if (!isCourt(c) || !isZeroOrOne(what)) {
            return BAD;
        }
        walk.search(now, all ? GOAL_ALL : GOAL_ANY, c);
        return what == 0 ? walk.fewest : walk.first;
    }

    public int smallest(int c) {
        if (!isCourt(c)) {
            return BAD;
        }
        trial.copyFrom(now);
        for (int m = 1; m <= MOST_PERSONS; m++) {
            trial.gather(m);
            walk.search(trial, GOAL_ANY, c);
            if (walk.fewest != NONE) {
                return m;
            }
        }
        return NONE;
    }

    public int mend(int set, int what) {
        if (!now.hasSet(set) || !isZeroOrOne(what)) {
            return BAD;
        }
        trial.copyFrom(now);
        trial.gather(1);
        walk.search(trial, GOAL_SET, set);
        return what == 0 ? walk.fewest : walk.first;
    }

    // ---- who counts wrong

    public int seen(int g, boolean open) {
        if (!now.hasGate(g)) {
            return BAD;
        }
        if (!sights.hasRoom()) {
            return FULL;
        }
        sights.add(g, open);
        return sights.many;
    }

    public int forget() {
        int many = sights.many;
        sights.many = 0;
        return many;
    }

    public int wrong() {
        trial.copyFrom(now);
        int bits = sights.fit(trial.openFromA()) ? AS_IT_IS : 0;
        for (int g = 0; g < trial.gates && g < MOST_GATES; g++) {
            trial.gone[g]++;
            if (sights.fit(trial.openFromA())) {
                bits |= 1 << g;
            }
            trial.gone[g]--;
        }
        return bits;
    }

    // ---- guests

    public int path(int g) {
        if (!now.hasGate(g)) {
            return BAD;
        }
        if (!route.hasRoom()) {
            return FULL;
        }
        route.add(g);
        return route.many;
    }

    public int noPath() {
        int many = route.many;
        route.many = 0;
        return many;
    }

    public int guests(int set, int what) {
        if (!now.hasSet(set) || !isZeroOrOne(what)) {
            return BAD;
        }
        trial.copyFrom(now);
        int many = 0;
        int lowest = NONE;
        for (int x = 1; x <= MOST_GUESTS; x++) {
            route.leadGuest(trial);
            if (trial.openFromA() == set) {
                many++;
                lowest = lowest == NONE ? x : lowest;
            }
        }
        return what == 0 ? many : lowest;
    }

    public int odds(int g, int n, int q, int part) {
        if (!now.hasGate(g) || n < 1 || n > MOST_COMERS) {
            return BAD;
        }
        if (q < 0 || q > WHOLE_CHANCE || !isZeroOrOne(part)) {
            return BAD;
        }
        trial.copyFrom(now);
        chance.reckon(trial, g, n, q);
        return part == 0 ? chance.above : chance.below;
    }

    public int day(int z, int n, int p) {
        if (z < 0 || z > HIGHEST_DAY || n < 1 || n > MOST_STEPS) {
            return BAD;
        }
        if (p != -1 && !now.hasPerson(p)) {
            return BAD;
        }
        trial.copyFrom(now);
        int passes = 0;
        for (int t = 0; t < n; t++) {
            passes += trial.stepByDraw(z, t) ? 1 : 0;
        }
        return p == -1 ? passes : trial.court[p];
    }

    public int keep() {
        if (keptMany >= MOST_KEPT) {
            return FULL;
        }
        keptAt(keptMany).copyFrom(now);
        keptMany++;
        return keptMany;
    }

    public int back() {
        if (keptMany == 0) {
            return NO;
        }
        keptMany--;
        now.copyFrom(keptAt(keptMany));
        deeds.many = 0;
        return keptMany;
    }

    public int count(int what) {
        switch (what) {
            case 0:
                return now.gates;
            case 1:
                return now.persons;
            case 2:
                return now.fines;
            case 3:
                return Integer.bitCount(now.openFromA());
            case 4:
                return sights.many;
            case 5:
                return route.many;
            case 6:
                return deeds.many;
            case 7:
                return keptMany;
            case 8:
                return text.length;
            default:
                return BAD;
        }
    }

    private Garden keptAt(int place) {
        return place == 0 ? lowerKept : upperKept;
    }

    private static boolean isCourt(int c) {
        return c >= 0 && c < COURTS;
    }

    private static boolean isZeroOrOne(int what) {
        return what == 0 || what == 1;
    }

    /** Gates as they stand, where persons are, and fines. */
    private static final class Garden {
        final int[] courtA = new int[MOST_GATES];
        final int[] courtB = new int[MOST_GATES];
        final int[] kind = new int[MOST_GATES];
        final int[] gone = new int[MOST_GATES];
        int gates = 0;
        final int[] court = new int[MOST_PERSONS];
        int persons = PERSONS_UNTOLD;
        int fines = 0;

        void clear() {
            gates = 0;
            fines = 0;
            gather(PERSONS_UNTOLD);
        }

        /** So many persons are here from now on, all in court 0. */
        void gather(int many) {
            persons = Math.max(1, Math.min(many, MOST_PERSONS));
            Arrays.fill(court, 0);
        }

        /** Adds a gate, if there can be such a one: whether it could. */
        boolean addGate(int a, int b, int k, int i) {
            if (gates >= MOST_GATES || !isCourt(a) || !isCourt(b) || a == b) {
                return false;
            }
            if (k < 0 || k >= KINDS || (k == COPY && gates == 0) || i < 0) {
                return false;
            }
            courtA[gates] = a;
            courtB[gates] = b;
            kind[gates] = k;
            gone[gates] = i;
            gates++;
            return true;
        }

        void copyFrom(Garden other) {
            System.arraycopy(other.courtA, 0, courtA, 0, MOST_GATES);
            System.arraycopy(other.courtB, 0, courtB, 0, MOST_GATES);
            System.arraycopy(other.kind, 0, kind, 0, MOST_GATES);
            System.arraycopy(other.gone, 0, gone, 0, MOST_GATES);
            System.arraycopy(other.court, 0, court, 0, MOST_PERSONS);
            gates = other.gates;
            persons = other.persons;
            fines = other.fines;
        }

        boolean hasGate(int g) {
            return g >= 0 && g < gates && g < MOST_GATES;
        }

        boolean hasPerson(int p) {
            return p >= 0 && p < persons && p < MOST_PERSONS;
        }

        boolean hasSet(int set) {
            return set >= 0 && set < 1 << gates;
        }

        /** The gate whose count tells whether this one is open: itself, or what it copies. */
        int ruler(int g) {
            int ruler = g;
            for (int i = 0; i < MOST_GATES && hasGate(ruler) && kind[ruler] == COPY; i++) {
                ruler--;
            }
            return ruler;
        }

        boolean isOpen(int g, int side) {
            int ruler = ruler(g);
            if (!hasGate(ruler)) {
                return false;
            }
            switch (kind[ruler]) {
                case EVEN:
                    return gone[ruler] % 2 == 0;
                case ODD:
                    return gone[ruler] % 2 != 0;
                case THREES:
                    return gone[ruler] % 3 == 0;
                case ONE_WAY:
                    return side == SIDE_A && gone[ruler] % 2 == 0;
                default:
                    return false;
            }
        }

        /** The gates that are open from A, as bits. */
        int openFromA() {
            int bits = 0;
            for (int g = 0; g < gates && g < MOST_GATES; g++) {
                bits |= isOpen(g, SIDE_A) ? 1 << g : 0;
            }
            return bits;
        }

        /** Whether a gate is beside a court and open from there. */
        boolean isOpenFrom(int from, int g) {
            if (!hasGate(g)) {
                return false;
            }
            if (from == courtA[g]) {
                return isOpen(g, SIDE_A);
            }
            return from == courtB[g] && isOpen(g, SIDE_B);
        }

        /** The court on the other side of a gate; the same court, if the gate is not beside it. */
        int beyond(int from, int g) {
            if (!hasGate(g)) {
                return from;
            }
            if (from == courtA[g]) {
                return courtB[g];
            }
            return from == courtB[g] ? courtA[g] : from;
        }

        boolean letsIn(int p, int g) {
            return hasPerson(p) && isOpenFrom(court[p], g);
        }

        void letThrough(int p, int g) {
            if (hasPerson(p) && hasGate(g)) {
                court[p] = beyond(court[p], g);
                gone[g]++;
            }
        }

        /** One step of a day: whether somebody passed. */
        boolean stepByDraw(int z, int t) {
            if (persons < 1 || gates < 1) {
                return false;
            }
            long x = 7919L * z + 6151L * t + 1;
            int draw = (int) (x * x % 65521);
            int p = draw % persons;
            int g = draw / 8 % gates;
            if (!letsIn(p, g)) {
                return false;
            }
            letThrough(p, g);
            return true;
        }
    }

    /** The bytes written, and how they are read as items. */
    private static final class Text {
        static final int LONGEST = 200;
        static final int NO_NUMBER = -1;

        final int[] signs = new int[LONGEST];
        int length = 0;
        private int at = 0;

        boolean hasRoom(int n) {
            return n <= LONGEST - length;
        }

        void append(int n, long v) {
            for (int i = n - 1; i >= 0 && length < LONGEST; i--) {
                signs[length] = (int) (v >>> (8 * i)) & 255;
                length++;
            }
        }

        /** Makes the garden that the text tells: the place of the first item at fault, or NONE. */
        int readInto(Garden garden) {
            garden.clear();
            at = 0;
            for (int items = 0; items < LONGEST && at < length; items++) {
                int start = at;
                if (!readItem(garden)) {
                    return start;
                }
            }
            return NONE;
        }

        private boolean readItem(Garden garden) {
            if (takes('g')) {
                return readGate(garden);
            }
            return takes('n') && readPersons(garden);
        }

        private boolean readGate(Garden garden) {
            int a = number(',');
            int b = number(',');
            int kind = number(',');
            int gone = number(';');
            return garden.addGate(a, b, kind, gone);
        }

        private boolean readPersons(Garden garden) {
            int many = number(';');
            if (many < 1 || many > MOST_PERSONS) {
                return false;
            }
            garden.gather(many);
            return true;
        }

        /** A number of one or two figures and the sign behind it. */
        private int number(char end) {
            int value = figure();
            if (value == NO_NUMBER) {
                return NO_NUMBER;
            }
            int second = figure();
            if (second != NO_NUMBER) {
                value = 10 * value + second;
            }
            return takes(end) ? value : NO_NUMBER;
        }

        private int figure() {
            int sign = signHere();
            if (sign < '0' || sign > '9') {
                return NO_NUMBER;
            }
            at++;
            return sign - '0';
        }

        private boolean takes(char sign) {
            if (signHere() != sign) {
                return false;
            }
            at++;
            return true;
        }

        private int signHere() {
            return at >= 0 && at < length && at < LONGEST ? signs[at] : -1;
        }
    }

    /** The latest passes and lingerings, as many as can be undone. */
    private static final class Deeds {
        static final int MOST = 8;

        final int[] person = new int[MOST];
        final int[] gate = new int[MOST];
        final int[] from = new int[MOST];
        final int[] fine = new int[MOST];
        int many = 0;

        void note(int p, int g, int court, int fined) {
            if (many >= MOST) {
                dropOldest();
            }
            if (many < 0 || many >= MOST) {
                return;
            }
            person[many] = p;
            gate[many] = g;
            from[many] = court;
            fine[many] = fined;
            many++;
        }

        void takeBackIn(Garden garden) {
            if (many < 1 || many > MOST) {
                return;
            }
            many--;
            int p = person[many];
            int g = gate[many];
            if (garden.hasPerson(p) && garden.hasGate(g)) {
                garden.court[p] = from[many];
                garden.gone[g]--;
                garden.fines -= fine[many];
            }
        }

        private void dropOldest() {
            shiftDown(person);
            shiftDown(gate);
            shiftDown(from);
            shiftDown(fine);
            many = MOST - 1;
        }

        private static void shiftDown(int[] row) {
            System.arraycopy(row, 1, row, 0, MOST - 1);
        }
    }

    /** How gates were seen. */
    private static final class Sights {
        static final int MOST = 10;

        final int[] gate = new int[MOST];
        final boolean[] open = new boolean[MOST];
        int many = 0;

        boolean hasRoom() {
            return many < MOST;
        }

        void add(int g, boolean wasOpen) {
            if (many >= 0 && many < MOST) {
                gate[many] = g;
                open[many] = wasOpen;
                many++;
            }
        }

        /** Whether all is as seen, if just the gates of these bits are open from A. */
        boolean fit(int openBits) {
            for (int i = 0; i < many && i < MOST; i++) {
                boolean isOpen = (openBits >> gate[i] & 1) != 0;
                if (isOpen != open[i]) {
                    return false;
                }
            }
            return true;
        }
    }

    /** The path of the guests. */
    private static final class Route {
        static final int MOST = 8;

        final int[] gate = new int[MOST];
        int many = 0;

        boolean hasRoom() {
            return many < MOST;
        }

        void add(int g) {
            if (many >= 0 && many < MOST) {
                gate[many] = g;
                many++;
            }
        }

        void leadGuest(Garden garden) {
            int court = 0;
            for (int i = 0; i < many && i < MOST; i++) {
                int g = gate[i];
                if (!garden.hasGate(g) || !garden.isOpenFrom(court, g)) {
                    return;
                }
                garden.gone[g]++;
                court = garden.beyond(court, g);
            }
        }
    }

    /** By what chance a gate is open behind those who try it. */
    private static final class Chance {
        /** By how many have gone so far: ten to the power of those who came times the chance of it. */
        private final int[] weight = new int[MOST_COMERS + 1];
        int above = 0;
        int below = 1;

        /** The count of the gate in this garden is not as before behind this call. */
        void reckon(Garden garden, int g, int n, int q) {
            int openBits = openByMoreGone(garden, g);
            Arrays.fill(weight, 0);
            weight[0] = 1;
            above = 0;
            below = 1;
            for (int comer = 0; comer < n && comer < MOST_COMERS; comer++) {
                comeOne(openBits, q);
                below *= WHOLE_CHANCE;
            }
            for (int more = 0; more <= MOST_COMERS; more++) {
                above += (openBits >> more & 1) * weight[more];
            }
            reduce();
        }

        /** Bit k: whether the gate is open from A, if k more have gone through it. */
        private int openByMoreGone(Garden garden, int g) {
            int bits = 0;
            for (int more = 0; more <= MOST_COMERS && garden.hasGate(g); more++) {
                bits |= garden.isOpen(g, SIDE_A) ? 1 << more : 0;
                garden.gone[g]++;
            }
            return bits;
        }

        private void comeOne(int openBits, int q) {
            for (int more = MOST_COMERS; more >= 0; more--) {
                boolean open = (openBits >> more & 1) != 0;
                int going = open ? q : 0;
                if (more < MOST_COMERS) {
                    weight[more + 1] += weight[more] * going;
                }
                weight[more] *= WHOLE_CHANCE - going;
            }
        }

        private void reduce() {
            int divisor = commonDivisor(below, above);
            if (divisor > 0) {
                above /= divisor;
                below /= divisor;
            }
        }

        private static int commonDivisor(int a, int b) {
            int high = a;
            int low = b;
            for (int i = 0; i < 100 && low != 0; i++) {
                int rest = high % low;
                high = low;
                low = rest;
            }
            return high;
        }
    }

    /**
     * The fewest passes to a goal, and the first of them.
     *
     * <p>Whatever its kind, an open gate that is no copy is shut behind who passes it, and a shut
     * one never opens by passes alone. So a state is the set of the gates that have been shut since
     * the start, and the court of each person.
     */
    private static final class Walk {
        static final int COURT_BITS = 3;
        static final int COURT_MASK = (1 << COURT_BITS) - 1;
        static final int STATE_BITS = MOST_GATES + COURT_BITS * MOST_PERSONS;
        static final int STATE_MASK = (1 << STATE_BITS) - 1;
        /** Sets of gates times courts of all persons. */
        static final int MOST_STATES = (1 << MOST_GATES) * COURTS * COURTS * COURTS;

        int fewest = NONE;
        int first = NONE;

        private final Garden garden = new Garden();
        private int openFromA = 0;
        private int goalKind = GOAL_ALL;
        private int goal = 0;
        /** For each court the gates by which one could leave it at the start, as bits. */
        private final int[] leaving = new int[COURTS];
        /** For each gate those that are shut when one has passed it, as bits. */
        private final int[] shutBehind = new int[MOST_GATES];
        /** States reached, the nearest first, each with its first pass above it. */
        private final int[] queue = new int[MOST_STATES];
        private int queued = 0;
        private final long[] reached = new long[1 << (STATE_BITS - 6)];

        void search(Garden start, int kindOfGoal, int goalSought) {
            garden.copyFrom(start);
            goalKind = kindOfGoal;
            goal = goalSought;
            fewest = NONE;
            first = NONE;
            prepareGates();
            Arrays.fill(reached, 0L);
            queued = 0;
            enqueue(startState(), 0);
            spread();
        }

        private void prepareGates() {
            openFromA = garden.openFromA();
            for (int c = 0; c < COURTS; c++) {
                leaving[c] = 0;
                for (int g = 0; g < garden.gates; g++) {
                    leaving[c] |= garden.isOpenFrom(c, g) ? 1 << g : 0;
                }
            }
            Arrays.fill(shutBehind, 0);
            for (int g = 0; g < garden.gates; g++) {
                int ruler = garden.ruler(g);
                if (ruler >= 0 && ruler < MOST_GATES) {
                    shutBehind[ruler] |= 1 << g;
                }
            }
        }

        private int startState() {
            int state = 0;
            for (int p = 0; p < MOST_PERSONS && p < garden.persons; p++) {
                state |= garden.court[p] << courtShift(p);
            }
            return state;
        }

        /**
         * Level by level; within a level those with the lowest first pass come first, so the first
         * state found at the goal has the lowest first pass of all that are as near.
         */
        private void spread() {
            int head = 0;
            for (int level = 0; level < MOST_STATES && head < queued; level++) {
                int end = Math.min(queued, MOST_STATES);
                for (; head < end; head++) {
                    int state = queue[head] & STATE_MASK;
                    int firstPass = queue[head] >> STATE_BITS;
                    if (isGoal(state)) {
                        fewest = level;
                        first = level == 0 ? NONE : firstPass;
                        return;
                    }
                    enqueueNext(state, level == 0, firstPass);
                }
            }
        }

        private void enqueueNext(int state, boolean isStart, int firstPass) {
            for (int p = 0; p < MOST_PERSONS && p < garden.persons; p++) {
                int from = courtIn(state, p);
                int through = from < COURTS ? leaving[from] & ~state : 0;
                for (int g = 0; g < MOST_GATES && through >> g != 0; g++) {
                    if ((through >> g & 1) != 0) {
                        int next = state | shutBehind[g];
                        next ^= (from ^ garden.beyond(from, g)) << courtShift(p);
                        enqueue(next, isStart ? 10 * p + g : firstPass);
                    }
                }
            }
        }

        private void enqueue(int state, int firstPass) {
            int word = state >> 6;
            if (word < 0 || word >= reached.length || queued >= MOST_STATES) {
                return;
            }
            long bit = 1L << (state & 63);
            if ((reached[word] & bit) == 0) {
                reached[word] |= bit;
                queue[queued] = firstPass << STATE_BITS | state;
                queued++;
            }
        }

        private boolean isGoal(int state) {
            if (goalKind == GOAL_SET) {
                return (openFromA & ~state) == goal;
            }
            int there = 0;
            for (int p = 0; p < MOST_PERSONS && p < garden.persons; p++) {
                there += courtIn(state, p) == goal ? 1 : 0;
            }
            return goalKind == GOAL_ANY ? there > 0 : there == garden.persons;
        }

        private static int courtIn(int state, int p) {
            return state >> courtShift(p) & COURT_MASK;
        }

        private static int courtShift(int p) {
            return MOST_GATES + COURT_BITS * p;
        }
    }
}
