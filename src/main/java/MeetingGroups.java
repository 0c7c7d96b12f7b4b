/** Groups of elements that should always meet; ../shared/DOC.md tells what every call answers. */
public final class MeetingGroups {
    public static final int BAD = -1, NOT = -2, FULL = -3, NONE = -4, NULL = -11, CAST = -12, INDEX = -13, SIZE = -14;

    private static final int MOST_ELEMENTS = 7;
    private static final int MOST_SETS = 128;
    private static final int MOST_GROUPS = 12;
    private static final int MOST_PLANS = 4;
    private static final int MOST_UNDONE = 6;
    private static final int MOST_TURNS = 40;
    private static final int MOST_LETTERS = 90;
    private static final int MOST_ITEMS = 24;
    private static final int MOST_SHEETS = 4;
    private static final int LAST_LANE = 3;
    private static final int LAST_NAME = 99;
    private static final int LAST_WEIGHT = 99;
    private static final int FIRST_FAULT = -20;
    private static final int DRAW_BITS = 0x7fffffff;

    private final State now = new State();
    private final History past = new History();
    private final State imageNow = new State();
    private final History imagePast = new History();
    private boolean imaged = false;
    private final Reader reader = new Reader();
    private final Holding holding = new Holding();
    private final Probing probing = new Probing();
    private final Packing packing = new Packing();
    private final Row row = new Row();
    private final Sheet[] sheets = new Sheet[MOST_SHEETS];

    public MeetingGroups() {
        for (int s = 0; s < MOST_SHEETS; s++) {
            sheets[s] = new Sheet();
        }
    }

    // ---- 1 groups

    public int group(int k, int what) {
        if (k < 0 || k >= now.many || what < 0 || what > 2) {
            return BAD;
        }
        if (what == 0) {
            return now.groups[k];
        }
        return what == 1 ? oneIf(now.isSuperfluous(k)) : now.leastCommonOf(k);
    }

    public int element(int e, int what) {
        if (e < 0 || e >= now.n || what < 0 || what > 2) {
            return BAD;
        }
        if (what == 2) {
            holding.look(now);
            return holding.turnedBy(1 << e);
        }
        int which = now.groupsWith(1 << e);
        return what == 0 ? Integer.bitCount(which) : which;
    }

    public int count(int what) {
        switch (what) {
            case 0:
                return now.n;
            case 1:
                return now.many;
            case 3:
                return oneIf(now.many == 0 || now.common() > 0);
            case 2:
            case 4:
            case 5:
            case 6:
                return now.many == 0 ? NONE : strength(what);
            case 7:
                return now.plans.kept;
            case 8:
                return past.known;
            default:
                return BAD;
        }
    }

    public int load(int what) {
        if (what < 0 || what > 1) {
            return BAD;
        }
        if (now.many == 0) {
            return NONE;
        }
        packing.solve(now);
        return ofFraction(packing.scale, packing.most(), what);
    }

    public int plan(int name, int what) {
        if (name < 0 || name > LAST_NAME || what < 0 || what > 3) {
            return BAD;
        }
        int p = now.plans.placeOf(name);
        if (p < 0 || what == 3) {
            return p < 0 ? NONE : p;
        }
        int together = now.plans.weightOn(p, now, now.all());
        if (together == 0) {
            return NONE;
        }
        int greatest = now.plans.greatestWeight(p, now);
        if (what < 2) {
            return ofFraction(greatest, together, what);
        }
        packing.solve(now);
        return oneIf(greatest * packing.most() == together * packing.scale);
    }

    // ---- 2 standing, probing

    public int standing(int k) {
        if (k < 0 || k > now.n) {
            return BAD;
        }
        holding.look(now);
        return holding.ofCount(k);
    }

    public int stands(int c, int what) {
        if (c < 0 || c > 10 || what < 0 || what > 1) {
            return BAD;
        }
        holding.look(now);
        int above = 0;
        for (int k = 0; k <= now.n; k++) {
            above += holding.ofCount(k) * power(10 - c, k) * power(c, now.n - k);
        }
        return ofFraction(above, power(10, now.n), what);
    }

    public int free(int what) {
        if (what < 0 || what > 1) {
            return BAD;
        }
        holding.look(now);
        return what == 0 ? holding.freeSets() : holding.leastFree();
    }

    public int probe(int well, int failed, int what) {
        if (!now.isPart(well) || !now.isPart(failed) || (well & failed) != 0 || what < 0 || what > 1) {
            return BAD;
        }
        probing.play(now, well, failed);
        return what == 0 ? probing.worst() : probing.best();
    }

    // ---- 3 what is done

    public int add(int set) {
        if (!now.isSet(set)) {
            return BAD;
        }
        if (now.placeOf(set) >= 0) {
            return NOT;
        }
        if (now.many >= MOST_GROUPS) {
            return FULL;
        }
        past.note(now);
        now.append(set);
        return now.many;
    }

    public int out(int set) {
        if (!now.isSet(set)) {
            return BAD;
        }
        int k = now.placeOf(set);
        if (k < 0) {
            return NONE;
        }
        past.note(now);
        now.removeAt(k);
        return now.many;
    }

    public int size(int v) {
        if (v < 1 || v > MOST_ELEMENTS) {
            return BAD;
        }
        if (v == now.n || now.hasBeyond(v)) {
            return NOT;
        }
        past.note(now);
        int before = now.n;
        now.n = v;
        return before;
    }

    public int type(int letter) {
        if (letter < 32 || letter > 126) {
            return BAD;
        }
        if (reader.tape.length >= MOST_LETTERS) {
            return FULL;
        }
        reader.tape.append(letter);
        return reader.tape.length;
    }

    public int read() {
        int fault = reader.faultOfTape();
        reader.tape.length = 0;
        if (fault != Reader.NO_FAULT) {
            return FIRST_FAULT - fault;
        }
        past.note(now);
        now.becomesTold(reader);
        return now.many;
    }

    public int drift(int n) {
        if (n < 1 || n > MOST_TURNS) {
            return BAD;
        }
        for (int turn = 0; turn < n; turn++) {
            past.note(now);
            now.drawTurn();
        }
        return now.many;
    }

    public int undo() {
        if (past.known == 0) {
            return NONE;
        }
        past.takeBack(now);
        return past.known;
    }

    public int seed(int v) {
        if (v < 0) {
            return BAD;
        }
        int before = now.draw;
        now.draw = v;
        return before;
    }

    public int image() {
        imageNow.becomes(now);
        imagePast.becomes(past);
        imaged = true;
        return 1;
    }

    public int restore() {
        if (!imaged) {
            return NONE;
        }
        now.becomes(imageNow);
        past.becomes(imagePast);
        return 1;
    }

    // ---- sheets 0 .. 3: nothing (at first), or a row of a LANE:
    // 0 bytes, 1 shorts, 2 ints, 3 longs (all with a sign), of 0 to 24 items

    public int keep(int name, int sheet, int lane, int i) {
        if (name < 0 || name > LAST_NAME || !isSheet(sheet) || !isLane(lane)) {
            return BAD;
        }
        int refusal = sheets[sheet].refusal(lane, i, now.many);
        if (refusal < 0) {
            return refusal;
        }
        if (now.many == 0 || !row.takes(sheets[sheet], i, now.many, 0, LAST_WEIGHT)) {
            return NOT;
        }
        past.note(now);
        now.plans.become(name, now, row);
        return now.plans.kept;
    }

    public int what(int sheet, int lane, int i, int n) {
        if (!isSheet(sheet) || !isLane(lane) || n < 1 || n > MOST_GROUPS) {
            return BAD;
        }
        int refusal = sheets[sheet].refusal(lane, i, n);
        if (refusal < 0) {
            return refusal;
        }
        return row.takes(sheets[sheet], i, n, 1, now.all()) ? row.nature(now) : NOT;
    }

    public int film(int sheet, int lane, int i) {
        if (!isSheet(sheet) || !isLane(lane)) {
            return BAD;
        }
        int refusal = sheets[sheet].refusal(lane, i, now.many);
        if (refusal < 0) {
            return refusal;
        }
        for (int k = 0; k < now.many; k++) {
            sheets[sheet].put(i + k, now.groups[k]);
        }
        return now.many;
    }

    public int sheet(int sheet, int lane, int n) {
        if (!isSheet(sheet) || !isLane(lane) || n > MOST_ITEMS) {
            return BAD;
        }
        if (n < 0) {
            return SIZE;
        }
        sheets[sheet].begin(lane, n);
        return n;
    }

    public int drop(int sheet) {
        if (!isSheet(sheet)) {
            return BAD;
        }
        if (!sheets[sheet].there) {
            return NULL;
        }
        sheets[sheet].there = false;
        return sheets[sheet].length;
    }

    public int item(int sheet, int lane, int i, long v) {
        if (!isSheet(sheet) || !isLane(lane)) {
            return BAD;
        }
        int refusal = sheets[sheet].refusal(lane, i, 1);
        if (refusal < 0) {
            return refusal;
        }
        sheets[sheet].put(i, v);
        return 1;
    }

    public int copy(int from, int i, int to, int j, int n) {
        if (!isSheet(from) || !isSheet(to)) {
            return BAD;
        }
        Sheet source = sheets[from];
        Sheet target = sheets[to];
        if (!source.there || !target.there) {
            return NULL;
        }
        if (source.lane != target.lane) {
            return CAST;
        }
        if (!source.spans(i, n) || !target.spans(j, n)) {
            return INDEX;
        }
        System.arraycopy(source.items, i, target.items, j, n);
        return n;
    }

    private static boolean isSheet(int sheet) {
        return sheet >= 0 && sheet < MOST_SHEETS;
    }

    private static boolean isLane(int lane) {
        return lane >= 0 && lane <= LAST_LANE;
    }

    private static int oneIf(boolean so) {
        return so ? 1 : 0;
    }

    private int strength(int what) {
        int common = now.common();
        if (what == 2) {
            return common;
        }
        holding.look(now);
        int faults = holding.faults();
        if (what == 4) {
            return faults;
        }
        if (common == 0) {
            return NONE;
        }
        return Math.min(faults, what == 5 ? (common - 1) / 2 : common - 1);
    }

    private static int power(int base, int times) {
        int product = 1;
        for (int t = 0; t < times; t++) {
            product *= base;
        }
        return product;
    }

    private static int ofFraction(int above, int below, int what) {
        int divisor = commonDivisor(above, below);
        if (divisor == 0) {
            return what;
        }
        return (what == 0 ? above : below) / divisor;
    }

    private static int commonDivisor(int a, int b) {
        int greater = a;
        int less = b;
        // numbers of 31 bits take less than 50 steps
        for (int step = 0; less != 0 && step < 64; step++) {
            int rest = greater % less;
            greater = less;
            less = rest;
        }
        return greater;
    }

    /** What an undone step or an image brings back. */
    private static final class State {
        int n = 3;
        int many = 0;
        final int[] groups = new int[MOST_GROUPS];
        int draw = 1;
        final Plans plans = new Plans();

        void becomes(State other) {
            n = other.n;
            many = other.many;
            draw = other.draw;
            System.arraycopy(other.groups, 0, groups, 0, MOST_GROUPS);
            plans.becomeAll(other.plans);
        }

        void becomesTold(Reader told) {
            n = told.n;
            many = told.many;
            System.arraycopy(told.groups, 0, groups, 0, MOST_GROUPS);
        }

        int all() {
            return (1 << n) - 1;
        }

        boolean isPart(int set) {
            return set >= 0 && set <= all();
        }

        boolean isSet(int set) {
            return set != 0 && isPart(set);
        }

        boolean hasBeyond(int v) {
            for (int k = 0; k < many; k++) {
                if (groups[k] >> v != 0) {
                    return true;
                }
            }
            return false;
        }

        int placeOf(int set) {
            for (int k = 0; k < many; k++) {
                if (groups[k] == set) {
                    return k;
                }
            }
            return -1;
        }

        void append(int set) {
            if (many < MOST_GROUPS) {
                groups[many] = set;
                many++;
            }
        }

        void removeAt(int place) {
            for (int k = place + 1; k < many; k++) {
                groups[k - 1] = groups[k];
            }
            many--;
        }

        void drawTurn() {
            draw = (draw * 1103515245 + 12345) & DRAW_BITS;
            int sets = all();
            if (sets < 1) {
                return;
            }
            int set = draw / 65536 % sets + 1;
            int k = placeOf(set);
            if (k >= 0) {
                removeAt(k);
            } else {
                append(set);
            }
        }

        boolean holdsGroup(int set) {
            for (int k = 0; k < many; k++) {
                if ((groups[k] & ~set) == 0) {
                    return true;
                }
            }
            return false;
        }

        boolean isSuperfluous(int place) {
            for (int k = 0; k < many; k++) {
                if (k != place && (groups[k] & ~groups[place]) == 0) {
                    return true;
                }
            }
            return false;
        }

        int leastCommonOf(int place) {
            int least = NONE;
            for (int k = 0; k < many; k++) {
                int shared = Integer.bitCount(groups[k] & groups[place]);
                if (k != place && (least == NONE || shared < least)) {
                    least = shared;
                }
            }
            return least;
        }

        int groupsWith(int elements) {
            int which = 0;
            for (int k = 0; k < many; k++) {
                if ((groups[k] & elements) != 0) {
                    which |= 1 << k;
                }
            }
            return which;
        }

        int common() {
            int least = MOST_ELEMENTS;
            for (int k = 0; k < many; k++) {
                for (int j = 0; j <= k; j++) {
                    least = Math.min(least, Integer.bitCount(groups[k] & groups[j]));
                }
            }
            return least;
        }
    }

    /** Plans in the order they were kept; weights belong to sets, since groups may go, come and change places. */
    private static final class Plans {
        int kept = 0;
        private final int[] names = new int[MOST_PLANS];
        private final int[][] sets = new int[MOST_PLANS][MOST_GROUPS];
        private final int[][] weights = new int[MOST_PLANS][MOST_GROUPS];

        void becomeAll(Plans other) {
            kept = other.kept;
            for (int p = 0; p < MOST_PLANS; p++) {
                moveIn(p, other, p);
            }
        }

        private void moveIn(int to, Plans other, int from) {
            names[to] = other.names[from];
            System.arraycopy(other.sets[from], 0, sets[to], 0, MOST_GROUPS);
            System.arraycopy(other.weights[from], 0, weights[to], 0, MOST_GROUPS);
        }

        int placeOf(int name) {
            for (int p = 0; p < kept; p++) {
                if (names[p] == name) {
                    return p;
                }
            }
            return -1;
        }

        void become(int name, State state, Row row) {
            int before = placeOf(name);
            if (before >= 0) {
                lose(before);
            } else if (kept >= MOST_PLANS) {
                lose(0);
            }
            names[kept] = name;
            for (int k = 0; k < MOST_GROUPS; k++) {
                // no group is the empty set: it stands for none
                sets[kept][k] = k < state.many ? state.groups[k] : 0;
                weights[kept][k] = k < state.many ? row.numbers[k] : 0;
            }
            kept++;
        }

        private void lose(int place) {
            for (int p = place + 1; p < kept; p++) {
                moveIn(p - 1, this, p);
            }
            kept--;
        }

        int weightOn(int place, State state, int elements) {
            int sum = 0;
            for (int k = 0; k < MOST_GROUPS; k++) {
                int set = sets[place][k];
                if ((set & elements) != 0 && state.placeOf(set) >= 0) {
                    sum += weights[place][k];
                }
            }
            return sum;
        }

        int greatestWeight(int place, State state) {
            int greatest = 0;
            for (int e = 0; e < state.n; e++) {
                greatest = Math.max(greatest, weightOn(place, state, 1 << e));
            }
            return greatest;
        }
    }

    /** The states ahead of the latest steps, the oldest one first. */
    private static final class History {
        int known = 0;
        private final State[] states = new State[MOST_UNDONE];

        History() {
            for (int s = 0; s < MOST_UNDONE; s++) {
                states[s] = new State();
            }
        }

        void note(State now) {
            if (known >= MOST_UNDONE) {
                loseOldest();
            }
            states[known].becomes(now);
            known++;
        }

        private void loseOldest() {
            // its object is used again, since every new one would stay in the room
            State oldest = states[0];
            for (int s = 1; s < MOST_UNDONE; s++) {
                states[s - 1] = states[s];
            }
            states[MOST_UNDONE - 1] = oldest;
            known = MOST_UNDONE - 1;
        }

        void takeBack(State now) {
            if (known > 0) {
                known--;
                now.becomes(states[known]);
            }
        }

        void becomes(History other) {
            known = other.known;
            for (int s = 0; s < known; s++) {
                states[s].becomes(other.states[s]);
            }
        }
    }

    /** Which sets hold a group. */
    private static final class Holding {
        int all = 0;
        final boolean[] holds = new boolean[MOST_SETS];

        void look(State state) {
            all = state.all();
            for (int set = 0; set <= all; set++) {
                holds[set] = state.holdsGroup(set);
            }
        }

        int ofCount(int k) {
            int sets = 0;
            for (int set = 0; set <= all; set++) {
                if (holds[set] && Integer.bitCount(set) == k) {
                    sets++;
                }
            }
            return sets;
        }

        int turnedBy(int element) {
            int sets = 0;
            for (int set = 0; set <= all; set++) {
                if ((set & element) == 0 && !holds[set] && holds[set | element]) {
                    sets++;
                }
            }
            return sets;
        }

        int faults() {
            int least = MOST_ELEMENTS + 1;
            for (int failed = 0; failed <= all; failed++) {
                if (!holds[all ^ failed]) {
                    least = Math.min(least, Integer.bitCount(failed));
                }
            }
            return least - 1;
        }

        private boolean isFree(int set) {
            // it misses a group just if the others hold that group
            return !holds[set] && !holds[all ^ set];
        }

        int freeSets() {
            int sets = 0;
            for (int set = 0; set <= all; set++) {
                if (isFree(set)) {
                    sets++;
                }
            }
            return sets;
        }

        int leastFree() {
            for (int set = 0; set <= all; set++) {
                if (isFree(set)) {
                    return set;
                }
            }
            return NONE;
        }
    }

    /** The game of probing, played back from its ends to what is known. */
    private static final class Probing {
        private static final int STATES = 2187;
        private final Holding holding = new Holding();
        // a figure by 3 of a state's number tells of each element: 0 not known, 1 well, 2 failed
        private final int[] byThree = new int[MOST_SETS];
        private final byte[] probes = new byte[STATES];
        private int well = 0;
        private int failed = 0;

        Probing() {
            int three = 1;
            for (int e = 0; e < MOST_ELEMENTS; e++) {
                int bit = 1 << e;
                for (int set = 0; set < bit; set++) {
                    byThree[bit | set] = three + byThree[set];
                }
                three *= 3;
            }
        }

        void play(State state, int wellAtFirst, int failedAtFirst) {
            holding.look(state);
            well = wellAtFirst;
            failed = failedAtFirst;
            int open = openOf(well, failed);
            // more is known in states of greater sets: they are worked out ahead of those that need them
            for (int lost = open; lost >= 0; lost--) {
                if ((lost & ~open) == 0) {
                    playLost(lost, open & ~lost);
                }
            }
        }

        private void playLost(int lost, int open) {
            for (int found = open; found >= 0; found--) {
                if ((found & ~open) == 0) {
                    int up = well | found;
                    int down = failed | lost;
                    probes[placeOf(up, down)] = (byte) probesFrom(up, down);
                }
            }
        }

        private int placeOf(int up, int down) {
            return byThree[up] + 2 * byThree[down];
        }

        private int openOf(int up, int down) {
            return holding.all & ~(up | down);
        }

        private boolean isOver(int up, int down) {
            return holding.holds[up] || !holding.holds[holding.all & ~down];
        }

        private int probesFrom(int up, int down) {
            if (isOver(up, down)) {
                return 0;
            }
            int open = openOf(up, down);
            int least = MOST_ELEMENTS;
            for (int e = 0; e < MOST_ELEMENTS; e++) {
                if ((open >> e & 1) == 1) {
                    least = Math.min(least, probesBy(up, down, 1 << e));
                }
            }
            return least;
        }

        private int probesBy(int up, int down, int bit) {
            return 1 + Math.max(probes[placeOf(up | bit, down)], probes[placeOf(up, down | bit)]);
        }

        int worst() {
            return probes[placeOf(well, failed)];
        }

        int best() {
            int open = openOf(well, failed);
            if (isOver(well, failed)) {
                return NONE;
            }
            for (int e = 0; e < MOST_ELEMENTS; e++) {
                if ((open >> e & 1) == 1 && probesBy(well, failed, 1 << e) == worst()) {
                    return e;
                }
            }
            return NONE;
        }
    }

    /**
     * The most that weights of groups come to together while no element bears more than 1: the least load is 1 by it.
     * It is worked out by the simplex method in whole numbers: all cells are parts of scale.
     */
    private static final class Packing {
        // far more than there are bases to go through
        private static final int MOST_PIVOTS = 100000;
        private final int[][] cells = new int[MOST_ELEMENTS + 1][MOST_GROUPS + 1];
        private final int[] rowNames = new int[MOST_ELEMENTS];
        private final int[] columnNames = new int[MOST_GROUPS];
        private int rows = 0;
        private int columns = 0;
        int scale = 1;

        int most() {
            return cells[rows][columns];
        }

        void solve(State state) {
            begin(state);
            int column = entering();
            for (int turn = 0; column >= 0 && turn < MOST_PIVOTS; turn++) {
                int line = leaving(column);
                if (line < 0) {
                    return;
                }
                pivot(line, column);
                column = entering();
            }
        }

        private void begin(State state) {
            rows = state.n;
            columns = state.many;
            scale = 1;
            for (int c = 0; c < columns; c++) {
                columnNames[c] = c;
                cells[rows][c] = -1;
                for (int r = 0; r < rows; r++) {
                    cells[r][c] = state.groups[c] >> r & 1;
                }
            }
            for (int r = 0; r < rows; r++) {
                rowNames[r] = MOST_GROUPS + r;
                cells[r][columns] = 1;
            }
            cells[rows][columns] = 0;
        }

        /** The least name goes first, here and below: so no basis comes again. */
        private int entering() {
            int best = -1;
            for (int c = 0; c < columns; c++) {
                if (cells[rows][c] < 0 && (best < 0 || columnNames[c] < columnNames[best])) {
                    best = c;
                }
            }
            return best;
        }

        private int leaving(int column) {
            int best = -1;
            for (int r = 0; r < rows; r++) {
                if (cells[r][column] > 0 && (best < 0 || isAhead(r, best, column))) {
                    best = r;
                }
            }
            return best;
        }

        private boolean isAhead(int r, int best, int column) {
            int mine = cells[r][columns] * cells[best][column];
            int its = cells[best][columns] * cells[r][column];
            return mine < its || mine == its && rowNames[r] < rowNames[best];
        }

        private void pivot(int line, int column) {
            int pivot = cells[line][column];
            for (int r = 0; r <= rows; r++) {
                if (r != line) {
                    clearBy(r, line, column);
                }
            }
            cells[line][column] = scale;
            scale = pivot;
            int name = rowNames[line];
            rowNames[line] = columnNames[column];
            columnNames[column] = name;
        }

        private void clearBy(int r, int line, int column) {
            int pivot = cells[line][column];
            int factor = cells[r][column];
            for (int c = 0; c <= columns; c++) {
                if (c != column && scale != 0) {
                    cells[r][c] = (cells[r][c] * pivot - factor * cells[line][c]) / scale;
                }
            }
            cells[r][column] = -factor;
        }
    }

    /** Letters that were typed and not yet read. */
    private static final class Tape {
        int length = 0;
        private final char[] letters = new char[MOST_LETTERS];

        void append(int letter) {
            if (length < MOST_LETTERS) {
                letters[length] = (char) letter;
                length++;
            }
        }

        /** Behind the last letter there is a sign that can't be typed. */
        char at(int place) {
            return place >= 0 && place < length ? letters[place] : Reader.END;
        }
    }

    /** Reads the tape as a text: elements and groups, or the place of a fault. */
    private static final class Reader {
        static final int NO_FAULT = -1;
        static final char END = 0;
        private static final int MOST_ROWS = 3;
        private static final int WIDEST = 4;
        private static final int GREATEST_MAJORITY = 5;

        int n = 0;
        int many = 0;
        final int[] groups = new int[MOST_GROUPS];
        final Tape tape = new Tape();
        private final int[] widths = new int[MOST_ROWS];
        private int wallRows = 0;
        private int at = 0;

        int faultOfTape() {
            n = 0;
            many = 0;
            at = 0;
            next();
            int first = at;
            skipName();
            int end = at;
            if (isName("majority", first, end)) {
                return faultUnless(majority());
            }
            if (isName("grid", first, end)) {
                return faultUnless(grid());
            }
            if (isName("wall", first, end)) {
                return !wall() ? at : isWallTold() ? NO_FAULT : first;
            }
            if (isName("plane", first, end)) {
                return faultUnless(plane());
            }
            return isName("set", first, end) ? faultUnless(figures()) : first;
        }

        private int faultUnless(boolean so) {
            return so ? NO_FAULT : at;
        }

        private void skipName() {
            while (tape.at(at) >= 'a' && tape.at(at) <= 'z' && at < MOST_LETTERS) {
                at++;
            }
        }

        private boolean isName(String name, int first, int end) {
            if (end - first != name.length()) {
                return false;
            }
            for (int i = 0; i < name.length(); i++) {
                if (tape.at(first + i) != name.charAt(i)) {
                    return false;
                }
            }
            return true;
        }

        private char next() {
            while (tape.at(at) == ' ' && at < MOST_LETTERS) {
                at++;
            }
            return tape.at(at);
        }

        private boolean skips(char sign) {
            if (next() != sign) {
                return false;
            }
            at++;
            return true;
        }

        /** A figure 1 .. most, or 0, if there is none such. */
        private int figure(int most) {
            int value = next() - '0';
            if (value < 1 || value > most) {
                return 0;
            }
            at++;
            return value;
        }

        private boolean ends() {
            return next() == END;
        }

        private boolean isTold(int set) {
            for (int k = 0; k < many; k++) {
                if (groups[k] == set) {
                    return true;
                }
            }
            return false;
        }

        private void tell(int set) {
            if (many < MOST_GROUPS && !isTold(set)) {
                groups[many] = set;
                many++;
            }
        }

        private boolean majority() {
            n = figure(GREATEST_MAJORITY);
            if (n == 0 || !ends()) {
                return false;
            }
            for (int set = 0; set < 1 << n; set++) {
                if (Integer.bitCount(set) == n / 2 + 1) {
                    tell(set);
                }
            }
            return true;
        }

        private boolean grid() {
            int wide = figure(WIDEST);
            if (wide == 0 || !skips('*')) {
                return false;
            }
            int high = figure(Math.min(WIDEST, MOST_ELEMENTS / wide));
            if (high == 0 || !ends()) {
                return false;
            }
            n = wide * high;
            int column = 0;
            for (int y = 0; y < high; y++) {
                column |= 1 << wide * y;
            }
            for (int y = 0; y < high; y++) {
                for (int x = 0; x < wide; x++) {
                    tell(wallRow(wide, wide * y) | column << x);
                }
            }
            return true;
        }

        private static int wallRow(int wide, int first) {
            return (1 << wide) - 1 << first;
        }

        private boolean wall() {
            for (wallRows = 0; wallRows < MOST_ROWS; wallRows++) {
                if (wallRows > 0 && !skips(',')) {
                    return ends();
                }
                int wide = figure(Math.min(WIDEST, MOST_ELEMENTS - n));
                if (wide == 0) {
                    return false;
                }
                widths[wallRows] = wide;
                n += wide;
            }
            return ends();
        }

        private boolean isWallTold() {
            int together = 0;
            for (int r = 0; r < wallRows; r++) {
                together += waysBelow(r);
            }
            if (together > MOST_GROUPS) {
                return false;
            }
            int first = 0;
            for (int r = 0; r < wallRows; r++) {
                for (int way = 0; way < waysBelow(r); way++) {
                    tell(wallRow(widths[r], first) | chosenBelow(r, way));
                }
                first += widths[r];
            }
            return true;
        }

        private int waysBelow(int r) {
            int ways = 1;
            for (int below = r + 1; below < wallRows; below++) {
                ways *= widths[below];
            }
            return ways;
        }

        private int chosenBelow(int r, int way) {
            int chosen = 0;
            int rest = way;
            int first = n;
            for (int below = wallRows - 1; below > r; below--) {
                int wide = widths[below];
                first -= wide;
                if (wide > 0) {
                    chosen |= 1 << first + rest % wide;
                    rest /= wide;
                }
            }
            return chosen;
        }

        private boolean plane() {
            n = MOST_ELEMENTS;
            if (!ends()) {
                return false;
            }
            for (int k = 0; k < n; k++) {
                tell(1 << k | 1 << (k + 1) % MOST_ELEMENTS | 1 << (k + 3) % MOST_ELEMENTS);
            }
            return true;
        }

        private boolean figures() {
            n = figure(MOST_ELEMENTS);
            if (n == 0 || ends()) {
                return n != 0;
            }
            if (!skips(':')) {
                return false;
            }
            for (int g = 0; g <= MOST_GROUPS; g++) {
                if (!isGroupTold()) {
                    return false;
                }
                if (!skips(',')) {
                    return ends();
                }
            }
            return false;
        }

        private boolean isGroupTold() {
            next();
            if (many >= MOST_GROUPS) {
                return false;
            }
            int set = 0;
            while (tape.at(at) >= '0' && tape.at(at) <= '9' && at < MOST_LETTERS) {
                int e = tape.at(at) - '0';
                if (e >= n || (set >> e & 1) == 1) {
                    return false;
                }
                set |= 1 << e;
                at++;
            }
            next();
            if (set == 0 || isTold(set)) {
                return false;
            }
            tell(set);
            return true;
        }
    }

    /** Items of a sheet, taken as weights or as sets. */
    private static final class Row {
        final int[] numbers = new int[MOST_GROUPS];
        private int many = 0;

        boolean takes(Sheet sheet, int first, int n, int least, int most) {
            many = Math.min(n, MOST_GROUPS);
            for (int k = 0; k < many; k++) {
                long number = sheet.at(first + k);
                if (number < least || number > most) {
                    return false;
                }
                numbers[k] = (int) number;
            }
            return true;
        }

        int nature(State state) {
            int bits = anyTwoMeet() ? 1 : 0;
            bits |= isNonePart() ? 2 : 0;
            bits |= isOneCount() ? 4 : 0;
            bits |= isEven(state.n) ? 8 : 0;
            return bits | (isJustGroups(state) ? 16 : 0);
        }

        private boolean anyTwoMeet() {
            for (int k = 0; k < many; k++) {
                for (int j = 0; j < k; j++) {
                    if ((numbers[k] & numbers[j]) == 0) {
                        return false;
                    }
                }
            }
            return true;
        }

        private boolean isNonePart() {
            for (int k = 0; k < many; k++) {
                for (int j = 0; j < many; j++) {
                    if (j != k && (numbers[j] & ~numbers[k]) == 0) {
                        return false;
                    }
                }
            }
            return true;
        }

        private boolean isOneCount() {
            for (int k = 1; k < many; k++) {
                if (Integer.bitCount(numbers[k]) != Integer.bitCount(numbers[0])) {
                    return false;
                }
            }
            return true;
        }

        private boolean isEven(int n) {
            for (int e = 1; e < n; e++) {
                if (timesOf(e) != timesOf(0)) {
                    return false;
                }
            }
            return true;
        }

        private int timesOf(int e) {
            int times = 0;
            for (int k = 0; k < many; k++) {
                times += numbers[k] >> e & 1;
            }
            return times;
        }

        private boolean isJustGroups(State state) {
            int found = 0;
            for (int k = 0; k < many; k++) {
                int place = state.placeOf(numbers[k]);
                if (place < 0) {
                    return false;
                }
                found |= 1 << place;
            }
            return many == state.many && Integer.bitCount(found) == many;
        }
    }

    /** A row of numbers with a sign, of 8, 16, 32 or 64 bits by its lane; or nothing. */
    private static final class Sheet {
        boolean there = false;
        int lane = 0;
        int length = 0;
        final long[] items = new long[MOST_ITEMS];

        void begin(int newLane, int n) {
            there = true;
            lane = newLane;
            length = Math.min(n, MOST_ITEMS);
            for (int i = 0; i < MOST_ITEMS; i++) {
                items[i] = 0;
            }
        }

        boolean spans(int first, int n) {
            return first >= 0 && first <= length && n >= 0 && n <= length - first;
        }

        /** Why n items can't be taken from here, or 0. */
        int refusal(int asLane, int first, int n) {
            if (!there) {
                return NULL;
            }
            if (lane != asLane) {
                return CAST;
            }
            return spans(first, n) ? 0 : INDEX;
        }

        long at(int i) {
            return i >= 0 && i < length ? items[i] : 0;
        }

        void put(int i, long v) {
            if (i >= 0 && i < length) {
                items[i] = lowestBits(v);
            }
        }

        private long lowestBits(long v) {
            switch (lane) {
                case 0:
                    return (byte) v;
                case 1:
                    return (short) v;
                case 2:
                    return (int) v;
                default:
                    return v;
            }
        }
    }
}
