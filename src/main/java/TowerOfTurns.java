/**
 * A tower of turns: people on each other's shoulders, what they bear, who shakes, and what comes of it.
 * The promises are told in ../shared/DOC.md; the words used here are those of its Terms.
 */
public final class TowerOfTurns {
    public static final int NONE = -1;

    private static final int BAD = -1002;
    private static final int OTHER = -1003;
    private static final int NOTHING = -1004;
    private static final int STUCK = -1005;
    private static final int FULL = -1006;
    private static final int REFUSAL_SORTS = 5;
    private static final int FIRST_REFUSAL_STATUS = 12;
    private static final int FAULT_BASE = -2000;

    private static final int SHELVES = 8;
    private static final int LONGEST_ROW = 40;
    private static final int ROW_SORTS = 5;
    private static final int SHOWN_BASE = 10;
    private static final int TAPE_ROOM = 250;
    private static final int BYTES = 256;

    private static final int MOST_PEOPLE = 8;
    private static final int SETS = 1 << MOST_PEOPLE;
    private static final int GREATEST_WIND = 9;
    private static final int WINDS = 10;
    private static final int LAST_DAY = 999;
    private static final int LONGEST_TIME = 60;
    private static final int MOST_ROOM = 99;
    private static final int CHANCE_OF_ONE_WIND = 100000;

    private static final int PERSON = 0;
    private static final int TALL = 1;
    private static final int STRONG = 2;
    private static final int STRING = 3;
    private static final int WIDOW = 4;
    private static final int CHILD = 5;
    private static final int KINDS = 6;
    private static final int[] KIND_ABOVE = {NONE, PERSON, PERSON, TALL, STRONG, PERSON};

    private static final int KIND = 0;
    private static final int A = 1;
    private static final int WEIGHT = 2;
    private static final int STRENGTH = 3;
    private static final int NERVE = 4;
    private static final int TRAITS = 5;
    private static final int MASS = 5;
    private static final int BEARS = 6;
    private static final int TALLNESS = 7;
    private static final int FACTS = 8;
    private static final int COURSE = 8;
    private static final int[] LEAST_TRAIT = {0, 0, 1, 0, 0};
    private static final int GREATEST_STRENGTH = 99;
    private static final int[] GREATEST_TRAIT = {5, 9, 40, GREATEST_STRENGTH, 40};

    private static final int WIND = 0;
    private static final int MOST = 1;
    private static final int DAY = 2;
    private static final int SETTINGS = 3;
    private static final int[] LEAST_SETTING = {0, 1, 0};
    private static final int[] GREATEST_SETTING = {GREATEST_WIND, MOST_PEOPLE, LAST_DAY};

    private final World world = new World();
    private final World kept = new World();
    private final World draft = new World();
    private final Pile trial = new Pile(world.crowd);
    private final Lineups lineups = new Lineups(world.crowd);
    private final Tape tape = new Tape();
    private final Reader reader = new Reader(tape);
    private final Row[] rows = new Row[SHELVES];
    private final int[] shown = new int[SHELVES];
    private final int[] refused = new int[REFUSAL_SORTS];
    private boolean hasKept;

    public TowerOfTurns() {
        for (int s = 0; s < shown.length; s++) {
            shown[s] = NONE;
        }
    }

    // ---- shelves ----

    public int row(int s, int sort, int n) {
        if (!isShelf(s) || sort < 0 || sort >= ROW_SORTS || n < 0 || n > LONGEST_ROW) {
            return refuse(BAD);
        }
        place(s, new Row(sort, n), NONE);
        return 1;
    }

    public int set(int s, int i, long v) {
        if (!isShelf(s)) {
            return refuse(BAD);
        }
        Row row = rowOn(s);
        if (row == null) {
            return refuse(faultOfRow(s, 0));
        }
        if (!row.has(i)) {
            return refuse(BAD);
        }
        row.keep(i, v);
        return 1;
    }

    public int copy(int p, int q, int i, int j, int n) {
        if (!isShelf(p) || !isShelf(q)) {
            return refuse(BAD);
        }
        if (isShown(p) || isShown(q)) {
            return refuse(OTHER);
        }
        Row from = rowOn(p);
        Row to = rowOn(q);
        if (from != null && to != null && from.sort != to.sort) {
            return refuse(OTHER);
        }
        if (from == null || to == null) {
            return refuse(NOTHING);
        }
        if (!from.hasSpan(i, n) || !to.hasSpan(j, n)) {
            return refuse(BAD);
        }
        System.arraycopy(from.cells, i, to.cells, j, n);
        return n;
    }

    public long element(int s, int i) {
        Row row = rowOn(s);
        return row == null ? 0L : row.cell(i);
    }

    public int holds(int s) {
        if (isShown(s)) {
            return SHOWN_BASE + pick(shown, s);
        }
        Row row = rowOn(s);
        return row == null ? NONE : row.sort;
    }

    public int show(int s, int person) {
        if (!isShelf(s) || person != NONE && !world.crowd.has(person)) {
            return refuse(BAD);
        }
        place(s, null, person);
        return 1;
    }

    public int says(int s, int kind) {
        if (!isShelf(s) || !isKind(kind)) {
            return refuse(BAD);
        }
        int person = pick(shown, s);
        if (rowOn(s) != null || person != NONE && !isUnder(world.crowd.fact(person, KIND), kind)) {
            return refuse(OTHER);
        }
        return person == NONE ? refuse(NOTHING) : world.crowd.sayingAs(kind, person);
    }

    // ---- people, wind and the tape ----

    public int person(int kind, int a, int weight, int strength, int nerve) {
        if (!mayBe(KIND, kind) || !mayBe(A, a) || !mayBe(WEIGHT, weight)
                || !mayBe(STRENGTH, strength) || !mayBe(NERVE, nerve)) {
            return refuse(BAD);
        }
        if (world.crowd.isFull()) {
            return refuse(FULL);
        }
        return world.crowd.join(kind, a, weight, strength, nerve);
    }

    public int give(int person, int what, int v) {
        if (!world.crowd.has(person) || what < 0 || what > NERVE - WEIGHT || !mayBe(WEIGHT + what, v)) {
            return refuse(BAD);
        }
        int before = world.crowd.fact(person, WEIGHT + what);
        world.crowd.changeTrait(person, WEIGHT + what, v);
        return before;
    }

    public int tell(int what, int v) {
        if (!world.mayTell(what, v)) {
            return refuse(BAD);
        }
        int before = world.setting(what);
        world.changeSetting(what, v);
        return before;
    }

    public int feed(int letter) {
        if (letter < 0 || letter >= BYTES) {
            return refuse(BAD);
        }
        if (tape.isFull()) {
            return refuse(FULL);
        }
        tape.append(letter);
        return tape.size;
    }

    public int wipe() {
        int before = tape.size;
        tape.clear();
        return before;
    }

    public int tower() {
        draft.takeFrom(world);
        int answer = reader.read(draft);
        tape.clear();
        if (answer < 0) {
            refuse(BAD);
            return answer;
        }
        world.takeFrom(draft);
        return answer;
    }

    // ---- what the tower bears ----

    public int personOf(int person, int what) {
        if (!world.crowd.has(person) || what < 0 || what > COURSE) {
            return refuse(BAD);
        }
        return what == COURSE ? world.pile.courseOf(person) : world.crowd.fact(person, what);
    }

    public int at(int course) {
        if (course < 0 || course >= MOST_PEOPLE) {
            return refuse(BAD);
        }
        return world.pile.onCourse(course);
    }

    public int of(int person, int what) {
        if (!world.crowd.has(person) || what < 0 || what > 4) {
            return refuse(BAD);
        }
        int course = world.pile.courseOf(person);
        if (course == NONE) {
            return refuse(STUCK);
        }
        switch (what) {
            case 0:
                return world.pile.loadAt(course);
            case 1:
                return world.pile.slackAt(course);
            case 2:
                return world.pile.upAt(course);
            case 3:
                return oneIf(world.pile.isCrushed(course));
            default:
                return oneIf(world.pile.isShaken(course, world.wind));
        }
    }

    public int stands() {
        return oneIf(world.pile.isFirm(world.wind));
    }

    public int weak() {
        return world.pile.onCourse(world.pile.weakCourse(world.wind));
    }

    public int height() {
        return world.pile.tallnessOfAll();
    }

    public int least(int what) {
        if (what < 0 || what > 1) {
            return refuse(BAD);
        }
        if (world.pile.size == 0) {
            return refuse(STUCK);
        }
        return what == 0 ? world.pile.leastSlack() : world.pile.onCourse(world.pile.leastCourse());
    }

    // ---- orders ----

    public int orders(int set, int i) {
        if (!isSet(set) || i < NONE) {
            return refuse(BAD);
        }
        lineups.letStand(set, world.wind);
        int count = lineups.count();
        if (i == NONE) {
            return count;
        }
        if (i >= Integer.bitCount(set) || count == 0) {
            return refuse(STUCK);
        }
        return lineups.inFirst(i);
    }

    public int highest(int what) {
        if (what < 0 || what > 1) {
            return refuse(BAD);
        }
        int set = lineups.highestSet(world.most, world.wind);
        return what == 0 ? set : lineups.heightOf(set);
    }

    public int fond(int person, int other) {
        if (!world.crowd.has(person) || !world.crowd.has(other) || person == other) {
            return refuse(BAD);
        }
        return world.crowd.fondness(person, other);
    }

    public int glad(int set) {
        if (!isSet(set)) {
            return refuse(BAD);
        }
        lineups.letStand(set, world.wind);
        return lineups.greatestJoy();
    }

    public int backs(int s, int set, int what) {
        if (!isShelf(s) || !isSet(set) || what < 0 || what > 2) {
            return refuse(BAD);
        }
        Row row = rowOn(s);
        int fault = faultOfRow(s, Integer.bitCount(set));
        if (row == null || fault != 0) {
            return refuse(fault);
        }
        lineups.letLoadsBe(set, row);
        if (what == 0) {
            return lineups.count();
        }
        return what == 1 ? lineups.feet() : lineups.heads();
    }

    public int ends(int set, int what) {
        if (!isSet(set) || what < 0 || what > 1) {
            return refuse(BAD);
        }
        lineups.letStand(set, world.wind);
        return what == 0 ? lineups.feet() : lineups.heads();
    }

    // ---- what would be, if ----

    public int under() {
        Pile pile = world.pile;
        int best = NONE;
        int bestSlack = 0;
        if (pile.size >= world.most) {
            return NONE;
        }
        for (int p = 0; p < world.crowd.count; p++) {
            if (!pile.isIn(p)) {
                trial.takeFrom(pile);
                trial.insert(0, p);
                int slack = trial.leastSlack();
                if (best == NONE || slack > bestSlack) {
                    best = p;
                    bestSlack = slack;
                }
            }
        }
        return best;
    }

    public int change() {
        Pile pile = world.pile;
        int best = NONE;
        int bestSlack = 0;
        for (int p = 0; p < world.crowd.count; p++) {
            for (int q = p + 1; q < world.crowd.count; q++) {
                if (pile.isIn(p) && pile.isIn(q)) {
                    trial.takeFrom(pile);
                    trial.swap(pile.courseOf(p), pile.courseOf(q));
                    int slack = trial.leastSlack();
                    if (best == NONE || slack > bestSlack) {
                        best = 10 * p + q;
                        bestSlack = slack;
                    }
                }
            }
        }
        return best;
    }

    public int out() {
        int bits = 0;
        for (int course = 0; course < world.pile.size; course++) {
            tryWithout(course);
            if (trial.isFirm(world.wind)) {
                bits |= bit(world.pile.onCourse(course));
            }
        }
        return bits;
    }

    public int gale() {
        return world.pile.greatestWind();
    }

    public int chance() {
        // who shakes in a wind shakes in every greater one: it stands by all winds up to the gale
        return (world.pile.greatestWind() + 1) * CHANCE_OF_ONE_WIND;
    }

    public int fittest() {
        int best = NONE;
        int bestWind = NONE;
        for (int p = 0; p < world.crowd.count; p++) {
            if (!world.pile.isIn(p)) {
                tryOnTop(p);
                int wind = trial.greatestWind();
                if (wind > bestWind) {
                    best = p;
                    bestWind = wind;
                }
            }
        }
        return best;
    }

    public int lighter() {
        int best = NONE;
        int bestWind = NONE;
        for (int course = 0; course < world.pile.size; course++) {
            tryWithout(course);
            int wind = trial.greatestWind();
            if (wind > bestWind) {
                best = world.pile.onCourse(course);
                bestWind = wind;
            }
        }
        return best;
    }

    public int shifted(int from, int to) {
        int person = world.pile.onCourse(from);
        if (person == NONE || world.pile.onCourse(to) == NONE) {
            return refuse(BAD);
        }
        tryWithout(from);
        trial.insert(to, person);
        return oneIf(trial.isFirm(world.wind));
    }

    public int foot(int person) {
        if (!world.crowd.has(person)) {
            return refuse(BAD);
        }
        trial.takeFrom(world.pile);
        trial.removeAt(trial.courseOf(person));
        trial.insert(0, person);
        return oneIf(trial.crushedBits() == 0);
    }

    public int ahead(int n, int what) {
        if (n < 0 || n > LONGEST_TIME || what < 0 || what > 3) {
            return refuse(BAD);
        }
        int fell = 0;
        trial.takeFrom(world.pile);
        for (int k = 0; k < n; k++) {
            if (trial.fellByTurn(world.most, world.wind)) {
                fell++;
            }
        }
        switch (what) {
            case 0:
                return trial.tallnessOfAll();
            case 1:
                return trial.size;
            case 2:
                return fell;
            default:
                return trial.head();
        }
    }

    public int next() {
        trial.takeFrom(world.pile);
        trial.makeRoom(world.most);
        return trial.firstBehindHead();
    }

    // ---- questions about the tower as it is ----

    public int who(int what) {
        switch (what) {
            case 0:
                return world.pile.bits();
            case 1:
                return couldClimb();
            case 2:
                return world.pile.crushedBits();
            case 3:
                return world.pile.shakenBits(world.wind);
            default:
                return refuse(BAD);
        }
    }

    public int room(int m) {
        if (!mayBe(WEIGHT, m)) {
            return refuse(BAD);
        }
        if (world.pile.size == 0) {
            return refuse(STUCK);
        }
        int slack = world.pile.leastSlack();
        return slack < 0 || m <= 0 ? 0 : Math.min(MOST_ROOM, slack / m);
    }

    public int needs(int person) {
        if (!world.crowd.has(person)) {
            return refuse(BAD);
        }
        int course = world.pile.courseOf(person);
        if (course == NONE) {
            return refuse(STUCK);
        }
        int load = world.pile.loadAt(course);
        int kind = world.crowd.fact(person, KIND);
        int a = world.crowd.fact(person, A);
        for (int strength = 0; strength <= GREATEST_STRENGTH; strength++) {
            if (Crowd.bearsBy(kind, a, strength) >= load) {
                return strength;
            }
        }
        return NONE;
    }

    public int nerves(int person) {
        if (!world.crowd.has(person)) {
            return refuse(BAD);
        }
        int course = world.pile.courseOf(person);
        if (course == NONE) {
            return refuse(STUCK);
        }
        int nerve = sway(world.pile.upAt(course), world.wind);
        return mayBe(NERVE, nerve) ? nerve : NONE;
    }

    public int mass() {
        return world.pile.loadAt(NONE);
    }

    public int gladness() {
        int joy = 0;
        for (int course = 1; course < world.pile.size; course++) {
            joy += world.crowd.fondness(world.pile.onCourse(course - 1), world.pile.onCourse(course));
        }
        return joy;
    }

    public int between(int course) {
        int person = world.pile.onCourse(course);
        int other = person == NONE ? NONE : world.pile.onCourse(course + 1);
        if (other == NONE) {
            return refuse(BAD);
        }
        return world.crowd.fondness(person, other);
    }

    public int top() {
        return world.pile.head();
    }

    public int ofKind(int kind) {
        if (!isKind(kind)) {
            return refuse(BAD);
        }
        int count = 0;
        for (int p = 0; p < world.crowd.count; p++) {
            if (world.crowd.fact(p, KIND) == kind) {
                count++;
            }
        }
        return count;
    }

    // ---- told climbs ----

    public int judge(int s, int n) {
        if (!isShelf(s) || !isLength(n)) {
            return refuse(BAD);
        }
        Row row = rowOn(s);
        int fault = faultOfRow(s, n);
        return row == null || fault != 0 ? refuse(fault) : firstWrong(row, n);
    }

    public int breaks(int s, int n) {
        if (!isShelf(s) || !isLength(n)) {
            return refuse(BAD);
        }
        Row row = rowOn(s);
        int fault = faultOfRow(s, n);
        if (row == null || fault != 0) {
            return refuse(fault);
        }
        return firstWrong(row, n) == NONE ? firstBreak(row, n) : refuse(STUCK);
    }

    // ---- in truth ----

    public int climb(int person) {
        if (!world.crowd.has(person)) {
            return refuse(BAD);
        }
        if (world.pile.isIn(person) || world.pile.size >= world.most) {
            return refuse(STUCK);
        }
        world.pile.push(person);
        return oneIf(!world.fellIfWeak());
    }

    public int comesOut() {
        if (world.pile.size == 0) {
            return refuse(STUCK);
        }
        int person = world.pile.onCourse(0);
        world.pile.removeAt(0);
        world.fellIfWeak();
        return person;
    }

    public int days(int n) {
        if (!isTime(n)) {
            return refuse(BAD);
        }
        if (world.crowd.count == 0) {
            return refuse(STUCK);
        }
        for (int k = 0; k < n; k++) {
            world.turn();
        }
        return world.pile.tallnessOfAll();
    }

    public int drawn(int n) {
        if (!isTime(n)) {
            return refuse(BAD);
        }
        if (world.crowd.count == 0) {
            return refuse(STUCK);
        }
        int before = world.fallen;
        for (int k = 0; k < n; k++) {
            world.wind = world.draw(WINDS);
            world.fellIfWeak();
            world.turn();
        }
        return world.fallen - before;
    }

    public int seed(int v) {
        int before = world.seed;
        world.seed = v;
        return before;
    }

    public int image() {
        kept.takeFrom(world);
        hasKept = true;
        return 1;
    }

    public int back() {
        if (!hasKept) {
            return refuse(STUCK);
        }
        world.takeFrom(kept);
        for (int s = 0; s < shown.length; s++) {
            if (!world.crowd.has(shown[s])) {
                shown[s] = NONE;
            }
        }
        return 1;
    }

    public int status(int what) {
        switch (what) {
            case 0:
                return world.crowd.count;
            case 1:
                return world.pile.size;
            case 2:
                return world.wind;
            case 3:
                return world.most;
            case 4:
                return world.day;
            case 5:
                return world.fallen;
            case 6:
                return tape.size;
            case 7:
                return world.seed;
            case 8:
                return fullShelves();
            default:
                return refusals(what);
        }
    }

    // ---- helpers ----

    private int refuse(int number) {
        int i = BAD - number;
        put(refused, i, pick(refused, i) + 1);
        return number;
    }

    private int refusals(int what) {
        boolean told = what >= FIRST_REFUSAL_STATUS && what < FIRST_REFUSAL_STATUS + REFUSAL_SORTS;
        return told ? pick(refused, what - FIRST_REFUSAL_STATUS) : NONE;
    }

    private int fullShelves() {
        int count = 0;
        for (int s = 0; s < SHELVES; s++) {
            if (isShown(s) || rowOn(s) != null) {
                count++;
            }
        }
        return count;
    }

    private Row rowOn(int s) {
        return s >= 0 && s < rows.length ? rows[s] : null;
    }

    /** Why a shelf doesn't serve as a row of so many elements; 0: it does. */
    private int faultOfRow(int s, int length) {
        Row row = rowOn(s);
        if (row == null) {
            return isShown(s) ? OTHER : NOTHING;
        }
        return row.cells.length < length ? BAD : 0;
    }

    private boolean isShown(int s) {
        return isShelf(s) && pick(shown, s) != NONE;
    }

    private void place(int s, Row row, int person) {
        if (s >= 0 && s < rows.length) {
            rows[s] = row;
            put(shown, s, person);
        }
    }

    private boolean isSet(int set) {
        return set >= 0 && set < bit(world.crowd.count);
    }

    private int couldClimb() {
        int bits = 0;
        if (world.pile.size >= world.most) {
            return 0;
        }
        for (int p = 0; p < world.crowd.count; p++) {
            if (!world.pile.isIn(p)) {
                tryOnTop(p);
                if (trial.isFirm(world.wind)) {
                    bits |= bit(p);
                }
            }
        }
        return bits;
    }

    private void tryOnTop(int person) {
        trial.takeFrom(world.pile);
        trial.push(person);
    }

    private void tryWithout(int course) {
        trial.takeFrom(world.pile);
        trial.removeAt(course);
    }

    private int firstWrong(Row row, int n) {
        trial.takeFrom(world.pile);
        for (int i = 0; i < n; i++) {
            long person = row.cell(i);
            if (person < 0 || person >= world.crowd.count
                    || trial.isIn((int) person) || trial.size >= world.most) {
                return i;
            }
            trial.push((int) person);
        }
        return NONE;
    }

    private int firstBreak(Row row, int n) {
        trial.takeFrom(world.pile);
        for (int i = 0; i < n; i++) {
            trial.push((int) row.cell(i));
            if (!trial.isFirm(world.wind)) {
                return i;
            }
        }
        return NONE;
    }

    private static boolean isShelf(int s) {
        return s >= 0 && s < SHELVES;
    }

    private static boolean isKind(int kind) {
        return kind >= 0 && kind < KINDS;
    }

    private static boolean isLength(int n) {
        return n >= 0 && n <= LONGEST_ROW;
    }

    private static boolean isTime(int n) {
        return n >= 1 && n <= LONGEST_TIME;
    }

    private static boolean mayBe(int trait, int v) {
        return v >= pick(LEAST_TRAIT, trait) && v <= pick(GREATEST_TRAIT, trait);
    }

    private static boolean isUnder(int kind, int wanted) {
        int k = kind;
        for (int step = 0; step < KINDS && isKind(k); step++) {
            if (k == wanted) {
                return true;
            }
            k = pick(KIND_ABOVE, k);
        }
        return false;
    }

    private static int sway(int up, int wind) {
        return up * wind / 4;
    }

    private static int bit(int p) {
        return p >= 0 && p <= MOST_PEOPLE ? 1 << p : 0;
    }

    private static int oneIf(boolean so) {
        return so ? 1 : 0;
    }

    private static int pick(int[] cells, int i) {
        return cells != null && i >= 0 && i < cells.length ? cells[i] : 0;
    }

    private static void put(int[] cells, int i, int v) {
        if (cells != null && i >= 0 && i < cells.length) {
            cells[i] = v;
        }
    }

    private static void copyAll(int[] from, int[] to) {
        for (int i = 0; i < from.length && i < to.length; i++) {
            to[i] = from[i];
        }
    }

    /** A row of one sort; longs hold every sort, cut to its bits when they are kept. */
    private static final class Row {
        private final int sort;
        private final long[] cells;

        Row(int sort, int n) {
            this.sort = sort;
            this.cells = new long[Math.min(Math.max(n, 0), LONGEST_ROW)];
        }

        boolean has(int i) {
            return i >= 0 && i < cells.length;
        }

        boolean hasSpan(int from, int n) {
            return from >= 0 && n >= 0 && n <= cells.length && from <= cells.length - n;
        }

        long cell(int i) {
            return i >= 0 && i < cells.length ? cells[i] : 0L;
        }

        void keep(int i, long v) {
            if (i >= 0 && i < cells.length) {
                cells[i] = cut(v);
            }
        }

        private long cut(long v) {
            switch (sort) {
                case 0:
                    return (byte) v;
                case 1:
                    return (short) v;
                case 2:
                    return (int) v;
                case 3:
                    return v;
                default:
                    return v != 0 ? 1L : 0L;
            }
        }
    }

    /** The people, each by eight facts in personOf's order: five traits, and three that come of them. */
    private static final class Crowd {
        private final int[] facts = new int[MOST_PEOPLE * FACTS];
        private int count;

        boolean has(int p) {
            return p >= 0 && p < count;
        }

        boolean isFull() {
            return count >= MOST_PEOPLE;
        }

        int fact(int p, int what) {
            int i = p * FACTS + what;
            boolean told = p >= 0 && p < count && what >= 0 && what < FACTS;
            return told && i >= 0 && i < facts.length ? facts[i] : 0;
        }

        void changeTrait(int p, int what, int v) {
            if (has(p) && what >= 0 && what < TRAITS) {
                put(facts, p * FACTS + what, v);
                measure(p);
            }
        }

        int join(int kind, int a, int weight, int strength, int nerve) {
            if (isFull()) {
                return NONE;
            }
            int p = count;
            int first = p * FACTS;
            count++;
            put(facts, first + KIND, kind);
            put(facts, first + A, a);
            put(facts, first + WEIGHT, weight);
            put(facts, first + STRENGTH, strength);
            put(facts, first + NERVE, nerve);
            measure(p);
            return p;
        }

        private void measure(int p) {
            int first = p * FACTS;
            int kind = pick(facts, first + KIND);
            int a = pick(facts, first + A);
            put(facts, first + MASS, massBy(kind, a, pick(facts, first + WEIGHT)));
            put(facts, first + BEARS, bearsBy(kind, a, pick(facts, first + STRENGTH)));
            put(facts, first + TALLNESS, tallnessBy(kind, a));
        }

        static int massBy(int kind, int a, int weight) {
            switch (kind) {
                case TALL:
                    return weight + a;
                case STRING:
                    return (weight + a) / 2;
                case CHILD:
                    return weight / 2;
                default:
                    return weight;
            }
        }

        static int bearsBy(int kind, int a, int strength) {
            switch (kind) {
                case TALL:
                case STRING:
                    return Math.max(0, strength - a);
                case STRONG:
                    return strength + a;
                case WIDOW:
                    return 2 * (strength + a);
                case CHILD:
                    return strength / 2;
                default:
                    return strength;
            }
        }

        static int tallnessBy(int kind, int a) {
            switch (kind) {
                case TALL:
                    return 3;
                case STRING:
                    return 3 + a / 3;
                case CHILD:
                    return 1;
                default:
                    return 2;
            }
        }

        /** The kind told chooses what is said; the facts themselves are reckoned by his own kind. */
        int sayingAs(int kind, int p) {
            switch (kind) {
                case TALL:
                case STRING:
                    return fact(p, TALLNESS);
                case STRONG:
                case WIDOW:
                    return fact(p, BEARS);
                case CHILD:
                    return fact(p, MASS);
                default:
                    return fact(p, NERVE);
            }
        }

        int fondness(int p, int q) {
            return 10 - Math.abs(fact(p, A) - fact(q, A));
        }

        void takeFrom(Crowd other) {
            copyAll(other.facts, facts);
            count = other.count;
        }
    }

    /** People of a crowd, one above the other, the foot first. */
    private static final class Pile {
        private final Crowd crowd;
        private final int[] order = new int[MOST_PEOPLE];
        private int size;

        Pile(Crowd crowd) {
            this.crowd = crowd;
        }

        void takeFrom(Pile other) {
            copyAll(other.order, order);
            size = other.size;
        }

        void clear() {
            size = 0;
        }

        int onCourse(int course) {
            return course >= 0 && course < size ? pick(order, course) : NONE;
        }

        int courseOf(int person) {
            for (int course = 0; course < size; course++) {
                if (pick(order, course) == person) {
                    return course;
                }
            }
            return NONE;
        }

        boolean isIn(int person) {
            return courseOf(person) != NONE;
        }

        int head() {
            return onCourse(size - 1);
        }

        int bits() {
            int bits = 0;
            for (int course = 0; course < size; course++) {
                bits |= bit(pick(order, course));
            }
            return bits;
        }

        void push(int person) {
            insert(size, person);
        }

        void insert(int course, int person) {
            if (course < 0 || course > size || size >= order.length) {
                return;
            }
            for (int c = size; c > course; c--) {
                put(order, c, pick(order, c - 1));
            }
            put(order, course, person);
            size++;
        }

        void removeAt(int course) {
            if (course < 0 || course >= size) {
                return;
            }
            for (int c = course; c < size - 1; c++) {
                put(order, c, pick(order, c + 1));
            }
            size--;
        }

        void swap(int course, int other) {
            int person = pick(order, course);
            put(order, course, pick(order, other));
            put(order, other, person);
        }

        int loadAt(int course) {
            int load = 0;
            for (int c = course + 1; c < size; c++) {
                load += crowd.fact(pick(order, c), MASS);
            }
            return load;
        }

        int upAt(int course) {
            int up = 0;
            for (int c = 0; c < course && c < size; c++) {
                up += crowd.fact(pick(order, c), TALLNESS);
            }
            return up;
        }

        int tallnessOfAll() {
            return upAt(size);
        }

        int slackAt(int course) {
            return crowd.fact(onCourse(course), BEARS) - loadAt(course);
        }

        boolean isCrushed(int course) {
            return slackAt(course) < 0;
        }

        boolean isShaken(int course, int wind) {
            return sway(upAt(course), wind) > crowd.fact(onCourse(course), NERVE);
        }

        int weakCourse(int wind) {
            int load = loadAt(NONE);
            int up = 0;
            for (int course = 0; course < size; course++) {
                int person = pick(order, course);
                load -= crowd.fact(person, MASS);
                if (load > crowd.fact(person, BEARS) || sway(up, wind) > crowd.fact(person, NERVE)) {
                    return course;
                }
                up += crowd.fact(person, TALLNESS);
            }
            return NONE;
        }

        boolean isFirm(int wind) {
            return weakCourse(wind) == NONE;
        }

        int greatestWind() {
            for (int wind = GREATEST_WIND; wind >= 0; wind--) {
                if (isFirm(wind)) {
                    return wind;
                }
            }
            return NONE;
        }

        int crushedBits() {
            int bits = 0;
            for (int course = 0; course < size; course++) {
                if (isCrushed(course)) {
                    bits |= bit(pick(order, course));
                }
            }
            return bits;
        }

        int shakenBits(int wind) {
            int bits = 0;
            for (int course = 0; course < size; course++) {
                if (isShaken(course, wind)) {
                    bits |= bit(pick(order, course));
                }
            }
            return bits;
        }

        int leastCourse() {
            int least = 0;
            for (int course = 1; course < size; course++) {
                if (slackAt(course) < slackAt(least)) {
                    least = course;
                }
            }
            return least;
        }

        int leastSlack() {
            return slackAt(leastCourse());
        }

        void makeRoom(int most) {
            if (size >= most || size >= crowd.count) {
                removeAt(0);
            }
        }

        int firstBehindHead() {
            int head = head();
            int p = head;
            for (int step = 0; step < crowd.count; step++) {
                p = p + 1 < crowd.count ? p + 1 : 0;
                if (!isIn(p)) {
                    return p;
                }
            }
            return NONE;
        }

        boolean fellByTurn(int most, int wind) {
            makeRoom(most);
            int climber = firstBehindHead();
            if (climber != NONE) {
                push(climber);
            }
            if (weakCourse(wind) == NONE) {
                return false;
            }
            clear();
            return true;
        }
    }

    /** All that an image keeps: people, the tower, wind, most, day, fallen and seed. */
    private static final class World {
        private final Crowd crowd = new Crowd();
        private final Pile pile = new Pile(crowd);
        private int wind = 2;
        private int most = 5;
        private int day;
        private int fallen;
        private int seed = 1;

        void takeFrom(World other) {
            crowd.takeFrom(other.crowd);
            pile.takeFrom(other.pile);
            wind = other.wind;
            most = other.most;
            day = other.day;
            fallen = other.fallen;
            seed = other.seed;
        }

        boolean mayTell(int what, int v) {
            return what >= 0 && what < SETTINGS
                    && v >= pick(LEAST_SETTING, what) && v <= pick(GREATEST_SETTING, what)
                    && (what != MOST || v >= pile.size);
        }

        int setting(int what) {
            if (what == WIND) {
                return wind;
            }
            return what == MOST ? most : day;
        }

        void changeSetting(int what, int v) {
            if (what == WIND) {
                wind = v;
            } else if (what == MOST) {
                most = v;
            } else if (what == DAY) {
                day = v;
            }
        }

        boolean fellIfWeak() {
            if (pile.isFirm(wind)) {
                return false;
            }
            pile.clear();
            fallen++;
            return true;
        }

        void turn() {
            if (pile.fellByTurn(most, wind)) {
                fallen++;
            }
            day = Math.min(day + 1, LAST_DAY);
        }

        int draw(int below) {
            seed = seed * 1103515245 + 12345;
            return below > 0 ? (seed >>> 16) % below : 0;
        }
    }

    /**
     * All orders of told people together. Whether one may stand somewhere hangs only on who is below him
     * and who above, so rows by the set below tell what walking through up to 8! orders would.
     */
    private static final class Lineups {
        private final Crowd crowd;
        private final int[] masses = new int[SETS];
        private final int[] heights = new int[SETS];
        private final int[] fits = new int[SETS];
        private final int[] ways = new int[SETS];
        private final int[] lasts = new int[SETS];
        private final int[] joys = new int[SETS * MOST_PEOPLE];
        private int whole;

        Lineups(Crowd crowd) {
            this.crowd = crowd;
        }

        void letStand(int set, int wind) {
            measureSets();
            explore(set, wind, null);
        }

        void letLoadsBe(int set, Row loads) {
            measureSets();
            explore(set, 0, loads);
        }

        int count() {
            return pick(ways, 0);
        }

        int heightOf(int set) {
            return pick(heights, set);
        }

        int highestSet(int most, int wind) {
            int best = 0;
            measureSets();
            for (int set = 1; set < bit(crowd.count); set++) {
                if (Integer.bitCount(set) <= most && heightOf(set) > heightOf(best)) {
                    explore(set, wind, null);
                    if (count() > 0) {
                        best = set;
                    }
                }
            }
            return best;
        }

        /** Who is at a course in the first order by rows; there must be one. */
        int inFirst(int course) {
            int below = 0;
            int person = NONE;
            for (int c = 0; c <= course && c < MOST_PEOPLE; c++) {
                person = firstOn(below);
                below |= bit(person);
            }
            return person;
        }

        int feet() {
            int bits = 0;
            for (int p = 0; p < crowd.count; p++) {
                if (leadsOn(0, p)) {
                    bits |= bit(p);
                }
            }
            return bits;
        }

        int heads() {
            return pick(lasts, 0);
        }

        int greatestJoy() {
            int best = whole == 0 ? 0 : NONE;
            for (int below = whole; below > 0; below--) {
                if (pick(ways, below) > 0) {
                    fillJoys(below);
                }
            }
            for (int p = 0; p < crowd.count; p++) {
                if (leadsOn(0, p)) {
                    best = Math.max(best, joyOf(bit(p), p));
                }
            }
            return best;
        }

        private void measureSets() {
            for (int set = 1; set < bit(crowd.count); set++) {
                int least = set & -set;
                int p = Integer.bitCount(least - 1);
                put(masses, set, pick(masses, set - least) + crowd.fact(p, MASS));
                put(heights, set, pick(heights, set - least) + crowd.fact(p, TALLNESS));
            }
        }

        /** Up from nobody through the sets that can be below, then down again to count; loads null: it must stand. */
        private void explore(int set, int wind, Row loads) {
            whole = set;
            for (int below = 0; below <= set; below++) {
                put(ways, below, 0);
            }
            put(ways, 0, 1);
            for (int below = 0; below <= set; below++) {
                if (pick(ways, below) > 0) {
                    put(fits, below, loads == null ? whoStands(below, wind) : whoBears(below, loads));
                    reachFrom(below);
                }
            }
            for (int below = set; below >= 0; below--) {
                if (pick(ways, below) > 0) {
                    countFrom(below);
                }
            }
        }

        private int whoStands(int below, int wind) {
            int rest = whole & ~below;
            int shake = sway(pick(heights, below), wind);
            int mass = pick(masses, rest);
            int bits = 0;
            for (int p = 0; p < crowd.count; p++) {
                if ((rest >> p & 1) == 1 && mass - crowd.fact(p, MASS) <= crowd.fact(p, BEARS)
                        && shake <= crowd.fact(p, NERVE)) {
                    bits |= 1 << p;
                }
            }
            return bits;
        }

        private int whoBears(int below, Row loads) {
            int rest = whole & ~below;
            long load = loads.cell(Integer.bitCount(below));
            int mass = pick(masses, rest);
            int bits = 0;
            for (int p = 0; p < crowd.count; p++) {
                if ((rest >> p & 1) == 1 && mass - crowd.fact(p, MASS) == load) {
                    bits |= 1 << p;
                }
            }
            return bits;
        }

        private void reachFrom(int below) {
            int fit = pick(fits, below);
            for (int p = 0; p < crowd.count; p++) {
                if ((fit >> p & 1) == 1) {
                    put(ways, below | 1 << p, 1);
                }
            }
        }

        private void countFrom(int below) {
            int fit = pick(fits, below);
            int count = below == whole ? 1 : 0;
            int last = 0;
            for (int p = 0; p < crowd.count; p++) {
                if ((fit >> p & 1) == 1) {
                    int onto = below | 1 << p;
                    count += pick(ways, onto);
                    last |= onto == whole ? 1 << p : pick(lasts, onto);
                }
            }
            put(ways, below, count);
            put(lasts, below, last);
        }

        private boolean leadsOn(int below, int p) {
            return (pick(fits, below) & bit(p)) != 0 && pick(ways, below | bit(p)) > 0;
        }

        private int firstOn(int below) {
            for (int p = 0; p < crowd.count; p++) {
                if (leadsOn(below, p)) {
                    return p;
                }
            }
            return NONE;
        }

        private int joyOf(int below, int last) {
            return pick(joys, below * MOST_PEOPLE + last);
        }

        /** By who is last of those below: the greatest joy from him on up. */
        private void fillJoys(int below) {
            for (int last = 0; last < crowd.count; last++) {
                int best = 0;
                for (int p = 0; p < crowd.count && (below >> last & 1) == 1; p++) {
                    if (leadsOn(below, p)) {
                        best = Math.max(best, joyOf(below | bit(p), p) + crowd.fondness(last, p));
                    }
                }
                put(joys, below * MOST_PEOPLE + last, best);
            }
        }
    }

    private static final class Tape {
        private final int[] letters = new int[TAPE_ROOM];
        private int size;

        boolean isFull() {
            return size >= TAPE_ROOM;
        }

        void append(int letter) {
            if (!isFull()) {
                put(letters, size, letter);
                size++;
            }
        }

        void clear() {
            size = 0;
        }

        int letter(int i) {
            return i >= 0 && i < size ? pick(letters, i) : NONE;
        }
    }

    /** Reads the tape token by token and does each statement at once, on a world that may be thrown away. */
    private static final class Reader {
        private static final int END = 0;
        private static final int WORD = 1;
        private static final int NUMBER = 2;
        private static final int SIGN = 3;
        private static final int STRANGE = 4;
        private static final int LONGEST_NUMBER = 3;

        private final Tape tape;
        private final int[] told = new int[TRAITS];
        private int token;
        private int start;
        private int place;

        Reader(Tape tape) {
            this.tape = tape;
        }

        /** How many statements, or less than 0: the answer that tells the fault. */
        int read(World w) {
            place = 0;
            step();
            for (int count = 1; count <= TAPE_ROOM; count++) {
                if (!didStatement(w)) {
                    return FAULT_BASE - start;
                }
                step();
                if (token == END) {
                    return count;
                }
                if (token != SIGN) {
                    return FAULT_BASE - start;
                }
                step();
            }
            return FAULT_BASE - start;
        }

        /** Where it says no, the token that can't stand there is the one that has just been read. */
        private boolean didStatement(World w) {
            if (isWord("person")) {
                return didPerson(w);
            }
            if (isWord("climb")) {
                return didClimb(w);
            }
            if (isWord("down")) {
                w.pile.clear();
                return true;
            }
            if (isWord("wind")) {
                return didTell(w, WIND);
            }
            if (isWord("most")) {
                return didTell(w, MOST);
            }
            return isWord("day") && didTell(w, DAY);
        }

        private boolean didPerson(World w) {
            if (w.crowd.isFull()) {
                return false;
            }
            for (int what = 0; what < TRAITS; what++) {
                step();
                int v = number();
                if (v == NONE || !mayBe(what, v)) {
                    return false;
                }
                put(told, what, v);
            }
            w.crowd.join(pick(told, KIND), pick(told, A), pick(told, WEIGHT), pick(told, STRENGTH),
                    pick(told, NERVE));
            return true;
        }

        private boolean didClimb(World w) {
            if (w.pile.size >= w.most) {
                return false;
            }
            step();
            int person = number();
            if (!w.crowd.has(person) || w.pile.isIn(person)) {
                return false;
            }
            w.pile.push(person);
            return true;
        }

        private boolean didTell(World w, int what) {
            step();
            int v = number();
            if (v == NONE || !w.mayTell(what, v)) {
                return false;
            }
            w.changeSetting(what, v);
            return true;
        }

        private void step() {
            while (place < tape.size && tape.letter(place) == ' ') {
                place++;
            }
            start = place;
            int first = tape.letter(place);
            if (first == NONE) {
                token = END;
            } else if (isLetter(first)) {
                token = WORD;
                while (place < tape.size && isLetter(tape.letter(place))) {
                    place++;
                }
            } else if (isDigit(first)) {
                token = NUMBER;
                while (place < tape.size && isDigit(tape.letter(place))) {
                    place++;
                }
            } else {
                token = first == ';' ? SIGN : STRANGE;
                place++;
            }
        }

        private boolean isWord(String word) {
            if (token != WORD || place - start != word.length()) {
                return false;
            }
            for (int i = 0; i < word.length(); i++) {
                if (tape.letter(start + i) != word.charAt(i)) {
                    return false;
                }
            }
            return true;
        }

        /** NONE: no number, or one that is too long. */
        private int number() {
            if (token != NUMBER || place - start > LONGEST_NUMBER) {
                return NONE;
            }
            int v = 0;
            for (int i = start; i < place; i++) {
                v = 10 * v + tape.letter(i) - '0';
            }
            return v;
        }

        private static boolean isLetter(int letter) {
            return letter >= 'a' && letter <= 'z';
        }

        private static boolean isDigit(int letter) {
            return letter >= '0' && letter <= '9';
        }
    }
}
