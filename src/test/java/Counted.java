/** The class with its face, each object counting its calls: what it answers after the 512th is free, so no test asks more. */
public final class Counted {
    static final int CALLS_LET = 512;

    /** A test would ask more of one object than is promised. */
    static final class TooMany extends RuntimeException {
        private static final long serialVersionUID = 1;
    }

    private final TowerOfTurns x = new TowerOfTurns();
    private int calls;

    int callsMade() {
        return calls;
    }

    private TowerOfTurns counted() {
        calls++;
        if (calls > CALLS_LET) {
            throw new TooMany();
        }
        return x;
    }

    public int row(int s, int sort, int n) { return counted().row(s, sort, n); }
    public int set(int s, int i, long v) { return counted().set(s, i, v); }
    public int copy(int p, int q, int i, int j, int n) { return counted().copy(p, q, i, j, n); }
    public long element(int s, int i) { return counted().element(s, i); }
    public int holds(int s) { return counted().holds(s); }
    public int show(int s, int person) { return counted().show(s, person); }
    public int says(int s, int kind) { return counted().says(s, kind); }
    public int person(int kind, int a, int weight, int strength, int nerve) { return counted().person(kind, a, weight, strength, nerve); }
    public int give(int person, int what, int v) { return counted().give(person, what, v); }
    public int tell(int what, int v) { return counted().tell(what, v); }
    public int feed(int letter) { return counted().feed(letter); }
    public int wipe() { return counted().wipe(); }
    public int tower() { return counted().tower(); }
    public int personOf(int person, int what) { return counted().personOf(person, what); }
    public int at(int course) { return counted().at(course); }
    public int of(int person, int what) { return counted().of(person, what); }
    public int stands() { return counted().stands(); }
    public int weak() { return counted().weak(); }
    public int height() { return counted().height(); }
    public int least(int what) { return counted().least(what); }
    public int orders(int set, int i) { return counted().orders(set, i); }
    public int highest(int what) { return counted().highest(what); }
    public int fond(int person, int other) { return counted().fond(person, other); }
    public int glad(int set) { return counted().glad(set); }
    public int backs(int s, int set, int what) { return counted().backs(s, set, what); }
    public int under() { return counted().under(); }
    public int change() { return counted().change(); }
    public int out() { return counted().out(); }
    public int gale() { return counted().gale(); }
    public int chance() { return counted().chance(); }
    public int fittest() { return counted().fittest(); }
    public int ahead(int n, int what) { return counted().ahead(n, what); }
    public int next() { return counted().next(); }
    public int who(int what) { return counted().who(what); }
    public int room(int m) { return counted().room(m); }
    public int needs(int person) { return counted().needs(person); }
    public int nerves(int person) { return counted().nerves(person); }
    public int foot(int person) { return counted().foot(person); }
    public int mass() { return counted().mass(); }
    public int gladness() { return counted().gladness(); }
    public int ends(int set, int what) { return counted().ends(set, what); }
    public int lighter() { return counted().lighter(); }
    public int shifted(int from, int to) { return counted().shifted(from, to); }
    public int between(int course) { return counted().between(course); }
    public int top() { return counted().top(); }
    public int ofKind(int kind) { return counted().ofKind(kind); }
    public int judge(int s, int n) { return counted().judge(s, n); }
    public int breaks(int s, int n) { return counted().breaks(s, n); }
    public int climb(int person) { return counted().climb(person); }
    public int comesOut() { return counted().comesOut(); }
    public int days(int n) { return counted().days(n); }
    public int drawn(int n) { return counted().drawn(n); }
    public int seed(int v) { return counted().seed(v); }
    public int image() { return counted().image(); }
    public int back() { return counted().back(); }
    public int status(int what) { return counted().status(what); }
}
