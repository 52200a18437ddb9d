import java.util.ArrayList;
import java.util.Arrays;
import java.util.List;
import java.util.regex.Matcher;
import java.util.regex.Pattern;

/**
 * A second, slow telling of the document, written apart from the class: kinds are classes of their own,
 * orders are walked one by one, texts are cut by a pattern. Random runs are compared with it.
 */
public final class Model {
    private static final int NONE = -1;
    private static final int BAD = -1002, OTHER = -1003, NOTHING = -1004, STUCK = -1005, FULL = -1006;

    static class Person implements Cloneable {
        int number, kind, a, weight, strength, nerve;
        int mass() { return weight; }
        int bears() { return strength; }
        int tall() { return 2; }
        Person twin() {
            try { return (Person) clone(); } catch (CloneNotSupportedException e) { throw new IllegalStateException(e); }
        }
    }
    static class Tall extends Person {
        @Override int mass() { return weight + a; }
        @Override int bears() { return strength < a ? 0 : strength - a; }
        @Override int tall() { return 3; }
    }
    static class Strong extends Person {
        @Override int bears() { return strength + a; }
    }
    static class StringOne extends Tall {
        @Override int mass() { return super.mass() / 2; }
        @Override int tall() { return super.tall() + a / 3; }
    }
    static class Widow extends Strong {
        @Override int bears() { return super.bears() * 2; }
    }
    static class Child extends Person {
        @Override int mass() { return weight / 2; }
        @Override int bears() { return strength / 2; }
        @Override int tall() { return 1; }
    }
    private static final List<Class<?>> KIND_CLASSES = List.of(
            Person.class, Tall.class, Strong.class, StringOne.class, Widow.class, Child.class);

    static Person born(int kind, int a, int w, int s, int n) {
        Person p = switch (kind) {
            case 1 -> new Tall(); case 2 -> new Strong(); case 3 -> new StringOne();
            case 4 -> new Widow(); case 5 -> new Child(); default -> new Person();
        };
        p.kind = kind; p.a = a; p.weight = w; p.strength = s; p.nerve = n;
        return p;
    }

    static final class State {
        List<Person> people = new ArrayList<>();
        List<Integer> tower = new ArrayList<>();
        int wind = 2, most = 5, day = 0, fallen = 0, seed = 1;
        State twin() {
            State t = new State();
            for (Person p : people) t.people.add(p.twin());
            t.tower.addAll(tower);
            t.wind = wind; t.most = most; t.day = day; t.fallen = fallen; t.seed = seed;
            return t;
        }
        int add(int kind, int a, int w, int s, int n) {
            Person p = born(kind, a, w, s, n);
            p.number = people.size();
            people.add(p);
            return p.number;
        }
    }

    private State st = new State();
    private State kept;
    private final Object[] shelves = new Object[8];
    private final long[] sorts = new long[8];
    private final StringBuilder tape = new StringBuilder();
    private final int[] refusals = new int[5];

    private int no(int number) { refusals[-1002 - number]++; return number; }
    private static boolean in(long v, long lo, long hi) { return v >= lo && v <= hi; }
    private boolean there(int p) { return in(p, 0, st.people.size() - 1); }
    private Person p(int n) { return st.people.get(n); }

    // ---- shelves: a long[] is a row, an Integer one of the people ----
    public int row(int s, int sort, int n) {
        if (!in(s, 0, 7) || !in(sort, 0, 4) || !in(n, 0, 40)) return no(BAD);
        shelves[s] = new long[n];
        sorts[s] = sort;
        return 1;
    }
    public int set(int s, int i, long v) {
        if (!in(s, 0, 7)) return no(BAD);
        if (shelves[s] instanceof Integer) return no(OTHER);
        if (shelves[s] == null) return no(NOTHING);
        long[] r = (long[]) shelves[s];
        if (!in(i, 0, r.length - 1)) return no(BAD);
        int bits = sorts[s] == 0 ? 8 : sorts[s] == 1 ? 16 : sorts[s] == 2 ? 32 : 64;
        r[i] = sorts[s] == 4 ? (v == 0 ? 0 : 1) : v << 64 - bits >> 64 - bits;
        return 1;
    }
    public int copy(int p, int q, int i, int j, int n) {
        if (!in(p, 0, 7) || !in(q, 0, 7)) return no(BAD);
        if (shelves[p] instanceof Integer || shelves[q] instanceof Integer) return no(OTHER);
        if (shelves[p] != null && shelves[q] != null && sorts[p] != sorts[q]) return no(OTHER);
        if (shelves[p] == null || shelves[q] == null) return no(NOTHING);
        long[] from = ((long[]) shelves[p]).clone();
        long[] to = (long[]) shelves[q];
        if (n < 0 || i < 0 || j < 0 || (long) i + n > from.length || (long) j + n > to.length) return no(BAD);
        for (int k = 0; k < n; k++) to[j + k] = from[i + k];
        return n;
    }
    public long element(int s, int i) {
        return in(s, 0, 7) && shelves[s] instanceof long[] r && in(i, 0, r.length - 1) ? r[i] : 0;
    }
    public int holds(int s) {
        if (!in(s, 0, 7) || shelves[s] == null) return NONE;
        return shelves[s] instanceof Integer n ? 10 + n : (int) sorts[s];
    }
    public int show(int s, int person) {
        if (!in(s, 0, 7) || !(person == NONE || there(person))) return no(BAD);
        shelves[s] = person == NONE ? null : Integer.valueOf(person);
        return 1;
    }
    public int says(int s, int kind) {
        if (!in(s, 0, 7) || !in(kind, 0, 5)) return no(BAD);
        if (shelves[s] instanceof long[]) return no(OTHER);
        if (shelves[s] == null) return no(NOTHING);
        Person one = p((Integer) shelves[s]);
        if (!KIND_CLASSES.get(kind).isInstance(one)) return no(OTHER);
        return new int[] {one.nerve, one.tall(), one.bears(), one.tall(), one.bears(), one.mass()}[kind];
    }

    // ---- people and the tape ----
    private static boolean fine(int kind, int a, int w, int s, int n) {
        return in(kind, 0, 5) && in(a, 0, 9) && in(w, 1, 40) && in(s, 0, 99) && in(n, 0, 40);
    }
    public int person(int kind, int a, int weight, int strength, int nerve) {
        if (!fine(kind, a, weight, strength, nerve)) return no(BAD);
        return st.people.size() == 8 ? no(FULL) : st.add(kind, a, weight, strength, nerve);
    }
    public int give(int person, int what, int v) {
        if (!there(person) || !in(what, 0, 2)) return no(BAD);
        Person one = p(person);
        int before = what == 0 ? one.weight : what == 1 ? one.strength : one.nerve;
        if (what == 0 ? !in(v, 1, 40) : what == 1 ? !in(v, 0, 99) : !in(v, 0, 40)) return no(BAD);
        if (what == 0) one.weight = v; else if (what == 1) one.strength = v; else one.nerve = v;
        return before;
    }
    public int tell(int what, int v) {
        int before;
        if (what == 0 && in(v, 0, 9)) { before = st.wind; st.wind = v; }
        else if (what == 1 && in(v, Math.max(1, st.tower.size()), 8)) { before = st.most; st.most = v; }
        else if (what == 2 && in(v, 0, 999)) { before = st.day; st.day = v; }
        else return no(BAD);
        return before;
    }
    public int feed(int letter) {
        if (!in(letter, 0, 255)) return no(BAD);
        if (tape.length() == 250) return no(FULL);
        return tape.append((char) letter).length();
    }
    public int wipe() { int n = tape.length(); tape.setLength(0); return n; }

    private static final Pattern TOKEN = Pattern.compile("[a-z]+|[0-9]+|[^ ]", Pattern.DOTALL);
    private List<String> tokens;
    private List<Integer> places;
    private int now;

    public int tower() {
        String text = tape.toString();
        tokens = new ArrayList<>();
        places = new ArrayList<>();
        for (Matcher m = TOKEN.matcher(text); m.find(); ) { tokens.add(m.group()); places.add(m.start()); }
        tokens.add("");
        places.add(text.length());
        now = 0;
        tape.setLength(0);
        State next = st.twin();
        int statements = 0;
        while (true) {
            if (!statement(next)) { no(BAD); return -2000 - places.get(now); }
            statements++;
            if (tokens.get(now).equals("")) { st = next; return statements; }
            if (!tokens.get(now).equals(";")) { no(BAD); return -2000 - places.get(now); }
            now++;
        }
    }
    /** Leaves the place at the token behind the statement, or at the one that can't stand there. */
    private boolean statement(State s) {
        switch (tokens.get(now)) {
            case "person": {
                if (s.people.size() > 7) return false;
                int[] v = new int[5];
                int[][] bounds = {{0, 5}, {0, 9}, {1, 40}, {0, 99}, {0, 40}};
                now++;
                for (int k = 0; k < 5; k++) {
                    if (!number(bounds[k][0], bounds[k][1])) return false;
                    v[k] = Integer.parseInt(tokens.get(now++));
                }
                s.add(v[0], v[1], v[2], v[3], v[4]);
                return true;
            }
            case "climb": {
                if (s.tower.size() >= s.most) return false;
                now++;
                if (!number(0, s.people.size() - 1)) return false;
                int x = Integer.parseInt(tokens.get(now));
                if (s.tower.contains(x)) return false;
                s.tower.add(x);
                now++;
                return true;
            }
            case "down": s.tower.clear(); now++; return true;
            case "wind": now++; if (!number(0, 9)) return false; s.wind = Integer.parseInt(tokens.get(now++)); return true;
            case "most":
                now++;
                if (!number(Math.max(1, s.tower.size()), 8)) return false;
                s.most = Integer.parseInt(tokens.get(now++));
                return true;
            case "day": now++; if (!number(0, 999)) return false; s.day = Integer.parseInt(tokens.get(now++)); return true;
            default: return false;
        }
    }
    private boolean number(int lo, int hi) {
        return tokens.get(now).matches("[0-9]{1,3}") && in(Integer.parseInt(tokens.get(now)), lo, hi);
    }

    // ---- what a tower bears ----
    private int load(List<Integer> t, int c) { int sum = 0; for (int k = c + 1; k < t.size(); k++) sum += p(t.get(k)).mass(); return sum; }
    private int up(List<Integer> t, int c) { int sum = 0; for (int k = 0; k < c; k++) sum += p(t.get(k)).tall(); return sum; }
    private int slack(List<Integer> t, int c) { return p(t.get(c)).bears() - load(t, c); }
    private boolean crushed(List<Integer> t, int c) { return load(t, c) > p(t.get(c)).bears(); }
    private boolean shakes(List<Integer> t, int c, int wind) { return up(t, c) * wind / 4 > p(t.get(c)).nerve; }
    private boolean firm(List<Integer> t, int wind) {
        for (int c = 0; c < t.size(); c++) if (crushed(t, c) || shakes(t, c, wind)) return false;
        return true;
    }
    private int galeOf(List<Integer> t) { int best = NONE; for (int w = 0; w < 10; w++) if (firm(t, w)) best = w; return best; }
    private int heightOf(List<Integer> t) { return up(t, t.size()); }
    private int leastOf(List<Integer> t) { int m = Integer.MAX_VALUE; for (int c = 0; c < t.size(); c++) m = Math.min(m, slack(t, c)); return m; }
    private int gladOf(List<Integer> t) {
        int sum = 0;
        for (int c = 1; c < t.size(); c++) sum += 10 - Math.abs(p(t.get(c)).a - p(t.get(c - 1)).a);
        return sum;
    }
    private List<Integer> without(int person) { List<Integer> t = new ArrayList<>(st.tower); t.remove((Object) person); return t; }
    private List<Integer> with(int place, int person) { List<Integer> t = new ArrayList<>(st.tower); t.add(place, person); return t; }

    public int personOf(int person, int what) {
        if (!there(person) || !in(what, 0, 8)) return no(BAD);
        Person o = p(person);
        return new int[] {o.kind, o.a, o.weight, o.strength, o.nerve, o.mass(), o.bears(), o.tall(), st.tower.indexOf(person)}[what];
    }
    public int at(int course) {
        if (!in(course, 0, 7)) return no(BAD);
        return course < st.tower.size() ? st.tower.get(course) : NONE;
    }
    public int of(int person, int what) {
        if (!there(person) || !in(what, 0, 4)) return no(BAD);
        int c = st.tower.indexOf(person);
        if (c < 0) return no(STUCK);
        return new int[] {load(st.tower, c), slack(st.tower, c), up(st.tower, c), crushed(st.tower, c) ? 1 : 0,
            shakes(st.tower, c, st.wind) ? 1 : 0}[what];
    }
    public int stands() { return firm(st.tower, st.wind) ? 1 : 0; }
    public int weak() {
        for (int c = 0; c < st.tower.size(); c++) if (crushed(st.tower, c) || shakes(st.tower, c, st.wind)) return st.tower.get(c);
        return NONE;
    }
    public int height() { return heightOf(st.tower); }
    public int least(int what) {
        if (!in(what, 0, 1)) return no(BAD);
        if (st.tower.isEmpty()) return no(STUCK);
        int m = leastOf(st.tower);
        if (what == 0) return m;
        for (int c = 0; c < st.tower.size(); c++) if (slack(st.tower, c) == m) return st.tower.get(c);
        throw new IllegalStateException();
    }

    // ---- orders, one by one ----
    private interface Rule { boolean fits(List<Integer> order); }
    private boolean told(int set) { return in(set, 0, (1 << st.people.size()) - 1); }
    private List<List<Integer>> allOrders(int set, Rule rule) {
        List<List<Integer>> found = new ArrayList<>();
        walk(set, new ArrayList<>(), rule, found);
        return found;
    }
    private void walk(int left, List<Integer> order, Rule rule, List<List<Integer>> found) {
        if (left == 0 && rule.fits(order)) found.add(new ArrayList<>(order));
        for (int k = 0; k < 8; k++) {
            if ((left >> k & 1) == 1) {
                order.add(k);
                walk(left & ~(1 << k), order, rule, found);
                order.remove(order.size() - 1);
            }
        }
    }
    private List<List<Integer>> standing(int set) { return allOrders(set, o -> firm(o, st.wind)); }
    private static int endBits(List<List<Integer>> all, boolean foot) {
        int bits = 0;
        for (List<Integer> o : all) if (!o.isEmpty()) bits |= 1 << o.get(foot ? 0 : o.size() - 1);
        return bits;
    }
    public int orders(int set, int i) {
        if (!told(set) || i < -1) return no(BAD);
        List<List<Integer>> all = standing(set);
        if (i == -1) return all.size();
        if (i >= Integer.bitCount(set) || all.isEmpty()) return no(STUCK);
        return all.get(0).get(i);
    }
    public int highest(int what) {
        if (!in(what, 0, 1)) return no(BAD);
        int best = 0, height = 0;
        for (int set = 0; set < 1 << st.people.size(); set++) {
            int h = 0;
            for (Person o : st.people) if ((set >> o.number & 1) == 1) h += o.tall();
            if (Integer.bitCount(set) <= st.most && h > height && !standing(set).isEmpty()) { best = set; height = h; }
        }
        return what == 0 ? best : height;
    }
    public int fond(int person, int other) {
        if (!there(person) || !there(other) || person == other) return no(BAD);
        return gladOf(List.of(person, other));
    }
    public int glad(int set) {
        if (!told(set)) return no(BAD);
        int best = NONE;
        for (List<Integer> o : standing(set)) best = Math.max(best, gladOf(o));
        return best;
    }
    public int backs(int s, int set, int what) {
        if (!in(s, 0, 7) || !told(set) || !in(what, 0, 2)) return no(BAD);
        if (shelves[s] instanceof Integer) return no(OTHER);
        if (shelves[s] == null) return no(NOTHING);
        long[] loads = (long[]) shelves[s];
        if (loads.length < Integer.bitCount(set)) return no(BAD);
        List<List<Integer>> all = allOrders(set, o -> {
            for (int c = 0; c < o.size(); c++) if (load(o, c) != loads[c]) return false;
            return true;
        });
        return what == 0 ? all.size() : endBits(all, what == 1);
    }
    public int ends(int set, int what) {
        if (!told(set) || !in(what, 0, 1)) return no(BAD);
        return endBits(standing(set), what == 0);
    }

    // ---- what would be ----
    public int under() {
        int best = NONE;
        if (st.tower.size() >= st.most) return NONE;
        for (int k = 0; k < st.people.size(); k++) {
            if (!st.tower.contains(k) && (best == NONE || leastOf(with(0, k)) > leastOf(with(0, best)))) best = k;
        }
        return best;
    }
    public int change() {
        int best = NONE, slack = 0;
        for (int x = 0; x < 8; x++) {
            for (int y = x + 1; y < 8; y++) {
                if (!st.tower.contains(x) || !st.tower.contains(y)) continue;
                List<Integer> t = new ArrayList<>(st.tower);
                t.set(st.tower.indexOf(x), y);
                t.set(st.tower.indexOf(y), x);
                if (best == NONE || leastOf(t) > slack) { best = 10 * x + y; slack = leastOf(t); }
            }
        }
        return best;
    }
    public int out() {
        int bits = 0;
        for (int k : st.tower) if (firm(without(k), st.wind)) bits |= 1 << k;
        return bits;
    }
    public int gale() { return galeOf(st.tower); }
    public int chance() { int n = 0; for (int w = 0; w < 10; w++) if (firm(st.tower, w)) n++; return n * 100000; }
    public int fittest() {
        int best = NONE, wind = NONE;
        for (int k = 0; k < st.people.size(); k++) {
            if (st.tower.contains(k)) continue;
            int g = galeOf(with(st.tower.size(), k));
            if (g > wind) { best = k; wind = g; }
        }
        return best;
    }
    public int lighter() {
        int best = NONE, wind = NONE;
        for (int k : st.tower) if (galeOf(without(k)) > wind) { best = k; wind = galeOf(without(k)); }
        return best;
    }
    public int shifted(int from, int to) {
        if (!in(from, 0, st.tower.size() - 1) || !in(to, 0, st.tower.size() - 1)) return no(BAD);
        List<Integer> t = new ArrayList<>(st.tower);
        t.add(to, t.remove(from));
        return firm(t, st.wind) ? 1 : 0;
    }
    public int foot(int person) {
        if (!there(person)) return no(BAD);
        List<Integer> t = without(person);
        t.add(0, person);
        for (int c = 0; c < t.size(); c++) if (crushed(t, c)) return 0;
        return 1;
    }
    /** One turn of a state; whether it fell. */
    private boolean turn(State s) {
        int climber = nextOf(s);
        if (s.tower.size() == s.most || s.tower.size() == s.people.size()) if (!s.tower.isEmpty()) s.tower.remove(0);
        if (climber >= 0) s.tower.add(climber);
        s.day = s.day < 999 ? s.day + 1 : 999;
        if (firm(s.tower, s.wind)) return false;
        s.tower.clear();
        return true;
    }
    private static int nextOf(State s) {
        List<Integer> t = new ArrayList<>(s.tower);
        int n = s.people.size();
        if (n == 0) return NONE;
        if (t.size() == s.most || t.size() == n) t.remove(0);
        if (t.isEmpty()) return 0;
        int k = t.get(t.size() - 1);
        do k = (k + 1) % n; while (t.contains(k));
        return k;
    }
    public int ahead(int n, int what) {
        if (!in(n, 0, 60) || !in(what, 0, 3)) return no(BAD);
        State s = st.twin();
        int fell = 0;
        for (int k = 0; k < n; k++) if (turn(s)) fell++;
        return what == 0 ? heightOf(s.tower) : what == 1 ? s.tower.size() : what == 2 ? fell
            : s.tower.isEmpty() ? NONE : s.tower.get(s.tower.size() - 1);
    }
    public int next() { return nextOf(st); }

    // ---- questions ----
    public int who(int what) {
        if (!in(what, 0, 3)) return no(BAD);
        int bits = 0;
        for (int k = 0; k < st.people.size(); k++) {
            int c = st.tower.indexOf(k);
            boolean so = what == 0 ? c >= 0
                : what == 1 ? c < 0 && st.tower.size() < st.most && firm(with(st.tower.size(), k), st.wind)
                : what == 2 ? c >= 0 && crushed(st.tower, c) : c >= 0 && shakes(st.tower, c, st.wind);
            if (so) bits |= 1 << k;
        }
        return bits;
    }
    public int room(int m) {
        if (!in(m, 1, 40)) return no(BAD);
        if (st.tower.isEmpty()) return no(STUCK);
        int n = 0;
        while (n < 99 && leastOf(st.tower) - (n + 1) * m >= 0) n++;
        return n;
    }
    public int needs(int person) {
        if (!there(person)) return no(BAD);
        int c = st.tower.indexOf(person);
        if (c < 0) return no(STUCK);
        Person o = p(person);
        int before = o.strength, found = NONE;
        for (int s = 99; s >= 0; s--) { o.strength = s; if (!crushed(st.tower, c)) found = s; }
        o.strength = before;
        return found;
    }
    public int nerves(int person) {
        if (!there(person)) return no(BAD);
        int c = st.tower.indexOf(person);
        if (c < 0) return no(STUCK);
        Person o = p(person);
        int before = o.nerve, found = NONE;
        for (int s = 40; s >= 0; s--) { o.nerve = s; if (!shakes(st.tower, c, st.wind)) found = s; }
        o.nerve = before;
        return found;
    }
    public int mass() { int sum = 0; for (int k : st.tower) sum += p(k).mass(); return sum; }
    public int gladness() { return gladOf(st.tower); }
    public int between(int course) {
        if (!in(course, 0, st.tower.size() - 2)) return no(BAD);
        return gladOf(st.tower.subList(course, course + 2));
    }
    public int top() { return st.tower.isEmpty() ? NONE : st.tower.get(st.tower.size() - 1); }
    public int ofKind(int kind) {
        if (!in(kind, 0, 5)) return no(BAD);
        int n = 0;
        for (Person o : st.people) if (o.getClass() == KIND_CLASSES.get(kind)) n++;
        return n;
    }

    // ---- told climbs ----
    private int climbFault(int s, int n) {
        if (!in(s, 0, 7) || !in(n, 0, 40)) return BAD;
        if (shelves[s] instanceof Integer) return OTHER;
        if (shelves[s] == null) return NOTHING;
        return ((long[]) shelves[s]).length < n ? BAD : 0;
    }
    private int wrong(int s, int n) {
        List<Long> t = new ArrayList<>();
        for (int k : st.tower) t.add((long) k);
        for (int i = 0; i < n; i++) {
            long v = ((long[]) shelves[s])[i];
            if (!in(v, 0, st.people.size() - 1) || t.contains(v) || t.size() + 1 > st.most) return i;
            t.add(v);
        }
        return NONE;
    }
    public int judge(int s, int n) {
        int fault = climbFault(s, n);
        return fault != 0 ? no(fault) : wrong(s, n);
    }
    public int breaks(int s, int n) {
        int fault = climbFault(s, n);
        if (fault != 0) return no(fault);
        if (wrong(s, n) != NONE) return no(STUCK);
        List<Integer> t = new ArrayList<>(st.tower);
        for (int i = 0; i < n; i++) {
            t.add((int) ((long[]) shelves[s])[i]);
            if (!firm(t, st.wind)) return i;
        }
        return NONE;
    }

    // ---- in truth ----
    private boolean fall() {
        if (firm(st.tower, st.wind)) return false;
        st.tower.clear();
        st.fallen++;
        return true;
    }
    public int climb(int person) {
        if (!there(person)) return no(BAD);
        if (st.tower.contains(person) || st.tower.size() >= st.most) return no(STUCK);
        st.tower.add(person);
        return fall() ? 0 : 1;
    }
    public int comesOut() {
        if (st.tower.isEmpty()) return no(STUCK);
        int person = st.tower.remove(0);
        fall();
        return person;
    }
    public int days(int n) {
        if (!in(n, 1, 60)) return no(BAD);
        if (st.people.isEmpty()) return no(STUCK);
        for (int k = 0; k < n; k++) if (turn(st)) st.fallen++;
        return heightOf(st.tower);
    }
    public int drawn(int n) {
        if (!in(n, 1, 60)) return no(BAD);
        if (st.people.isEmpty()) return no(STUCK);
        int fell = 0;
        for (int k = 0; k < n; k++) {
            long product = (long) st.seed * 1103515245L + 12345L;
            st.seed = (int) product;
            st.wind = (int) ((product & 0xFFFFFFFFL) / 65536 % 10);
            if (fall()) fell++;
            if (turn(st)) { fell++; st.fallen++; }
        }
        return fell;
    }
    public int seed(int v) { int before = st.seed; st.seed = v; return before; }
    public int image() { kept = st.twin(); return 1; }
    public int back() {
        if (kept == null) return no(STUCK);
        st = kept.twin();
        for (int s = 0; s < 8; s++) if (shelves[s] instanceof Integer n && n >= st.people.size()) shelves[s] = null;
        return 1;
    }
    public int status(int what) {
        if (what >= 12 && what <= 16) return refusals[what - 12];
        int full = (int) Arrays.stream(shelves).filter(o -> o != null).count();
        return in(what, 0, 8) ? new int[] {st.people.size(), st.tower.size(), st.wind, st.most, st.day, st.fallen,
            tape.length(), st.seed, full}[what] : NONE;
    }
}
