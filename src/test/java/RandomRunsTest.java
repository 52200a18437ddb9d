import java.lang.reflect.Method;
import java.util.ArrayList;
import java.util.HashMap;
import java.util.List;
import java.util.Map;
import java.util.Random;
import java.util.TreeMap;

/** Runs of drawn calls (the same every time) on the class and on the model: every answer must be the same. */
public final class RandomRunsTest {
    private static final int RUNS = 700;
    private static final int CALLS = Counted.CALLS_LET;
    private static final int LAST_LOOKS = 25;
    private static final int LONGEST_STEP = 60;

    /** What each argument of a method is about; a method of more weight is called more often. */
    private static final String[] CALLS_BY_NAME = {
        "3 row s sort len", "6 set s i v", "2 copy s s j j j", "2 element s i", "1 holds s", "2 show s p", "2 says s kind",
        "6 person kind a w st nv", "6 give p give gv", "4 tell setting sv", "1 feed byte", "1 wipe", "4 tower",
        "3 personOf p pwhat", "1 at i", "4 of p ofwhat", "1 stands", "2 weak", "1 height", "2 least w1",
        "3 orders bits i", "2 highest w1", "1 fond p p", "2 glad bits", "2 backs s bits w2", "6 backsReal s bits w2",
        "3 under", "3 change", "3 out", "2 gale", "1 chance", "3 fittest", "2 ahead n w3", "2 next", "3 who w3", "2 room w",
        "2 needs p", "2 nerves p", "2 foot p", "1 mass", "1 gladness", "2 ends bits w1", "3 lighter", "2 shifted i i",
        "1 between i", "1 top", "1 ofKind kind", "3 judge s len", "3 breaks s len", "5 climbRow s len", "14 climb p",
        "2 comesOut", "6 probe", "4 pileUp", "1 days n", "1 drawn n", "1 seed any", "1 image", "1 back", "2 status st17",
    };

    private final Random random;
    private final Counted real = new Counted();
    private final Model model = new Model();
    private final List<String> told = new ArrayList<>();
    private final int crowd;
    private final boolean gentle;
    private static final Map<String, Map<Long, Integer>> SEEN = new TreeMap<>();
    private static final Map<String, Method> REAL = methods(Counted.class);
    private static final Map<String, Method> MODEL = methods(Model.class);

    private RandomRunsTest(int run) {
        random = new Random(1000003L * run + 17);
        crowd = run % 40 == 0 ? 8 : run % 10 == 0 ? 7 : 1 + random.nextInt(6);
        gentle = run % 3 != 0;
    }

    private static Map<String, Method> methods(Class<?> c) {
        Map<String, Method> all = new HashMap<>();
        for (Method m : c.getDeclaredMethods()) {
            if (java.lang.reflect.Modifier.isPublic(m.getModifiers())) {
                all.put(m.getName(), m);
            }
        }
        return all;
    }

    private int under(int n) {
        return random.nextInt(n);
    }

    private long argument(String kind) {
        if (under(60) == 0) {
            long[] odd = {-1, -2, 8, 9, 41, 61, 100, 256, 1000, Integer.MIN_VALUE, Integer.MAX_VALUE};
            return odd[under(odd.length)];
        }
        switch (kind) {
            case "s": return under(3) + (under(20) == 0 ? 5 : 0);
            case "sort": return under(5);
            case "len": return under(gentle ? 7 : 12);
            case "i": return under(9) - 1;
            case "j": return under(4);
            case "v": return under(3) == 0 ? random.nextLong() : under(2) == 0 ? under(9) - 1 : under(120);
            case "p": return under(crowd + (under(8) == 0 ? 1 : 0));
            case "kind": return under(6);
            case "a": return under(10);
            case "w": return gentle ? 1 + under(12) : 1 + under(40);
            case "st": return gentle ? 30 + under(70) : under(100);
            case "nv": return gentle ? 15 + under(26) : under(41);
            case "give": return under(3);
            case "gv": return gentle ? 20 + under(21) : under(110);
            case "setting": return under(3);
            case "sv": return under(gentle ? 5 : 11) + (under(9) == 0 ? 900 : 0);
            case "byte": return under(256);
            case "pwhat": return under(10);
            case "ofwhat": return under(5);
            case "w1": return under(2);
            case "w2": return under(3);
            case "w3": return under(4);
            case "bits": return under(1 << crowd);
            case "n": return under(61);
            case "any": return random.nextInt();
            case "st17": return under(19) - 1;
            default: throw new IllegalArgumentException(kind);
        }
    }

    private long call(String name, long... args) {
        long want = invoke(MODEL.get(name), model, args);
        long got = invoke(REAL.get(name), real, args);
        told.add(name + java.util.Arrays.toString(args) + " " + got);
        SEEN.computeIfAbsent(name, k -> new TreeMap<>()).merge(got < -1000 || got > 9 ? Math.max(got, -2001) : got, 1, Integer::sum);
        if (want != got) {
            for (String line : told) {
                System.out.println(line);
            }
            System.out.println("due was " + want);
            System.exit(1);
        }
        return got;
    }

    private static long invoke(Method m, Object on, long[] args) {
        Object[] given = new Object[args.length];
        for (int k = 0; k < args.length; k++) {
            given[k] = m.getParameterTypes()[k] == long.class ? (Object) args[k] : (Object) (int) args[k];
        }
        try {
            return ((Number) m.invoke(on, given)).longValue();
        } catch (ReflectiveOperationException e) {
            e.printStackTrace(System.out);
            System.exit(1);
            return 0;
        }
    }

    private void step() {
        int sum = 0;
        for (String c : CALLS_BY_NAME) {
            sum += Integer.parseInt(c.substring(0, c.indexOf(' ')));
        }
        int drawn = under(sum);
        for (String c : CALLS_BY_NAME) {
            String[] parts = c.split(" ");
            drawn -= Integer.parseInt(parts[0]);
            if (drawn < 0) {
                long[] args = new long[parts.length - 2];
                for (int k = 2; k < parts.length; k++) {
                    args[k - 2] = argument(parts[k]);
                }
                act(parts[1], args);
                return;
            }
        }
    }

    private void act(String name, long[] args) {
        switch (name) {
            case "tower": feedAndRead(); break;
            case "person": if (real.status(0) < crowd || under(30) == 0) call(name, args); break;
            case "climbRow": climbRow(args); break;
            case "backsReal": backsReal(args); break;
            case "probe": probe(); break;
            case "pileUp": pileUp(); break;
            default: call(name, args);
        }
    }

    private void feedAndRead() {
        String text = text();
        if (text.length() + 1 > CALLS - LAST_LOOKS - real.callsMade()) {
            return;
        }
        for (char c : text.toCharArray()) {
            call("feed", c);
        }
        call("tower");
    }

    private String text() {
        StringBuilder b = new StringBuilder();
        int n = 1 + under(4);
        for (int k = 0; k < n; k++) {
            b.append(k == 0 ? "" : under(9) == 0 ? " ; " : ";");
            switch (under(8)) {
                case 0: case 1:
                    b.append("person ");
                    if (real.status(0) >= crowd && under(6) != 0) b.setLength(b.length() - 7);
                    else for (String kind : new String[] {"kind", "a", "w", "st", "nv"}) b.append(argument(kind)).append(' ');
                    break;
                case 2: case 3: case 4: b.append("climb ").append(argument("p")); break;
                case 5: b.append("wind").append(under(10)); break;
                case 6: b.append("most ").append(1 + under(8)); break;
                default: b.append(under(3) == 0 ? "down" : under(2) == 0 ? "day  007" : "day 0999"); break;
            }
        }
        if (under(4) == 0 && b.length() > 0) {
            b.setCharAt(under(b.length()), "aZ 0;9.c".charAt(under(8)));
        }
        if (under(12) == 0) {
            b.setLength(under(b.length() + 1));
        }
        return b.length() > 200 ? b.substring(0, 200) : b.toString();
    }

    private void climbRow(long[] args) {
        int s = under(8);
        int n = 1 + under(5);
        call("row", s, under(4), n);
        for (int i = 0; i < n; i++) {
            call("set", s, i, under(9) == 0 ? argument("p") : (real.at(0) + 1 + i + under(2)) % Math.max(1, crowd));
        }
        call("judge", s, n);
        call("breaks", s, n);
    }

    /** A row of loads of an order that there is. */
    private void backsReal(long[] args) {
        int set = (int) argument("bits") & ((1 << real.status(0)) - 1);
        int n = Integer.bitCount(set);
        List<Integer> order = new ArrayList<>();
        for (int p = 0; p < 8; p++) {
            if ((set >> p & 1) == 1) {
                order.add(under(order.size() + 1), p);
            }
        }
        call("row", 3, 2, n + under(2));
        for (int i = 0; i < n; i++) {
            int load = 0;
            for (int k = i + 1; k < n; k++) {
                load += real.personOf(order.get(k), 5);
            }
            call("set", 3, i, load);
        }
        for (int what = 0; what < 3; what++) {
            call("backs", 3, set, what);
        }
    }

    /** Weakens or strengthens one who is in the tower, and asks what comes of it. */
    private void probe() {
        int size = real.status(1);
        int p = size == 0 ? 0 : real.at(under(size));
        int what = under(3);
        call("give", p, what, what == 0 ? 1 + under(40) : what == 1 ? under(100) : under(12));
        if (under(3) == 0) call("tell", 0, under(10));
        String[] asked = {"weak", "gale", "chance", "out", "lighter", "change", "stands", "fittest", "under"};
        for (int k = 0; k < 4; k++) call(asked[under(asked.length)]);
        int q = size == 0 ? 0 : real.at(under(size));
        call("needs", q);
        call("nerves", q);
        call("foot", under(Math.max(1, real.status(0))));
        call("room", 1 + under(20));
        call("of", q, under(5));
        call("least", under(2));
        call("who", 1 + under(3));
        if (size > 0) call("shifted", under(size), under(size));
        call("orders", real.who(0), under(size + 1) - 1);
    }

    private void pileUp() {
        call("tell", 1, 2 + under(7));
        for (int k = under(4); k >= 0; k--) call("climb", under(crowd));
    }

    /** Most runs begin with people and with whatever tower a text can make of them, standing or not. */
    private void begin() {
        while (real.status(0) < crowd) {
            call("person", argument("kind"), argument("a"), argument("w"), argument("st"), argument("nv"));
        }
        StringBuilder b = new StringBuilder("most 8");
        List<Integer> order = new ArrayList<>();
        for (int p = 0; p < crowd; p++) order.add(under(order.size() + 1), p);
        for (int k = under(crowd + 1) - 1; k >= 0; k--) b.append(";climb").append(order.get(k));
        for (char c : b.toString().toCharArray()) call("feed", c);
        call("tower");
    }

    private void run() {
        if (under(4) != 0) begin();
        while (real.callsMade() < CALLS - LAST_LOOKS - LONGEST_STEP) {
            step();
        }
        for (int what = 0; what < 17; what++) {
            call("status", what);
        }
        for (int course = 0; course < 8; course++) {
            call("at", course);
        }
    }

    public static void main(String[] args) {
        for (int run = 0; run < RUNS; run++) {
            new RandomRunsTest(run).run();
        }
        if (java.util.Arrays.asList(args).contains("seen")) {
            SEEN.forEach((name, answers) -> System.out.println(name + " " + answers));
        }
        System.out.println(RUNS + " drawn runs answered as the model does");
    }
}
