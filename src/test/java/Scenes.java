import java.lang.reflect.InvocationTargetException;
import java.lang.reflect.Method;
import java.util.ArrayList;
import java.util.HashMap;
import java.util.List;
import java.util.Map;
import java.util.Objects;
import java.util.Set;
import java.util.TreeSet;
import java.util.regex.Matcher;
import java.util.regex.Pattern;

/**
 * Runs of calls told as text, each beside the promise and the words of the document that it is for.
 *
 * A told run is calls with blanks between: {@code climb(3)=STUCK} is checked, {@code climb(3)} only mustn't be refused,
 * {@code 249*feed(97)} comes so often, {@code feed"wind 3"} feeds the letters, {@code read"wind 3"=1} reads them too,
 * {@code new} is a new object, {@code long} says that too many calls come to look at all that they change, another word is a
 * scene by its name, and what is behind # is a remark.
 *
 * Besides, each checked call is made on one of two objects on which all calls ahead of it were made, and then all that can
 * be seen of the two is compared: a question changes nothing, a refused call only how many of its kind were refused, any
 * other call only what it may.
 */
final class Scenes {
    private static final Pattern WORD = Pattern.compile(
            "(?:(\\d+)\\*)?([a-zA-Z]\\w*)(?:\\(([^()]*)\\)|\"([^\"]*)\")?(?:=(-?\\w+))?");
    private static final Map<String, Long> NAMES = Map.of("NONE", -1L, "BAD", -1002L, "OTHER", -1003L, "NOTHING", -1004L,
            "STUCK", -1005L, "FULL", -1006L, "MIN", (long) Integer.MIN_VALUE, "MAX", (long) Integer.MAX_VALUE,
            "LMIN", Long.MIN_VALUE, "LMAX", Long.MAX_VALUE);
    private static final Set<String> TAPE_CALLS = Set.of("feed", "wipe", "tower");
    private static final Set<String> SHELF_CALLS = Set.of("row", "set", "copy", "element", "holds", "show", "says", "backs", "judge", "breaks");
    private static final Map<String, Method> METHODS = methods();

    private record Call(String name, long[] args) {
    }

    private final Document document;
    private final Map<String, String> named = new HashMap<>();
    private final Set<Integer> promisesSeen = new TreeSet<>();
    private final List<Call> log = new ArrayList<>();
    private Counted x = new Counted();
    private String about = "";
    private int wrong;
    private int checks;
    private int twins;
    private boolean mayBeLong;

    Scenes(Document document) {
        this.document = document;
    }

    private static Map<String, Method> methods() {
        Map<String, Method> all = new HashMap<>();
        for (Method m : Counted.class.getDeclaredMethods()) {
            if (java.lang.reflect.Modifier.isPublic(m.getModifiers())) {
                all.put(m.getName(), m);
            }
        }
        return all;
    }

    void scene(String name, String run) {
        named.put(name, run);
    }

    /** The run is for these words of that promise (or of the Terms, tested by that promise). */
    void sentence(int promise, String quote, String run) {
        about = "promise " + promise + ", \"" + quote + "\"";
        promisesSeen.add(promise);
        if (document != null && !document.cite(promise, quote)) {
            fault("the document has no such words there");
        }
        mayBeLong = false;
        begin();
        play(run);
    }

    int wrongOnes() {
        return wrong;
    }

    String told() {
        return checks + " answers, " + twins + " of them with what they change, for " + promisesSeen.size() + " promises";
    }

    Set<Integer> promisesSeen() {
        return promisesSeen;
    }

    private void fault(String what) {
        wrong++;
        System.out.println(about + ": " + what);
    }

    private void begin() {
        x = new Counted();
        log.clear();
    }

    private void play(String run) {
        String rest = run.replaceAll("#[^\n]*", " ").trim();
        while (!rest.isEmpty()) {
            Matcher m = WORD.matcher(rest);
            if (!m.lookingAt() || m.end() < rest.length() && !Character.isWhitespace(rest.charAt(m.end()))) {
                fault("can't be read: " + rest);
                return;
            }
            int times = m.group(1) == null ? 1 : Integer.parseInt(m.group(1));
            for (int k = 0; k < times; k++) {
                act(m);
            }
            rest = rest.substring(m.end()).trim();
        }
    }

    private void act(Matcher m) {
        String name = m.group(2);
        if (m.group(3) != null) {
            ask(new Call(name, numbers(m.group(3))), m.group(5));
        } else if (m.group(4) != null) {
            for (char c : m.group(4).toCharArray()) {
                ask(new Call("feed", new long[] {c}), null);
            }
            if (name.equals("read")) {
                ask(new Call("tower", new long[0]), m.group(5));
            }
        } else if (name.equals("new")) {
            begin();
        } else if (name.equals("long")) {
            mayBeLong = true;
        } else if (named.containsKey(name)) {
            play(named.get(name));
        } else {
            fault("no scene of the name " + name);
        }
    }

    private static long[] numbers(String told) {
        String[] parts = told.isBlank() ? new String[0] : told.trim().split("\\s*,\\s*");
        long[] all = new long[parts.length];
        for (int k = 0; k < parts.length; k++) {
            all[k] = number(parts[k]);
        }
        return all;
    }

    private static long number(String told) {
        Long byName = NAMES.get(told);
        return byName != null ? byName : Long.parseLong(told);
    }

    private void ask(Call call, String due) {
        long got = make(x, call);
        if (due == null) {
            if (isRefusal(got)) {
                fault(told(call) + " was to make the scene ready and was refused: " + got);
            }
        } else {
            checks++;
            long want = number(due);
            if (got != want) {
                fault(told(call) + " answered " + got + ", due is " + want);
            } else {
                lookAtTwins(call, got);
            }
        }
        log.add(call);
    }

    private static String told(Call call) {
        StringBuilder b = new StringBuilder(call.name()).append('(');
        for (int k = 0; k < call.args().length; k++) {
            b.append(k == 0 ? "" : ", ").append(call.args()[k]);
        }
        return b.append(')').toString();
    }

    private static boolean isRefusal(long answer) {
        return answer <= -1002 && answer >= -1006;
    }

    private static long make(Counted on, Call call) {
        Method m = METHODS.get(call.name());
        Object[] given = new Object[call.args().length];
        for (int k = 0; k < given.length; k++) {
            given[k] = m.getParameterTypes()[k] == long.class ? (Object) call.args()[k] : (Object) (int) call.args()[k];
        }
        try {
            return ((Number) m.invoke(on, given)).longValue();
        } catch (InvocationTargetException e) {
            if (e.getCause() instanceof Counted.TooMany) {
                throw new Counted.TooMany();
            }
            throw new IllegalStateException(told(call), e);
        } catch (IllegalAccessException e) {
            throw new IllegalStateException(told(call), e);
        }
    }

    // ---- what a call changes ----

    private void lookAtTwins(Call call, long answer) {
        try {
            Counted with = replayedFor(call);
            if (make(with, call) != answer) {
                fault(told(call) + " answered something else after the same calls");
            }
            compare(call, answer, View.of(replayedFor(call)), View.of(with));
            twins++;
        } catch (Counted.TooMany e) {
            if (!mayBeLong) {
                fault("the run is so long that what it changes can't be seen within " + Counted.CALLS_LET + " calls");
            }
        }
    }

    private void compare(Call call, long answer, Map<String, Long> before, Map<String, Long> after) {
        boolean textRefused = call.name().equals("tower") && answer < 0;
        String refusal = textRefused ? "refused -1002" : isRefusal(answer) ? "refused " + answer : "";
        String may = textRefused ? "tape .*" : isRefusal(answer) ? "" : mayChange(call, answer);
        Set<String> labels = new TreeSet<>(before.keySet());
        labels.addAll(after.keySet());
        for (String label : labels) {
            Long want = before.get(label);
            if (label.equals(refusal)) {
                want = want + 1;
            }
            if (!Objects.equals(want, after.get(label)) && !label.matches(may)) {
                fault(told(call) + " answered " + answer + " and changed " + label + " from " + before.get(label) + " to "
                        + after.get(label));
            }
        }
    }

    /**
     * Made by the same calls; where it can't matter for the answer there is besides an image, a day, a seed, a row, one of the
     * people in a shelf and a text on the tape, so that nothing is spoilt unseen.
     */
    private Counted replayedFor(Call call) {
        Counted twin = new Counted();
        boolean counted = call.name().equals("status");
        if (!namedHere(call, "image", "back")) {
            twin.image();
        }
        if (!counted && !namedHere(call, "tell", "days", "drawn", "tower")) {
            twin.tell(2, 345);
        }
        if (!counted && !namedHere(call, "seed", "drawn")) {
            twin.seed(-4242);
        }
        int free = counted ? -1 : freeShelf(call, 7);
        if (free >= 0) {
            twin.row(free, 3, 2);
            twin.set(free, 1, 7777);
        }
        for (Call c : log) {
            make(twin, c);
        }
        int other = free < 0 ? -1 : freeShelf(call, free - 1);
        if (other >= 0 && twin.status(0) > 0) {
            twin.show(other, 0);
        }
        if (!counted && !TAPE_CALLS.contains(call.name()) && twin.status(6) == 0) {
            for (char letter : "day 77".toCharArray()) {
                twin.feed(letter);
            }
        }
        return twin;
    }

    private boolean namedHere(Call call, String... names) {
        List<String> all = List.of(names);
        return all.contains(call.name()) || log.stream().anyMatch(c -> all.contains(c.name()));
    }

    /** The last one up to that place which no call of the run has to do with. */
    private int freeShelf(Call call, int from) {
        Set<Long> used = new TreeSet<>();
        List<Call> all = new ArrayList<>(log);
        all.add(call);
        for (Call c : all) {
            if (SHELF_CALLS.contains(c.name())) {
                used.add(c.args()[0]);
                used.add(c.name().equals("copy") ? c.args()[1] : c.args()[0]);
            }
        }
        for (int s = from; s >= 0; s--) {
            if (!used.contains((long) s)) {
                return s;
            }
        }
        return -1;
    }

    /** What such a call may change when it isn't refused, as the words of View have it. */
    private static String mayChange(Call call, long answer) {
        long[] a = call.args();
        switch (call.name()) {
            case "row": case "show": return "shelf " + a[0] + " .*|full shelves";
            case "set": return "shelf " + a[0] + " element " + a[1];
            case "copy": return "shelf " + a[1] + " element .*";
            case "person": return "people|person " + answer + " .*|tape .*";
            case "give": return "person " + a[0] + " trait " + (2 + a[1]) + "|tape then .*";
            case "tell": return new String[] {"wind", "most", "day"}[(int) a[0]] + "|tape .*";
            case "feed": case "wipe": return "tape .*";
            case "tower": return "wind|most|day|people|in it|at .*|person .*|tape .*";
            case "climb": case "comesOut": return "in it|at .*|fallen|tape .*";
            case "days": return "in it|at .*|fallen|day|tape .*";
            case "drawn": return "in it|at .*|fallen|day|wind|seed|tape .*";
            case "seed": return "seed|tape then seed";
            case "image": return "kept .*";
            case "back": return "wind|most|day|fallen|seed|people|in it|at .*|person .*|tape (answer|then .*)|shelf . holds|full shelves";
            default: return "";
        }
    }
}
