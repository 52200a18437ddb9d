import java.util.LinkedHashMap;
import java.util.Map;

/** All that can be seen of an object, by names; it is used up by that, since the tape is read and the image fetched. */
final class View {
    private static final String[] STATUS = {"people", "in it", "wind", "most", "day", "fallen", "tape size", "seed", "full shelves"};
    private static final int NONE = -1;
    private static final int FIRST_REFUSAL = 12;
    private static final int LONGEST_ROW = 40;
    private static final int ELEMENTS_SEEN = 6;

    private final Counted x;
    private final Map<String, Long> seen = new LinkedHashMap<>();

    private View(Counted x) {
        this.x = x;
    }

    static Map<String, Long> of(Counted x) {
        View view = new View(x);
        view.see();
        return view.seen;
    }

    private void see() {
        for (int k = 0; k < 5; k++) {
            seen.put("refused " + (-1002 - k), (long) x.status(FIRST_REFUSAL + k));
        }
        int held = x.status(8);
        seen.put("full shelves", (long) held);
        for (int s = 0; s < 8 && held > 0; s++) {
            seeShelf(s);
        }
        int tape = x.status(6);
        seen.put("tape size", (long) tape);
        seeWorld("");
        int people = x.status(0);
        if (tape > 0) {
            seen.put("tape answer", (long) x.tower());
            seeSettings("tape then ");
            for (int p = people; p < x.status(0); p++) {
                seePerson("tape then ", p);
            }
        }
        seen.put("kept answer", (long) x.back());
        if (seen.get("kept answer") == 1) {
            seeWorld("kept ");
        }
    }

    private void seeWorld(String name) {
        seeSettings(name);
        for (int p = 0; p < x.status(0); p++) {
            seePerson(name, p);
        }
    }

    private void seeSettings(String name) {
        for (int k : new int[] {0, 1, 2, 3, 4, 5, 7}) {
            seen.put(name + STATUS[k], (long) x.status(k));
        }
        int inIt = x.status(1);
        for (int course = 0; course < inIt; course++) {
            seen.put(name + "at " + course, (long) x.at(course));
        }
    }

    private void seePerson(String name, int p) {
        for (int what = 0; what < 5; what++) {
            seen.put(name + "person " + p + " trait " + what, (long) x.personOf(p, what));
        }
    }

    private void seeShelf(int s) {
        int holds = x.holds(s);
        if (holds != NONE) {
            seen.put("shelf " + s + " holds", (long) holds);
        }
        if (holds > NONE && holds < 5) {
            int length = lengthOf(s);
            seen.put("shelf " + s + " length", (long) length);
            for (int i = 0; i < length; i++) {
                if (i < ELEMENTS_SEEN || i == length - 1) {
                    seen.put("shelf " + s + " element " + i, x.element(s, i));
                }
            }
        }
    }

    /** A told climb by more elements than a row has is refused. */
    private int lengthOf(int s) {
        int low = 0;
        int high = LONGEST_ROW;
        while (low < high) {
            int middle = (low + high + 1) / 2;
            if (x.judge(s, middle) == -1002) {
                high = middle - 1;
            } else {
                low = middle;
            }
        }
        return low;
    }
}
