import java.io.IOException;
import java.nio.file.Files;
import java.nio.file.Path;
import java.util.ArrayList;
import java.util.LinkedHashMap;
import java.util.List;
import java.util.Map;
import java.util.regex.Matcher;
import java.util.regex.Pattern;

/**
 * The words of ../shared/DOC.md that tests may cite: the bound on calls, the Terms and each promise (by its number).
 * What no test has cited is known in the end, so that no sentence goes without a test unseen.
 */
final class Document {
    private static final int TERMS = 0;
    private static final int BOUND = -1;

    private final Map<Integer, String> words = new LinkedHashMap<>();
    private final Map<Integer, boolean[]> cited = new LinkedHashMap<>();

    private Document() {
    }

    static Document read(Path file) throws IOException {
        Document d = new Document();
        String text = Files.readString(file);
        d.keep(BOUND, "An object is used" + between(text, "\nAn object is used", "\n## The public face"));
        d.keep(TERMS, between(text, "## Terms\n", "\n## Promise 1:"));
        Matcher m = Pattern.compile("\n## Promise (\\d+):[^\n]*\n(.*?)(?=\n## )", Pattern.DOTALL).matcher(text);
        while (m.find()) {
            d.keep(Integer.parseInt(m.group(1)), m.group(2).replaceFirst("`[^`]*`:", ""));
        }
        return d;
    }

    private static String between(String text, String from, String to) {
        int start = text.indexOf(from);
        int end = text.indexOf(to);
        return start < 0 || end < start ? "" : text.substring(start + from.length(), end);
    }

    private void keep(int number, String text) {
        String plain = text.replaceAll("(?m)^==== .*$", "").replace("```text", "").replace("```", "").replaceAll("\\s+", " ").trim();
        words.put(number, plain);
        cited.put(number, new boolean[plain.length()]);
    }

    int promises() {
        return words.size() - 2;
    }

    /** Whether the promise, or else the Terms, or the bound on calls, has these words. */
    boolean cite(int promise, String quote) {
        for (int number : new int[] {promise, TERMS, BOUND}) {
            int at = words.getOrDefault(number, "").indexOf(quote);
            if (at >= 0) {
                for (int k = at; k < at + quote.length(); k++) {
                    cited.get(number)[k] = true;
                }
                return true;
            }
        }
        return false;
    }

    List<String> uncited() {
        List<String> rest = new ArrayList<>();
        words.forEach((number, text) -> {
            StringBuilder b = new StringBuilder();
            for (int k = 0; k <= text.length(); k++) {
                if (k < text.length() && !cited.get(number)[k]) {
                    b.append(text.charAt(k));
                } else {
                    if (b.toString().matches(".*[A-Za-z0-9].*")) {
                        rest.add((number == TERMS ? "Terms" : number == BOUND ? "What it is" : "promise " + number) + ": " + b);
                    }
                    b.setLength(0);
                }
            }
        });
        return rest;
    }
}
