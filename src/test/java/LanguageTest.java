import java.io.IOException;
import java.lang.reflect.Constructor;
import java.lang.reflect.Field;
import java.lang.reflect.Method;
import java.lang.reflect.Modifier;
import java.nio.file.Files;
import java.nio.file.Path;
import java.util.Arrays;
import java.util.Set;
import java.util.TreeSet;
import java.util.regex.Matcher;
import java.util.regex.Pattern;
import java.util.stream.Collectors;

/** What can be seen of ../shared/LANGUAGE.md by reflection and in the text: the face, the forbidden words, the sizes. */
public final class LanguageTest {
    private static final String FACE = "row(int,int,int) set(int,int,long) copy(int,int,int,int,int) element(int,int):long "
        + "holds(int) show(int,int) says(int,int) person(int,int,int,int,int) give(int,int,int) tell(int,int) feed(int) wipe() tower() "
        + "personOf(int,int) at(int) of(int,int) stands() weak() height() least(int) orders(int,int) highest(int) fond(int,int) glad(int) "
        + "backs(int,int,int) under() change() out() gale() chance() fittest() ahead(int,int) next() who(int) room(int) needs(int) nerves(int) "
        + "foot(int) mass() gladness() ends(int,int) lighter() shifted(int,int) between(int) top() ofKind(int) judge(int,int) breaks(int,int) "
        + "climb(int) comesOut() days(int) drawn(int) seed(int) image() back() status(int)";
    private static final String[] FORBIDDEN = {"throw", "throws", "try", "catch", "finally", "synchronized", "assert", "import", "package",
        "->", "::", "float", "double", "volatile", "native", "equals\\(", "hashCode", "toString", "Exact\\(", "System\\.(?!arraycopy)",
        "Random", "Thread", "protected", "var", "yield", "(?<!static final )(?<!abstract )class(?! TowerOfTurns)"};
    private static int wrong;

    private static void check(boolean so, String what) {
        if (!so) {
            wrong++;
            System.out.println(what);
        }
    }

    private static String told(Method m) {
        String types = Arrays.stream(m.getParameterTypes()).map(Class::getName).collect(Collectors.joining(","));
        return m.getName() + "(" + types + ")" + (m.getReturnType() == int.class ? "" : ":" + m.getReturnType().getName());
    }

    private static void face() {
        Set<String> due = new TreeSet<>(Arrays.asList(FACE.split(" ")));
        Set<String> there = new TreeSet<>();
        Set<String> names = new TreeSet<>();
        for (Method m : TowerOfTurns.class.getDeclaredMethods()) {
            if (m.isSynthetic()) continue;
            if (!Modifier.isPrivate(m.getModifiers())) {
                there.add(told(m));
                names.add(m.getName());
                check(m.getModifiers() == Modifier.PUBLIC, "not just public: " + m);
            }
        }
        check(due.equals(there), "the face is " + there + ", due is " + due);
        check(due.size() == 56, "the face has " + due.size() + " methods");
        for (Field f : TowerOfTurns.class.getDeclaredFields()) {
            check(f.getName().equals("NONE") == Modifier.isPublic(f.getModifiers()), "field " + f);
            check(Modifier.isPublic(f.getModifiers()) || Modifier.isPrivate(f.getModifiers()), "field " + f);
            check(!Modifier.isStatic(f.getModifiers()) || Modifier.isFinal(f.getModifiers()), "static field " + f);
        }
        Constructor<?>[] made = TowerOfTurns.class.getDeclaredConstructors();
        check(made.length == 1 && made[0].getParameterCount() == 0 && Modifier.isPublic(made[0].getModifiers()), "the constructor");
        check(TowerOfTurns.class.getModifiers() == (Modifier.PUBLIC | Modifier.FINAL), "the class is public and final");
        inner(names);
    }

    private static void inner(Set<String> publicNames) {
        Class<?>[] inside = TowerOfTurns.class.getDeclaredClasses();
        check(inside.length <= 12, "classes inside: " + inside.length);
        for (Class<?> c : inside) {
            check(Modifier.isStatic(c.getModifiers()) && !Modifier.isPublic(c.getModifiers()), "class " + c);
            long fields = Arrays.stream(c.getDeclaredFields()).filter(f -> !Modifier.isStatic(f.getModifiers())).count();
            check(fields <= 20, c + " has " + fields + " fields");
            for (Method m : c.getDeclaredMethods()) {
                check(m.isSynthetic() || !publicNames.contains(m.getName()), "bears a public name: " + m);
                check(m.getParameterCount() <= 7, "too many parameters: " + m);
            }
        }
        for (Method m : TowerOfTurns.class.getDeclaredMethods()) {
            boolean named = Modifier.isPrivate(m.getModifiers()) && publicNames.contains(m.getName());
            check(m.isSynthetic() || !named, "bears a public name: " + m);
        }
    }

    private static void text(String source) {
        check(source.chars().allMatch(c -> c < 128), "a sign beyond 127");
        String code = source.replaceAll("(?s)/\\*.*?\\*/", "").replaceAll("//[^\n]*", "").replaceAll("\"[^\"\n]*\"", "\"\"");
        for (String word : FORBIDDEN) {
            boolean plain = Character.isLetter(word.charAt(0));
            Matcher m = Pattern.compile((plain ? "\\b" : "") + word + (plain && Character.isLetter(word.charAt(word.length() - 1)) ? "\\b" : "")).matcher(code);
            check(!m.find(), "forbidden: " + word);
        }
        check(!Pattern.compile("\"\" *\\+|\\+ *\"\"").matcher(code).find(), "texts joined by +");
        int length = 0;
        String name = "";
        for (String line : code.split("\n")) {
            if (line.matches("( {4}| {8})[a-z].*\\) \\{")) {
                name = line.trim();
                length = 0;
            }
            length++;
            if (line.matches("( {4}| {8})\\}")) {
                check(length <= 60, "too long: " + name);
            }
        }
    }

    public static void main(String[] args) throws IOException {
        face();
        text(Files.readString(Path.of(args.length > 0 ? args[0] : "src/main/java/TowerOfTurns.java")));
        System.out.println(wrong == 0 ? "the class keeps to what can be seen of the language" : wrong + " rules are broken");
        if (wrong != 0) {
            System.exit(1);
        }
    }
}
