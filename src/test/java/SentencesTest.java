import java.io.IOException;
import java.nio.file.Files;
import java.nio.file.Path;

/** Each sentence of the document with a run for it: the last value that is let and the first that isn't, nothing and all, each refusal. */
public final class SentencesTest {
    private SentencesTest() {
    }

    private static void scenes(Scenes s) {
        // MASS 12 18 20 8 15 4, BEARS 50 36 65 24 84 6, TALLNESS 2 3 2 5 2 1
        s.scene("six", """
            person(0, 1, 12, 50, 9) person(1, 4, 14, 40, 12) person(2, 5, 20, 60, 4) person(3, 6, 10, 30, 20) person(4, 2, 15, 40, 8) person(5, 7, 9, 12, 30)
            tell(0, 3) tell(1, 6)""");
        // LOAD 36 16 4 0, SLACK 48 49 46 6, UP 0 2 4 6
        s.scene("four", "six climb(4) climb(2) climb(0) climb(5)");
        s.scene("firm3", "person(0, 0, 1, 99, 40) person(0, 1, 1, 99, 40) person(0, 2, 1, 99, 40)");
        s.scene("strings", "5*person(3, 9, 1, 99, 40)");
        s.scene("eight", "8*person(0, 0, 1, 99, 40)");
        s.scene("full", "eight tell(1, 8) climb(0) climb(1) climb(2) climb(3) climb(4) climb(5) climb(6) climb(7)");
    }

    /** Arguments: the class's source, which isn't needed here, and the document. */
    public static void main(String[] args) throws IOException {
        Path file = Path.of(args.length > 1 ? args[1] : "../shared/DOC.md");
        Document document = Files.isRegularFile(file) ? Document.read(file) : null;
        Scenes s = new Scenes(document);
        scenes(s);
        ShelfSentences.tell(s);
        TapeSentences.tell(s);
        TowerSentences.tell(s);
        OrderSentences.tell(s);
        ChangeSentences.tell(s);
        TruthSentences.tell(s);
        int wrong = s.wrongOnes();
        for (int promise = 1; promise <= 57; promise++) {
            if (!s.promisesSeen().contains(promise)) {
                wrong++;
                System.out.println("no sentence of promise " + promise + " is tested");
            }
        }
        if (document == null) {
            System.out.println("the document isn't at " + file + ": whether it has the words cited wasn't looked at");
        } else {
            for (String words : document.uncited()) {
                wrong++;
                System.out.println("no test is for these words: " + words);
            }
        }
        System.out.println(s.told() + (wrong == 0 ? ": all as due" : ": " + wrong + " wrong"));
        if (wrong != 0) {
            System.exit(1);
        }
    }
}
