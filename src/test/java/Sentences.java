import java.io.IOException;
import java.nio.charset.StandardCharsets;
import java.nio.file.Files;
import java.nio.file.Path;
import java.util.ArrayList;
import java.util.List;
import java.util.Map;
import java.util.TreeMap;

/**
 * What the tests of single sentences share: the sentence that is tested just now, and the faults.
 * A sentence is quoted under its head, and the quote is looked up in the document, so that a test
 * whose sentence has changed is read again.
 */
abstract class Sentences {
    static final int INVALID = -1;
    static final int ILLEGAL = -2;
    static final int NO_ROOM = -3;
    static final int NONE = -9;
    static final int LOW = Integer.MIN_VALUE;
    static final int HIGH = Integer.MAX_VALUE;

    private static final Path DOCUMENT = Path.of("../shared/DOC.md");
    private static final Map<String, String> SECTIONS = new TreeMap<>();

    private static final List<String> heads = new ArrayList<>();
    private static String present = "";
    private static int wrong = 0;

    /** Begins the test of a sentence, which stands under this head ("Promise 4", "Beam"). */
    static void sentence(String head, String quote) {
        present = head + ": \"" + quote + "\"";
        heads.add(head);
        if (!section(head).contains(quote)) {
            fault("this does not stand in the document");
        }
    }

    static void fault(String what) {
        wrong++;
        System.out.println(present + "\n    " + what);
    }

    /** Ends the program: with the code 1 if anything was wrong, or if a head was left out. */
    static void finish(List<String> allHeads) {
        for (String head : allHeads) {
            if (!heads.contains(head)) {
                fault("there is no test under " + head);
            }
        }
        System.out.println(wrong == 0 ? heads.size() + " sentences hold" : wrong + " faults");
        if (wrong != 0) {
            System.exit(1);
        }
    }

    private static String section(String head) {
        if (SECTIONS.isEmpty()) {
            readDocument();
        }
        return SECTIONS.getOrDefault(head, "");
    }

    private static void readDocument() {
        String head = "";
        for (String line : documentLines()) {
            if (line.startsWith("#")) {
                head = line.replaceAll("^#+ ", "").replaceAll(":.*", "");
            }
            String text = line.strip().replaceAll(" +", " ");
            SECTIONS.merge(head, text, (above, below) -> above + " " + below);
        }
    }

    private static List<String> documentLines() {
        try {
            return Files.readAllLines(DOCUMENT, StandardCharsets.UTF_8);
        } catch (IOException e) {
            fault("the document cannot be read: " + e);
            return List.of();
        }
    }
}
