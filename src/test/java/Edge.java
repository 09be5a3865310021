import java.io.IOException;
import java.nio.file.Files;
import java.nio.file.Path;
import java.util.Set;
import java.util.TreeSet;

/** The frame of the tests of edges: each one bears the promise (or the terms) and the sentence that it holds. */
final class Edge {
    static final String TERMS = "Terms";
    static final int LEAST = Integer.MIN_VALUE;
    static final int HIGHEST = Integer.MAX_VALUE;
    static final int NONE = -1;

    private static final Path DOCUMENT = Path.of("../shared/DOC.md");
    private static final Set<String> NAMED = new TreeSet<>();
    private static int tests = 0;
    private static int failed = 0;

    private Edge() {
    }

    interface Body {
        void run();
    }

    /** Runs one test; the sentence must stand in the document, under that promise or under the terms. */
    static void test(String heading, String sentence, Body body) {
        tests++;
        NAMED.add(heading);
        String name = heading + ", \"" + sentence + "\"";
        int wrong = Check.wrong();
        if (Files.exists(DOCUMENT)) {
            Check.due("whether the document has, under " + heading + ", the words \"" + sentence + "\"",
                    section(heading).contains(sentence), true);
        }
        int asked = Check.asked();
        body.run();
        Check.due("whether a test has answers of its own", Check.asked() > asked, true);
        if (Check.wrong() > wrong) {
            failed++;
            System.out.println("BROKEN: " + name);
        }
    }

    static void test(int promise, String sentence, Body body) {
        test("Promise " + promise, sentence, body);
    }

    static void finish() {
        Check.due("whether the terms are tested", NAMED.contains(TERMS), true);
        for (int promise = 1; promise <= 24; promise++) {
            Check.due("whether promise " + promise + " is tested", NAMED.contains("Promise " + promise), true);
        }
        System.out.println(tests + " sentences tested at their edges, " + failed + " broken");
        Check.finish("EdgeTest");
    }

    /** What the document says under a heading, each row of blanks as one. */
    private static String section(String heading) {
        String all;
        try {
            all = Files.readString(DOCUMENT);
        } catch (IOException e) {
            return "";
        }
        String[] parts = all.split("\n## ");
        for (String part : parts) {
            String title = part.split("\n")[0];
            if (title.equals(heading) || title.startsWith(heading + ":")) {
                return part.replaceAll("\\s+", " ");
            }
        }
        return "";
    }
}
