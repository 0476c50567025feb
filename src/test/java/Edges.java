import java.nio.file.Files;
import java.nio.file.Path;

/**
 * What the tests of boundary cases have in common. A case begins with the promise's number and the sentence of the
 * document that names it; both stand in front of each answer that is not as due, and the sentence must be found in
 * the document, in the section that is told.
 */
abstract class Edges {
    static final int NONE = -1, BAD = -2, NOT = -3, FULL = -4;
    static final int NULL = -11, INDEX = -12, CAST = -13, STORE = -14, SIZE = -15;
    static final int LEAST = Integer.MIN_VALUE, MOST = Integer.MAX_VALUE;

    /** Ten pegs one behind the other, so that a way is the difference of two numbers. */
    static final String TEN = "00;01;02;03;04;05;06;07;08;09";
    static final String NINE = "00;01;02;03;04;05;06;07;08";

    private static Document document = null;
    private static String words = "";
    private static int cases = 0;

    /** Without the document (a checkout alone) the cases are asked all the same, but no sentence is looked up. */
    static void read(Path file) throws Exception {
        if (Files.isRegularFile(file)) {
            document = new Document(file);
        } else {
            System.out.println("no " + file + ": sentences are not looked up");
        }
    }

    /** Begins a case that the promise's own section names. */
    static void of(int promise, String sentence) {
        section(promise, "Promise " + promise, sentence);
    }

    /** Begins a case of a promise that the section "Terms" names. */
    static void terms(int promise, String sentence) {
        section(promise, "Terms", sentence);
    }

    /** Begins a case of a promise that the section "What it is" names. */
    static void whatItIs(int promise, String sentence) {
        section(promise, "What it is", sentence);
    }

    /** Begins a case of a promise that the section with this heading names. */
    static void section(int promise, String section, String sentence) {
        cases++;
        words = "promise " + promise + ", " + section + ", \"" + sentence + "\": ";
        if (document != null) {
            Check.holds(words + "stands in the document", document.says(section, sentence));
        }
    }

    /** A new object of this case, with a text typed into it. */
    static Run run(String text) {
        return new Run(words).type(text);
    }

    static void due(String what, long got, long want) {
        Check.due(words + what, got, want);
    }

    static String call(String name, int... arguments) {
        return Run.call(name, arguments);
    }

    /** Holds that every word of the terms and of all promises was named by a case. */
    static void allNamed() {
        System.out.println(cases + " boundary cases");
        if (document == null) {
            return;
        }
        document.leaveOut("Terms", "Ahead of the calls .*? the interface says: ---- [a-z, ]+\\.");
        // The words ahead of the first chapter tell what the others say again.
        document.leaveOut("What it is", "Woven by spiders.*?======== 1 ");
        document.leaveOut("Terms", "======== [234] ");
        holdNamed("What it is");
        holdNamed("Terms");
        for (int promise = 1; promise <= 34; promise++) {
            document.leaveOut("Promise " + promise, "`[^`]*`:");
            holdNamed("Promise " + promise);
        }
    }

    private static void holdNamed(String section) {
        String rest = document.unnamed(section);
        Check.holds("no boundary case names, of " + section + ": " + rest, rest.isEmpty());
    }
}
