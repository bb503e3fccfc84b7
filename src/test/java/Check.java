import java.io.IOException;
import java.nio.file.Files;
import java.nio.file.Path;
import java.util.ArrayList;
import java.util.List;

/** What all tests of the project share: a due answer, a town from a text, the end with its exit code. */
final class Check {
    private static final Path DOCUMENT = Path.of("../shared/DOC.md");
    private static final List<String> QUOTED = new ArrayList<>();
    private static int wrong = 0;
    private static int asked = 0;
    private static String sentence = "";

    private Check() {
    }

    /** The words of the document from which the answers that are due from here on follow. */
    static void says(String words) {
        sentence = " (the document: " + words + ")";
        QUOTED.add(words);
    }

    static void due(String call, long got, long want) {
        asked++;
        if (got != want) {
            wrong++;
            System.out.println(call + " answered " + got + ", due is " + want + sentence);
        }
    }

    static void isTrue(String what, boolean holds) {
        due(what, holds ? 1 : 0, 1);
    }

    static void write(ShutterTown town, String text) {
        for (int at = 0; at < text.length(); at++) {
            town.write(text.charAt(at));
        }
    }

    /** A new object with that TEXT, which is not THE TOWN yet. */
    static ShutterTown text(String text) {
        ShutterTown town = new ShutterTown();
        write(town, text);
        return town;
    }

    /** A new object whose TOWN is the text. */
    static ShutterTown town(String text) {
        ShutterTown town = text(text);
        due("town() of " + text, town.town(), text.length() / 6 - 1);
        return town;
    }

    static void end(String test) {
        quotesStandInTheDocument();
        System.out.println(test + ": " + asked + " answers, " + wrong + " not as due");
        if (wrong != 0) {
            System.exit(1);
        }
    }

    /** So that a sentence that the document no longer says is not tested on. */
    private static void quotesStandInTheDocument() {
        sentence = "";
        if (QUOTED.isEmpty() || !Files.exists(DOCUMENT)) {
            return;
        }
        try {
            String document = Files.readString(DOCUMENT).replaceAll("\\s+", " ");
            for (String words : QUOTED) {
                isTrue("in the document: " + words, document.contains(words));
            }
        } catch (IOException unread) {
            isTrue("the document can be read: " + unread, false);
        }
    }
}
