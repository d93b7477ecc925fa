import java.io.IOException;
import java.nio.file.Files;
import java.nio.file.Path;
import java.util.ArrayList;
import java.util.List;

/** The document's sentences, each with a test of its own, and which of them have none. */
final class Sentences {
    private static final List<String> QUOTES = new ArrayList<>();
    private static int failures;
    private static String current = "";

    private Sentences() {
    }

    /** Tries what this sentence of the document asks. */
    static void says(String quote, Runnable test) {
        QUOTES.add(quote);
        current = quote;
        try {
            test.run();
        } catch (RuntimeException e) {
            fails(e.toString());
        }
    }

    static void fails(String what) {
        failures++;
        if (failures <= 50) {
            System.out.println("\"" + current + "\"\n  " + what);
        }
    }

    static int failures() {
        return failures;
    }

    static int tests() {
        return QUOTES.size();
    }

    private static String plain(String s) {
        return s.replaceAll("\\s+", " ");
    }

    /** What the document promises, without headings, fences and the calls' own forms. */
    private static String promised(Path doc) throws IOException {
        StringBuilder b = new StringBuilder();
        String fence = "";
        for (String line : Files.readAllLines(doc)) {
            if (line.startsWith("## Not promised")) {
                break;
            }
            if (line.startsWith("```")) {
                fence = fence.isEmpty() ? line : "";
            } else if (!line.startsWith("#") && !line.startsWith("Money that is") && !fence.equals("```java")) {
                String form = "`(boolean |int )?[a-zA-Z]+\\([a-z0-9, ]*((int|boolean) [a-z]+,? ?)*\\)`: ";
                b.append(line.replaceAll("^" + form, "").replaceAll("^==== \\d\\. ", "")).append('\n');
            }
        }
        return plain(b.toString());
    }

    /** Each quote must stand in the document, and each sentence of it in some quote. */
    static void compareWith(Path doc) throws IOException {
        current = "the document";
        String text = promised(doc);
        boolean[] told = new boolean[text.length()];
        for (String quote : QUOTES) {
            String q = plain(quote);
            int at = text.indexOf(q);
            while (at >= 0 && told[at + q.length() / 2] && text.indexOf(q, at + 1) >= 0) {
                at = text.indexOf(q, at + 1);
            }
            if (at < 0) {
                fails("this is no sentence of it: " + quote);
            }
            for (int i = Math.max(at, 0); at >= 0 && i < at + q.length(); i++) {
                told[i] = true;
            }
        }
        for (int i = 0; i < text.length(); i++) {
            int stop = i;
            while (stop < text.length() && !told[stop]) {
                stop++;
            }
            String rest = text.substring(i, stop);
            if (rest.matches("(?s).*[A-Za-z0-9].*")) {
                fails("no test tries this: " + rest);
            }
            i = Math.max(i, stop);
        }
    }
}
