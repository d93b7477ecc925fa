import java.io.IOException;
import java.nio.file.Files;
import java.nio.file.Path;
import java.util.regex.Matcher;
import java.util.regex.Pattern;

/** The calls that README.md shows answer what stands behind them, and the page names each call of the face. */
public final class ReadmeTest {
    private static final Pattern CALL = Pattern.compile("x\\.(\\w+)\\(([^)]*)\\);\\s*// (-?\\w+)(:.*)?");

    private static int shown;

    private static String plain(String number) {
        String s = number.trim();
        return s.startsWith("0x") ? "" + Integer.parseUnsignedInt(s.substring(2), 16) : s;
    }

    private static int due(String told) {
        return told.equals("true") ? 1 : told.equals("false") ? 0 : Integer.parseInt(told);
    }

    private static void follow(Run x, String line) {
        Matcher m = CALL.matcher(line);
        if (!m.matches()) {
            if (!line.isBlank() && !line.startsWith("//") && !line.startsWith("NowhereMoney x = ")) {
                Sentences.fails("README.md shows what is no call with its answer: " + line);
            }
            return;
        }
        StringBuilder call = new StringBuilder(m.group(1));
        for (String number : m.group(2).isEmpty() ? new String[0] : m.group(2).split(",")) {
            call.append(' ').append(plain(number));
        }
        x.is(call.toString(), due(m.group(3)));
        shown++;
    }

    public static void main(String[] args) throws IOException {
        String page = Files.readString(Path.of("README.md"));
        int start = page.indexOf("```java\n") + 8;
        int stop = page.indexOf("```", start);
        Run x = new Run();
        for (String line : page.substring(start, stop).split("\n")) {
            follow(x, line);
        }
        if (shown < 30) {
            Sentences.fails("README.md shows " + shown + " calls alone");
        }
        StringBuilder table = new StringBuilder();
        for (String line : page.split("\n")) {
            table.append(line.startsWith("| ") ? line.substring(line.lastIndexOf('|', line.length() - 2)) : "");
        }
        for (String name : Run.names()) {
            if (!Pattern.compile("\\b" + name + "\\b").matcher(table).find()) {
                Sentences.fails("README.md does not name " + name);
            }
        }
        System.out.println(Sentences.failures() == 0 ? "README.md shows " + shown + " calls as they are answered"
            : "README.md is not as the class is");
        if (Sentences.failures() != 0) {
            System.exit(1);
        }
    }
}
