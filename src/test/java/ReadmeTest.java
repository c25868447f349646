import java.nio.file.Files;
import java.nio.file.Path;
import java.util.regex.Matcher;
import java.util.regex.Pattern;

/** What README.md shows is so: each call of its example that tells an answer answers that, in its order. */
public final class ReadmeTest {
    private static final Check C = new Check("ReadmeTest");
    private static final Pattern BLOCK = Pattern.compile("(?s)```java\n(.*?)```");
    private static final Pattern TEXT = Pattern.compile("String text = \"([^\"]*)\";");
    private static final Pattern CALL = Pattern.compile("x\\.(\\w+)\\(([^;]*)\\);(?:\\s*// (-?\\d+):)?");

    public static void main(String[] args) throws Exception {
        String readme = Files.readString(Path.of(System.getProperty("readme", "README.md")));
        String block = first(BLOCK, readme);
        String text = first(TEXT, block);
        PageDesks x = new PageDesks();
        int told = 0;
        for (String line : block.split("\n")) {
            Matcher call = CALL.matcher(line);
            if (call.find()) {
                told += call.group(3) == null ? 0 : 1;
                follow(x, text, call);
            }
        }
        C.due("the example tells some answers", told >= 12 ? 1 : 0, 1);
        C.end();
    }

    /** The one call that stands in a loop is done for each code of the text. */
    private static void follow(PageDesks x, String text, Matcher call) {
        if (call.group(2).contains("charAt(i)")) {
            for (int i = 0; i < text.length(); i++) {
                C.due("put " + i, x.put(0, i, text.charAt(i)), 1);
            }
            return;
        }
        String numbers = call.group(2).replace("text.length()", "" + text.length()).replace(",", "");
        String told = call.group(1) + " " + numbers;
        long got = Calls.of(x, told.trim());
        if (call.group(3) == null) {
            C.due(told + " is taken", got >= 0 ? 1 : 0, 1);
        } else {
            C.due(told, got, Long.parseLong(call.group(3)));
        }
    }

    private static String first(Pattern pattern, String in) {
        Matcher m = pattern.matcher(in);
        if (!m.find()) {
            throw new IllegalStateException("README.md has no " + pattern);
        }
        return m.group(1);
    }
}
