import java.io.IOException;
import java.lang.reflect.Method;
import java.lang.reflect.Modifier;
import java.nio.file.Files;
import java.nio.file.Path;
import java.util.regex.Matcher;
import java.util.regex.Pattern;

/** What README.md tells of the class: its calls, with the answers behind them, and that it names them all. */
public final class ReadmeTest {
    private static final Pattern CALL = Pattern.compile("paper\\.(\\w+)\\(([^)]*)\\); +// (-?\\d+|true|false)\\b");

    private ReadmeTest() { }

    public static void main(String[] args) throws IOException {
        String page = Files.readString(Path.of("README.md"));
        GluedPaper paper = new GluedPaper();
        int told = 0;
        int wrong = 0;
        Matcher call = CALL.matcher(page);
        while (call.find()) {
            told++;
            long got = Calls.on(paper, Calls.number(call.group(1)), arguments(call.group(2)));
            if (got != number(call.group(3))) {
                wrong++;
                System.out.println(call.group() + ": is " + got);
            }
        }
        for (Method method : GluedPaper.class.getDeclaredMethods()) {
            if (Modifier.isPublic(method.getModifiers()) && !page.contains("`" + method.getName() + "`")) {
                wrong++;
                System.out.println("README.md does not name " + method.getName());
            }
        }
        System.out.println(told + " answers in README.md, " + wrong + " are wrong");
        if (wrong > 0 || told < 20) {
            System.exit(1);
        }
    }

    private static long[] arguments(String list) {
        if (list.isBlank()) {
            return new long[0];
        }
        String[] each = list.split(", ");
        long[] numbers = new long[each.length];
        for (int i = 0; i < each.length; i++) {
            numbers[i] = number(each[i].replace("L", ""));
        }
        return numbers;
    }

    private static long number(String text) {
        if (text.equals("true") || text.equals("false")) {
            return text.equals("true") ? 1 : 0;
        }
        return text.startsWith("0x") ? Long.parseUnsignedLong(text.substring(2), 16) : Long.parseLong(text);
    }
}
