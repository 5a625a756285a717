import java.io.IOException;
import java.lang.reflect.Method;
import java.lang.reflect.Modifier;
import java.nio.file.Files;
import java.nio.file.Path;
import java.util.HashMap;
import java.util.Map;
import java.util.regex.Matcher;
import java.util.regex.Pattern;
import java.util.stream.Stream;

/** README.md holds: its example answers what it says, and each call and each test is named. */
public final class ReadmeTest {
    private static final Pattern TEXT = Pattern.compile("String text = \"(.*)\";");
    private static final Pattern CALL = Pattern.compile("ledger\\.(\\w+)\\(([^()]*(?:\\(\\))?)\\);\\s*// (-?\\d+)\\b.*");

    private static int wrong = 0;
    private static int looked = 0;

    private static void check(boolean right, String what) {
        looked++;
        if (right) return;
        wrong++;
        System.out.println("not so: " + what);
    }

    private static Object number(String told, String text) {
        if (told.equals("text.length()")) return text.length();
        return told.startsWith("0b") ? Integer.parseInt(told.substring(2), 2) : Integer.parseInt(told);
    }

    private static void runExample(String example, Map<String, Method> face) throws ReflectiveOperationException {
        BurntLedger ledger = new BurntLedger();
        String text = "";
        for (String line : example.strip().split("\n")) {
            Matcher told = TEXT.matcher(line);
            Matcher call = CALL.matcher(line);
            if (told.matches()) {
                text = told.group(1);
            } else if (line.startsWith("for ")) {
                for (int i = 0; i < text.length(); i++) ledger.put(0, i, text.charAt(i));
            } else if (call.matches()) {
                String[] args = call.group(2).isEmpty() ? new String[0] : call.group(2).split(", ");
                Object[] given = new Object[args.length];
                for (int i = 0; i < args.length; i++) given[i] = number(args[i], text);
                long got = ((Number) face.get(call.group(1)).invoke(ledger, given)).longValue();
                check(got == Long.parseLong(call.group(3)), line + " answered " + got);
            } else {
                check(line.equals("BurntLedger ledger = new BurntLedger();"), "a line of the example that can be run: " + line);
            }
        }
    }

    public static void main(String[] args) throws IOException, ReflectiveOperationException {
        String page = Files.readString(Path.of("README.md"));
        Map<String, Method> face = new HashMap<>();
        for (Method m : BurntLedger.class.getDeclaredMethods()) {
            if (Modifier.isPublic(m.getModifiers())) face.put(m.getName(), m);
        }
        for (String name : face.keySet()) check(page.contains("`" + name + "`"), name + " is named");
        try (Stream<Path> tests = Files.list(Path.of("src/test/java"))) {
            for (Path test : (Iterable<Path>) tests::iterator) {
                String name = test.getFileName().toString().replace(".java", "");
                if (name.endsWith("Test")) check(page.contains("- `" + name + "`:"), name + " is named");
            }
        }
        Matcher example = Pattern.compile("(?s)```java\n(.*?)```").matcher(page);
        check(example.find(), "there is an example");
        runExample(example.group(1), face);
        System.out.println(looked + " things of README.md looked at, " + wrong + " are not as due");
        if (wrong != 0) System.exit(1);
    }
}
