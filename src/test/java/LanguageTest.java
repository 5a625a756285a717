import java.io.IOException;
import java.lang.reflect.Field;
import java.lang.reflect.Method;
import java.lang.reflect.Modifier;
import java.nio.file.Files;
import java.nio.file.Path;
import java.util.ArrayList;
import java.util.HashMap;
import java.util.List;
import java.util.Map;
import java.util.Set;
import java.util.TreeMap;
import java.util.TreeSet;
import java.util.regex.Matcher;
import java.util.regex.Pattern;

/** The rules of LANGUAGE.md that can be looked at from outside: the face, and what the source holds. */
public final class LanguageTest {
    private static final String FACE = "row(int,int) lay(int,int,int) at(int,int) tear(int) copy(int,int,int,int,int) mean(int) "
        + "text(int,int) put(int,int,int) fault(int) book(int) sum(int,int,int) total(int,int) clear() heap(int) read(int,int) kind(int) "
        + "mark(int,int) left(int,int) ends(int) may(int,int) burnt() count(int) fill(int,int,int) could(int,int,int) must(int,int) "
        + "sure(int) like(int,int,int) wrong(int) next(int) judge(int) orders(int) matches() asked() upper() lower() there(int) "
        + "finding() findings(int) digest()";
    private static final Set<String> LONGS = Set.of("upper()", "lower()", "digest()");
    private static int wrong = 0;

    private static void check(boolean right, String what) {
        if (!right) {
            wrong++;
            System.out.println("not so: " + what);
        }
    }

    private static String head(Method m) {
        StringBuilder s = new StringBuilder(m.getName()).append('(');
        for (Class<?> p : m.getParameterTypes()) s.append(s.charAt(s.length() - 1) == '(' ? "" : ",").append(p);
        return s.append(')').toString();
    }

    private static void checkFace() {
        Set<String> heads = new TreeSet<>();
        Set<String> names = new TreeSet<>();
        for (Method m : BurntLedger.class.getDeclaredMethods()) {
            if (Modifier.isPrivate(m.getModifiers())) continue;
            heads.add(head(m));
            names.add(m.getName());
            check(Modifier.isPublic(m.getModifiers()) && !Modifier.isStatic(m.getModifiers()), m + " is public");
            check(m.getReturnType() == (LONGS.contains(head(m)) ? long.class : int.class), m + " answers as told");
        }
        check(heads.equals(new TreeSet<>(Set.of(FACE.split(" ")))), "the face is " + FACE);
        check(Modifier.isFinal(BurntLedger.class.getModifiers()), "the class is final");
        check(BurntLedger.class.getDeclaredConstructors().length == 1, "one constructor");
        check(BurntLedger.class.getConstructors().length == 1, "a public constructor");
        Set<String> constants = new TreeSet<>();
        for (Field f : BurntLedger.class.getDeclaredFields()) if (!Modifier.isPrivate(f.getModifiers())) constants.add(f.getName());
        check(constants.equals(Set.of("BAD", "FULL", "FINDING", "STATE", "SPENT", "NONE")), "the constants are " + constants);
        checkNoNameTwice(BurntLedger.class, names);
        for (Class<?> inside : BurntLedger.class.getDeclaredClasses()) checkNoNameTwice(inside, names);
    }

    private static void checkNoNameTwice(Class<?> type, Set<String> names) {
        for (Method m : type.getDeclaredMethods()) {
            boolean own = type == BurntLedger.class && Modifier.isPublic(m.getModifiers());
            check(own || !names.contains(m.getName()), m + " bears the name of a public one");
            check(m.getParameterCount() <= 7, m + " has seven parameters at most");
        }
    }

    private static void checkClasses() {
        Class<?>[] inside = BurntLedger.class.getDeclaredClasses();
        check(inside.length <= 11, "twelve classes at most");
        for (Class<?> type : inside) {
            check(Modifier.isStatic(type.getModifiers()), type + " is static");
            check(!Modifier.isPublic(type.getModifiers()) && !Modifier.isProtected(type.getModifiers()), type + " is private");
            checkFields(type);
        }
        checkFields(BurntLedger.class);
    }

    private static void checkFields(Class<?> type) {
        int own = 0;
        for (Field f : type.getDeclaredFields()) {
            own += Modifier.isStatic(f.getModifiers()) ? 0 : 1;
            if (!Modifier.isStatic(f.getModifiers())) continue;
            check(Modifier.isFinal(f.getModifiers()), f + " is final");
            check(Set.of(int.class, long.class, boolean.class, char.class, String.class, int[].class).contains(f.getType()), f + " is a constant");
        }
        check(own <= 20, type + " has twenty fields at most");
    }

    private static String withoutComments(String source) {
        return source.replaceAll("(?s)/\\*.*?\\*/", "").replaceAll("//[^\n]*", "");
    }

    private static void checkWords(String code) {
        String[] banned = {"\\bthrow", "\\btry\\b", "\\bcatch\\b", "\\bsynchronized\\b", "\\bassert\\b", "->", "::", "\\bimport\\b", "\\bpackage\\b",
            "Exact\\b", "\\bstatic\\s*\\{", "\\bjava\\.", "\\bObject\\b", "\\bdouble\\b", "\\bfloat\\b", "\\bhashCode\\b", "\\btoString\\b", "\\bprotected\\b",
            "\\bSystem\\.(?!arraycopy)", "\\bMath\\.(?!max|min)", "\\bInteger\\.(?!bitCount)"};
        for (String word : banned) {
            Matcher m = Pattern.compile(word).matcher(code);
            check(!m.find(), "no " + word + " in the source");
        }
    }

    /** All objects are made in constructors, so that a run makes no more than its ledgers. */
    private static void checkMakesNothing(String code) {
        Pattern initialiser = Pattern.compile("^ +(private (final )?[\\w\\[\\]]+ |this\\.)\\w+ = new [^;]*;$");
        for (String line : code.split("\n")) {
            if (line.matches(".*\\bnew\\b.*")) check(initialiser.matcher(line).matches(), "an object made outside a field: " + line);
        }
    }

    private static void checkMethodsAreShort(String code) {
        String name = "";
        int begun = 0;
        String[] lines = code.split("\n", -1);
        for (int i = 0; i < lines.length; i++) {
            Matcher m = Pattern.compile("^ {4,8}(?!private static final class)[\\w\\[\\] ]+\\(.*\\) \\{$").matcher(lines[i]);
            if (m.matches()) {
                name = lines[i].trim();
                begun = i;
            }
            if (lines[i].matches("^ {4,8}\\}$")) check(i - begun < 60 || name.isEmpty() || lines[i].startsWith("    }"), name + " is short");
            check(lines[i].length() <= 120, "line " + i + " is no longer than 120");
        }
    }

    /** Methods by class and name ("Walk.tell"), each with those that it calls. */
    private static Map<String, Set<String>> callsOf(String code) {
        Map<String, String> types = new HashMap<>();
        Matcher declared = Pattern.compile("\\b([A-Z]\\w+) (\\w+)(?= =|,|\\))").matcher(code);
        while (declared.find()) types.put(declared.group(2), declared.group(1));
        Map<String, StringBuilder> bodies = new TreeMap<>();
        String type = "BurntLedger";
        StringBuilder body = new StringBuilder();
        for (String line : code.split("\n")) {
            Matcher inside = Pattern.compile("^ {4}private static final class (\\w+) \\{$").matcher(line);
            Matcher method = Pattern.compile("^ {4,8}(?! )[\\w\\[\\] ]+? (\\w+)\\(.*\\) \\{$").matcher(line);
            if (inside.matches()) type = inside.group(1);
            else if (method.matches()) bodies.put(type + "." + method.group(1), body = new StringBuilder());
            else body.append(line).append('\n');
        }
        Map<String, Set<String>> calls = new TreeMap<>();
        bodies.forEach((caller, lines) -> {
            String own = caller.substring(0, caller.indexOf('.'));
            Matcher call = Pattern.compile("(?:\\b(\\w+)\\.)?\\b(\\w+)\\(").matcher(lines);
            Set<String> called = new TreeSet<>();
            while (call.find()) {
                String to = call.group(1) == null ? own : types.getOrDefault(call.group(1), call.group(1));
                String outer = "BurntLedger." + call.group(2);
                called.add(call.group(1) == null && !bodies.containsKey(to + "." + call.group(2)) ? outer : to + "." + call.group(2));
            }
            called.removeIf(name -> !bodies.containsKey(name) && !name.matches("(Math|Integer|System)\\..*"));
            calls.put(caller, called);
        });
        return calls;
    }

    /** The longest chain of calls from a method on; one that calls itself is counted once. */
    private static List<String> longestChain(String method, Map<String, Set<String>> calls, List<String> ahead) {
        List<String> chain = new ArrayList<>(ahead);
        chain.add(method);
        List<String> longest = chain;
        for (String next : calls.getOrDefault(method, Set.of())) {
            if (chain.contains(next)) continue;
            List<String> longer = longestChain(next, calls, chain);
            if (longer.size() > longest.size()) longest = longer;
        }
        return longest;
    }

    private static void checkDepth(String code) {
        Map<String, Set<String>> calls = callsOf(code);
        check(calls.getOrDefault("Narrowing.narrow", Set.of()).contains("Narrowing.narrowBySum"), "calls of the source are found");
        check(calls.getOrDefault("BurntLedger.fill", Set.of()).contains("Walk.goTo"), "calls of other classes are found");
        for (String method : calls.keySet()) {
            List<String> chain = longestChain(method, calls, List.of());
            check(chain.size() <= 8, "calls go eight deep at most: " + chain);
            if (!calls.get(method).contains(method)) continue;
            check(Set.of("Walk.tell", "Pages.place").contains(method), method + " calls itself: does its depth have an end?");
        }
    }

    public static void main(String[] args) throws IOException {
        String code = withoutComments(Files.readString(Path.of("src/main/java/BurntLedger.java")));
        checkFace();
        checkClasses();
        checkWords(code);
        checkMakesNothing(code);
        checkMethodsAreShort(code);
        checkDepth(code);
        System.out.println(wrong == 0 ? "the source keeps to the rules looked at" : wrong + " rules are broken");
        if (wrong != 0) System.exit(1);
    }
}
