import java.lang.reflect.InvocationTargetException;
import java.lang.reflect.Method;
import java.lang.reflect.Modifier;
import java.util.ArrayList;
import java.util.Arrays;
import java.util.HashMap;
import java.util.List;
import java.util.Map;
import java.util.regex.Matcher;
import java.util.regex.Pattern;

/**
 * Calls on an object, told as lines of text, each with what is due. The lines:
 * <pre>
 *   lay(0, 3, MAX) = 1               a call and its answer
 *   ends(b) = 3 asked 9              .. and what asked() tells behind it
 *   could(b, 3, 99) = 2 share 1/4    .. and what upper() and lower() tell behind it
 *   row(0, -1) = SIZE                refused with a FINDING: it is told and counted, nothing else changes
 *   row(6, 1) = BAD                  BAD, FULL, STATE, SPENT, NONE: nothing changes at all
 *   repeat 9 tear(0) = NOTHING       a line nine times
 *   text 0 'a# b[1,2]'               a TEXT with these signs
 *   book 'a# b[1,2]'                 .. in TEXT 3, and THE BOOK by it
 *   lay 0: 4 5 6                     a ROW with these numbers
 *   heap 4 5 6                       .. in ROW 5, and THE HEAP by it
 *   row 0 is 4 5 6                   what a ROW holds
 *   left b is 3 5..9                 what is left of a CELL, NARROWED: all of that and no more
 *   fillings 1 2 | 1 3               all FILLINGS in order, of the CELLS that are there (by ROW 4)
 *   constant BAD = -1                a constant of the class
 *   new                              another object
 * </pre>
 * Cells go by letters, sets of them by {letters}; all that is behind -- is a remark.
 */
final class Script {
    /** The document says nothing of an object behind these calls, so no test may ask more of one. */
    private static final int CALLS = 512;
    private static final List<String> FINDINGS = List.of("", "NOTHING", "BEYOND", "UNLIKE", "NOUGHT", "SIZE");
    private static final List<String> REFUSALS = List.of("BAD", "FULL", "STATE", "SPENT", "NONE");
    private static final Map<String, Long> WORDS = Map.of("BAD", -1L, "FULL", -2L, "FINDING", -3L, "STATE", -4L, "SPENT", -6L,
        "NONE", -9L, "MIN", (long) Integer.MIN_VALUE, "MAX", (long) Integer.MAX_VALUE);
    private static final Map<String, Method> METHODS = methods();
    private static final Pattern CALL = Pattern.compile("(\\w+)\\((.*)\\) = (\\S+)(?: asked (\\S+))?(?: share (\\d+)/(\\d+))?");
    private static final Pattern TEXT = Pattern.compile("text (\\d) '(.*)'");
    private static final Pattern BOOK = Pattern.compile("book '(.*)'");
    private static final Pattern LAY = Pattern.compile("lay (\\d):(.*)");
    private static final Pattern HEAP = Pattern.compile("heap(.*)");
    private static final Pattern ROW = Pattern.compile("row (\\d) is(.*)");
    private static final Pattern LEFT = Pattern.compile("left ([a-l]) is (.*)");
    private static final Pattern FILLINGS = Pattern.compile("fillings (.*)");
    private static final Pattern REPEAT = Pattern.compile("repeat (\\d+) (.*)");
    private static final Pattern CONSTANT = Pattern.compile("constant (\\w+) = (\\S+)");

    private final List<String> wrongs = new ArrayList<>();
    private BurntLedger ledger = new BurntLedger();
    private int calls = 0;
    private String line = "";
    /** What was told behind the latest refusal, as long as no other call came since. */
    private long[] known = null;

    private static Map<String, Method> methods() {
        Map<String, Method> found = new HashMap<>();
        for (Method m : BurntLedger.class.getDeclaredMethods()) {
            if (Modifier.isPublic(m.getModifiers())) found.put(m.getName(), m);
        }
        return found;
    }

    /** What is not as due, a line each. */
    static List<String> run(String lines) {
        Script script = new Script();
        for (String line : lines.split("\n")) {
            int remark = line.indexOf("--");
            String bare = (remark < 0 ? line : line.substring(0, remark)).strip();
            if (!bare.isEmpty()) script.obey(bare);
        }
        return script.wrongs;
    }

    private void obey(String wanted) {
        line = wanted;
        Matcher m;
        if (wanted.equals("new")) makeNew();
        else if ((m = REPEAT.matcher(wanted)).matches()) repeat(Integer.parseInt(m.group(1)), m.group(2));
        else if ((m = CALL.matcher(wanted)).matches()) dueCall(m);
        else if ((m = TEXT.matcher(wanted)).matches()) write(Integer.parseInt(m.group(1)), m.group(2));
        else if ((m = BOOK.matcher(wanted)).matches()) book(m.group(1));
        else if ((m = LAY.matcher(wanted)).matches()) lay(Integer.parseInt(m.group(1)), numbers(m.group(2)));
        else if ((m = ROW.matcher(wanted)).matches()) dueRow(Integer.parseInt(m.group(1)), numbers(m.group(2)));
        else if ((m = LEFT.matcher(wanted)).matches()) dueLeft(m.group(1).charAt(0) - 'a', numbers(m.group(2)));
        else if ((m = FILLINGS.matcher(wanted)).matches()) dueFillings(m.group(1));
        else if ((m = CONSTANT.matcher(wanted)).matches()) dueConstant(m.group(1), m.group(2));
        else if ((m = HEAP.matcher(wanted)).matches()) heap(numbers(m.group(1)));
        else throw new IllegalArgumentException("no line of a script: " + wanted);
    }

    private void repeat(int times, String what) {
        for (int k = 0; k < times; k++) obey(what);
    }

    private void makeNew() {
        ledger = new BurntLedger();
        calls = 0;
        known = null;
    }

    private void due(String what, long got, long want) {
        if (got != want) wrongs.add(line + ": " + what + " answered " + got + ", due is " + want);
    }

    private long call(String name, long... args) {
        calls++;
        if (calls > CALLS) throw new IllegalStateException("more calls on an object than are told of: " + line);
        Object[] given = new Object[args.length];
        for (int i = 0; i < args.length; i++) given[i] = (int) args[i];
        try {
            return ((Number) METHODS.get(name).invoke(ledger, given)).longValue();
        } catch (InvocationTargetException | IllegalAccessException e) {
            wrongs.add(line + ": " + name + Arrays.toString(args) + " threw " + e.getCause());
            return Long.MIN_VALUE;
        }
    }

    /** A number, a word for one, a CELL's letter, a set of letters, or two of these added. */
    private static long number(String told) {
        int plus = told.indexOf('+');
        if (plus > 0) return number(told.substring(0, plus)) + number(told.substring(plus + 1));
        if (WORDS.containsKey(told)) return WORDS.get(told);
        if (told.matches("[a-l]")) return told.charAt(0) - 'a';
        if (!told.matches("\\{[a-l]*\\}")) return Long.parseLong(told);
        long bits = 0;
        for (int i = 1; i < told.length() - 1; i++) bits |= 1L << told.charAt(i) - 'a';
        return bits;
    }

    private static long[] numbers(String told) {
        List<Long> all = new ArrayList<>();
        for (String part : told.strip().split("[ ,]+")) {
            if (part.isEmpty() || part.equals("none")) continue;
            int dots = part.indexOf("..");
            long from = number(dots < 0 ? part : part.substring(0, dots));
            long to = dots < 0 ? from : number(part.substring(dots + 2));
            for (long v = from; v <= to; v++) all.add(v);
        }
        return all.stream().mapToLong(Long::longValue).toArray();
    }

    private void dueCall(Matcher m) {
        String name = m.group(1);
        long[] args = numbers(m.group(2));
        String answer = m.group(3);
        if (FINDINGS.contains(answer)) {
            dueRefused(name, args, -3, FINDINGS.indexOf(answer));
        } else if (REFUSALS.contains(answer)) {
            dueRefused(name, args, number(answer), 0);
        } else {
            known = null;
            due(name + "()", call(name, args), number(answer));
            if (m.group(4) != null) due("asked()", call("asked"), number(m.group(4)));
            if (m.group(5) != null) {
                due("upper()", call("upper"), number(m.group(5)));
                due("lower()", call("lower"), number(m.group(6)));
            }
        }
    }

    private long[] told() {
        long[] told = new long[10];
        told[0] = call("finding");
        for (int f = 1; f <= 5; f++) told[f] = call("findings", f);
        told[6] = call("asked");
        told[7] = call("upper");
        told[8] = call("lower");
        told[9] = call("digest");
        return told;
    }

    private void dueRefused(String name, long[] args, long answer, int finding) {
        long[] before = known == null ? told() : known;
        due(name + "()", call(name, args), answer);
        long[] behind = told();
        String[] names = {"finding()", "findings(1)", "findings(2)", "findings(3)", "findings(4)", "findings(5)", "asked()", "upper()",
            "lower()", "digest()"};
        long[] want = before.clone();
        if (finding > 0) {
            want[0] = finding;
            want[finding]++;
        }
        for (int i = 0; i < names.length; i++) due("then " + names[i], behind[i], want[i]);
        known = behind;
    }

    private void write(int t, String text) {
        known = null;
        due("text()", call("text", t, text.length()), text.length());
        for (int i = 0; i < text.length(); i++) {
            if (text.charAt(i) != ' ') due("put()", call("put", t, i, text.charAt(i)), 1032);
        }
    }

    private void book(String text) {
        write(3, text);
        long letters = text.chars().filter(s -> s >= 'a' && s <= 'l').count();
        long cells = call("book", 3);
        if (cells < 0 || cells > letters) due("book()", cells, letters);
    }

    private void lay(int r, long... told) {
        known = null;
        due("row()", call("row", r, told.length), told.length);
        for (int i = 0; i < told.length; i++) due("lay()", call("lay", r, i, told[i]), 1);
    }

    private void heap(long... told) {
        lay(5, told);
        due("heap()", call("heap", 5), told.length);
    }

    private void dueRow(int r, long... told) {
        known = null;
        for (int i = 0; i < told.length; i++) {
            due("at(" + r + ", " + i + ")", call("at", r, i), 1);
            due("then asked()", call("asked"), told[i]);
        }
        due("at(" + r + ", " + told.length + ")", call("at", r, told.length), -3);
        due("then finding()", call("finding"), 2);
    }

    /** As many as told, and all that are told: so they are the same. */
    private void dueLeft(int c, long... told) {
        known = null;
        due("left()", call("left", c, 1), told.length);
        for (long v : told) due("may(" + v + ")", call("may", c, v), 1);
        if (told.length == 0) {
            due("ends()", call("ends", c), -9);
            return;
        }
        long least = told[0];
        long greatest = told[told.length - 1];
        due("ends()", call("ends", c), least);
        due("then asked()", call("asked"), greatest);
        if (least > 0) due("may(" + (least - 1) + ")", call("may", c, least - 1), 0);
        if (greatest < 99) due("may(" + (greatest + 1) + ")", call("may", c, greatest + 1), 0);
    }

    private void dueFillings(String told) {
        known = null;
        String[] each = told.equals("none") ? new String[0] : told.split("\\|");
        due("count()", call("count", 20000), each.length);
        for (int i = 0; i < each.length; i++) {
            due("fill(" + i + ")", call("fill", i, 4, 20000), 1);
            dueFilling(i, numbers(each[i]));
        }
        due("fill(" + each.length + ")", call("fill", each.length, 4, 20000), -9);
    }

    private void dueFilling(int i, long[] want) {
        int next = 0;
        for (int c = 0; c < 12; c++) {
            boolean there = call("kind", c) >= 0;
            call("at", 4, c);
            due("filling " + i + ", CELL " + c, call("asked"), there && next < want.length ? want[next] : -1);
            next += there ? 1 : 0;
        }
        due("CELLS of filling " + i, next, want.length);
    }

    private void dueConstant(String name, String value) {
        try {
            due(name, BurntLedger.class.getField(name).getInt(null), number(value));
        } catch (ReflectiveOperationException e) {
            wrongs.add(line + ": no such constant");
        }
    }
}
