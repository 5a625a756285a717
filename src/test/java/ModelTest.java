import java.lang.reflect.Method;
import java.util.HashMap;
import java.util.Map;
import java.util.Random;

/** Long runs of calls, drawn by fixed seeds, on BurntLedger and on PlainLedger: all answers are alike. */
public final class ModelTest {
    private static final Map<String, Method> CLASS_METHODS = methodsOf(BurntLedger.class);
    private static final Map<String, Method> MODEL_METHODS = methodsOf(PlainLedger.class);
    private static final String[] TOLD = {"asked", "upper", "lower", "finding", "digest"};

    private final Random random;
    private final int seed;
    private final StringBuilder log = new StringBuilder();
    private final BurntLedger ledger = new BurntLedger();
    private final PlainLedger model = new PlainLedger();
    private boolean differs = false;
    /** A FILLING of the latest planted book (-1: no CELL), so that SUMS can be written that come out. */
    private final int[] planted = new int[12];

    private ModelTest(int seed) {
        this.seed = seed;
        this.random = new Random(seed);
        java.util.Arrays.fill(planted, -1);
    }

    private static Map<String, Method> methodsOf(Class<?> type) {
        Map<String, Method> found = new HashMap<>();
        for (Method m : type.getDeclaredMethods()) {
            if (!java.lang.reflect.Modifier.isPrivate(m.getModifiers())) {
                m.setAccessible(true);
                found.put(m.getName(), m);
            }
        }
        return found;
    }

    private long ask(String name, Integer... args) {
        try {
            long got = ((Number) CLASS_METHODS.get(name).invoke(ledger, (Object[]) args)).longValue();
            long want = ((Number) MODEL_METHODS.get(name).invoke(model, (Object[]) args)).longValue();
            log.append(name).append(java.util.Arrays.toString(args)).append(" = ").append(got).append('\n');
            if (got != want && !differs) {
                differs = true;
                System.out.println("seed " + seed + ": " + name + java.util.Arrays.toString(args)
                        + " answered " + got + ", due is " + want + ", behind\n" + log);
            }
            return got;
        } catch (ReflectiveOperationException e) {
            throw new IllegalStateException("seed " + seed + " " + name + " behind\n" + log, e);
        }
    }

    private int upTo(int n) {
        return random.nextInt(n + 1);
    }

    private boolean oneIn(int n) {
        return random.nextInt(n) == 0;
    }

    /** Mostly from .. to, now and then a little or far beyond. */
    private int about(int from, int to) {
        if (oneIn(25)) return from - 1;
        if (oneIn(25)) return to + 1;
        if (oneIn(60)) return random.nextInt();
        return from + random.nextInt(to - from + 1);
    }

    private int turns() {
        if (oneIn(4)) return 1 + upTo(40);
        return oneIn(6) ? 20000 : oneIn(30) ? about(1, 20000) : 1 + upTo(1500);
    }

    private char letter() {
        return (char) ('a' + upTo(11));
    }

    private String span(int width) {
        int from = upTo(99);
        int to = Math.min(99, from + upTo(width));
        if (oneIn(40)) to = upTo(99);
        return from + "," + to;
    }

    private char figureSign() {
        return oneIn(3) ? '?' : oneIn(3) ? 'x' : (char) ('0' + upTo(9));
    }

    private char otherLetter(char own, String known) {
        char c = known.isEmpty() || oneIn(12) ? letter() : known.charAt(random.nextInt(known.length()));
        return c == own && !oneIn(60) ? (char) ('a' + (own - 'a' + 1) % 12) : c;
    }

    private String item(char own, String known) {
        switch (random.nextInt(9)) {
            case 0: return own + "=" + figureSign() + (oneIn(3) ? "" : figureSign());
            case 1: return own + "*" + otherLetter(own, known) + otherLetter(own, known);
            case 2: case 3: return own + "#";
            case 4: case 5: return own + ">" + otherLetter(own, known);
            case 6: return own + "~" + span(8);
            default: return own + "[" + (oneIn(3) ? upTo(3) + "," + (3 + upTo(9)) : span(oneIn(8) ? 99 : 12)) + "]";
        }
    }

    private String bookText() {
        StringBuilder text = new StringBuilder();
        StringBuilder known = new StringBuilder();
        int items = oneIn(15) ? 0 : 1 + upTo(oneIn(4) ? 11 : 5);
        for (int k = 0; k < items; k++) {
            char own = oneIn(5) ? letter() : (char) ('a' + k);
            text.append(item(own, known.toString()));
            known.append(own);
            for (int blanks = oneIn(4) ? upTo(2) : 0; blanks > 0; blanks--) text.append(' ');
        }
        if (oneIn(5) && text.length() > 0) spoil(text);
        if (text.length() > 60) text.setLength(60);
        return text.toString();
    }

    private void spoil(StringBuilder text) {
        String signs = "[],=?x*#>~ 0189almb" + (char) 200 + (char) 0;
        int place = random.nextInt(text.length());
        char sign = signs.charAt(random.nextInt(signs.length()));
        if (oneIn(3)) text.setCharAt(place, sign);
        else if (oneIn(2)) text.insert(place, sign);
        else text.setLength(place);
    }

    private int cell() {
        for (int tries = 0; tries < 20 && !oneIn(15); tries++) {
            int c = upTo(11);
            if (planted[c] >= 0) return c;
        }
        return about(0, 11);
    }

    /** A number of a CELL's, mostly one that it can have. */
    private int numberFor(int c) {
        boolean known = c >= 0 && c < 12 && planted[c] >= 0;
        return known && !oneIn(3) ? Math.max(0, Math.min(99, planted[c] + (oneIn(2) ? 0 : upTo(2) - 1))) : about(0, 99);
    }

    private int there() {
        int bits = 0;
        for (int c = 0; c < 12; c++) bits |= planted[c] >= 0 ? 1 << c : 0;
        return bits;
    }

    private int someCells() {
        int bits = random.nextInt(4096) & (oneIn(2) ? 4095 : random.nextInt(4096));
        return oneIn(6) ? bits : bits & there();
    }

    private String plantedItem(char own, int v) {
        int low = Math.max(0, v - upTo(4));
        int high = Math.min(99, v + upTo(oneIn(9) ? 60 : 4));
        switch (random.nextInt(8)) {
            case 0:
                char units = oneIn(3) ? '?' : v % 10 == 3 || v % 10 == 8 ? 'x' : (char) ('0' + v % 10);
                char tens = oneIn(3) ? '?' : v / 10 == 3 || v / 10 == 8 ? 'x' : (char) ('0' + v / 10);
                return own + "=" + (v < 10 && oneIn(2) ? "" : tens) + units;
            case 1: case 2: return own + "#";
            case 3: return own + "~" + (v == 0 ? upTo(9) + "," + (9 + upTo(5)) : low + "," + high);
            case 4: case 5: {
                for (int tries = 0; tries < 30; tries++) {
                    int other = upTo(11);
                    if (planted[other] >= 0 && planted[other] < v) return own + ">" + (char) ('a' + other);
                }
                break;
            }
            case 6: case 7: {
                for (int tries = 0; tries < 30; tries++) {
                    int a = upTo(11);
                    int b = oneIn(4) ? a : upTo(11);
                    if (a != own - 'a' && b != own - 'a' && planted[a] >= 0 && planted[b] >= 0 && planted[a] * planted[b] == v) {
                        return own + "*" + (char) ('a' + a) + (char) ('a' + b);
                    }
                }
                break;
            }
            default: break;
        }
        return own + "[" + low + "," + high + "]";
    }

    private int plantedNumber(int c) {
        for (int tries = 0; tries < 12; tries++) {
            int a = upTo(11);
            int b = oneIn(4) ? a : upTo(11);
            boolean product = a != c && b != c && planted[a] >= 0 && planted[b] >= 0 && planted[a] * planted[b] < 100;
            if (product) return planted[a] * planted[b];
        }
        return oneIn(4) ? upTo(99) : upTo(9);
    }

    /** A book and a heap that have at least one FILLING. */
    private void plantBook() {
        java.util.Arrays.fill(planted, -1);
        int many = 1 + upTo(oneIn(4) ? 11 : 6);
        for (int k = 0; k < many; k++) {
            int c = upTo(11);
            if (planted[c] < 0) planted[c] = plantedNumber(c);
        }
        StringBuilder text = new StringBuilder();
        StringBuilder same = new StringBuilder();
        for (int c = 0; c < 12; c++) {
            if (planted[c] < 0) continue;
            String item = plantedItem((char) ('a' + c), planted[c]);
            text.append(item);
            if (item.endsWith("#")) same.append((char) planted[c]);
        }
        while (same.length() < 12 && !oneIn(3)) same.insert(upTo(same.length()), (char) (oneIn(2) ? upTo(9) : upTo(99)));
        writeText(text.length() > 60 ? text.substring(0, 60) : text.toString());
        int r = upTo(5);
        ask("row", r, same.length());
        for (int i = 0; i < same.length(); i++) ask("lay", r, i, (int) same.charAt(i));
        ask("heap", r);
        if (!oneIn(4)) ask("clear");
    }

    private void writeBook() {
        writeText(bookText());
    }

    private void writeText(String text) {
        int t = upTo(3);
        ask("text", t, text.length());
        for (int i = 0; i < text.length(); i++) {
            if (text.charAt(i) != ' ') ask("put", t, i, (int) text.charAt(i) + (oneIn(50) ? 256 : 0));
        }
        ask("fault", t);
        ask("book", t);
    }

    private void writeHeap() {
        int r = upTo(5);
        int n = oneIn(20) ? 13 : upTo(oneIn(10) ? 12 : 6);
        ask("row", r, n);
        for (int i = 0; i < n; i++) ask("lay", r, i, oneIn(60) ? 100 : oneIn(3) ? upTo(99) : upTo(9));
        ask("heap", r);
    }

    private void writeSum() {
        int plus = someCells();
        int less = oneIn(2) ? 0 : someCells() & ~plus;
        ask("sum", oneIn(30) ? about(0, 4095) : plus, oneIn(30) ? about(0, 4095) : less, oneIn(30) ? about(-999, 9999) : upTo(120) - 20);
    }

    private void writeSumThatFits() {
        int plus = someCells();
        int less = oneIn(2) ? 0 : someCells() & ~plus;
        int total = 0;
        for (int c = 0; c < 12; c++) total += ((plus >> c & 1) - (less >> c & 1)) * Math.max(0, planted[c]);
        ask("sum", plus, less, total + (oneIn(9) ? upTo(4) - 2 : 0));
    }

    private void judgeOne() {
        int r = upTo(5);
        if (oneIn(3)) {
            ask("row", r, oneIn(9) ? 11 : 12);
            for (int c = 0; c < 12; c++) ask("lay", r, c, oneIn(2) ? -1 : upTo(20));
        } else if (ask("fill", upTo(2), r, 20000) == 1 && !oneIn(4)) {
            int c = upTo(11);
            ask("lay", r, c, oneIn(5) ? about(-1, 100) : numberFor(c));
        }
        ask("judge", r);
    }

    private void orderPages() {
        int r = upTo(5);
        int n = oneIn(9) ? upTo(14) : 2 * (1 + upTo(5));
        ask("row", r, n);
        for (int i = 0; i < n; i++) ask("lay", r, i, oneIn(4) ? -9 : oneIn(60) ? about(0, 9999) : upTo(3));
        ask("orders", r);
    }

    private void likeOne() {
        int r = upTo(5);
        ask("row", r, oneIn(20) ? 9 : 10);
        for (int i = 0; i < 10; i++) ask("lay", r, i, oneIn(60) ? about(0, 99) : upTo(5));
        ask("like", r, about(0, 5), turns());
    }

    private void handleRows() {
        switch (random.nextInt(6)) {
            case 0: ask("row", about(0, 5), oneIn(3) ? about(0, 40) : about(0, 5)); break;
            case 1: ask("lay", about(0, 5), about(0, 5), oneIn(2) ? random.nextInt() : upTo(20)); break;
            case 2: ask("at", about(0, 5), about(0, 12)); break;
            case 3: ask("tear", about(0, 5)); break;
            case 4: ask("copy", about(0, 5), about(0, 5), about(0, 5), about(0, 5), about(0, 5)); break;
            default: ask("mean", about(0, 5));
        }
    }

    private void handleTexts() {
        switch (random.nextInt(4)) {
            case 0: ask("text", about(0, 3), about(0, 60)); break;
            case 1: ask("put", about(0, 3), about(0, 30), random.nextInt(400) - 100); break;
            case 2: ask("fault", about(0, 3)); break;
            default: ask("book", about(0, 3));
        }
    }

    private void handleBook() {
        switch (random.nextInt(8)) {
            case 0: ask("total", about(0, 7), about(-50, 150)); break;
            case 1: ask("total", about(0, 7), about(-999, 9999)); break;
            case 2: if (oneIn(2)) ask("clear"); break;
            case 3: if (oneIn(2)) ask("heap", about(0, 5)); break;
            case 4: readOne(); break;
            case 5: ask("kind", cell()); break;
            case 6: ask("there", about(0, 4)); break;
            default: markOne();
        }
    }

    private void markOne() {
        int c = cell();
        for (int kind = 0; kind <= 6; kind++) ask("mark", c, kind);
    }

    private void readOne() {
        int c = cell();
        if (oneIn(3)) ask("read", c, numberFor(c));
    }

    private void askNarrowed() {
        switch (random.nextInt(5)) {
            case 0: ask("left", cell(), about(0, 1)); break;
            case 1: ask("ends", cell()); break;
            case 2: askMay(); break;
            case 3: ask("burnt"); break;
            default: if (model.matchWork() < 1e5) ask("matches");
        }
    }

    private void askMay() {
        int c = cell();
        ask("may", c, numberFor(c));
    }

    private void askCould() {
        int c = cell();
        ask("could", c, numberFor(c), turns());
    }

    private void askFillings() {
        switch (random.nextInt(7)) {
            case 0: ask("count", turns()); break;
            case 1: ask("fill", oneIn(9) ? about(0, 2000) : upTo(9), about(0, 5), turns()); break;
            case 2: askCould(); break;
            case 3: ask("must", cell(), turns()); break;
            case 4: ask("sure", turns()); break;
            case 5: if (oneIn(3)) ask("wrong", turns()); break;
            default: ask("next", turns());
        }
    }

    private void act() {
        switch (random.nextInt(24)) {
            case 0: if (oneIn(3)) writeBook(); else plantBook(); break;
            case 1: if (oneIn(3)) writeHeap(); break;
            case 2: if (oneIn(3)) writeSum(); break;
            case 3: case 4: writeSumThatFits(); break;
            case 5: judgeOne(); break;
            case 6: orderPages(); break;
            case 7: likeOne(); break;
            case 8: handleRows(); break;
            case 9: handleTexts(); break;
            case 10: case 11: case 12: handleBook(); break;
            case 13: case 14: case 15: case 16: case 17: askNarrowed(); break;
            default: askFillings();
        }
        for (String name : TOLD) ask(name);
        for (int f = 0; f <= 6; f++) ask("findings", f);
    }

    private boolean run(int acts) {
        if (!oneIn(9)) plantBook();
        for (int k = 0; k < acts && !differs; k++) act();
        return !differs;
    }

    public static void main(String[] args) {
        int runs = args.length > 0 ? Integer.parseInt(args[0]) : 400;
        int from = args.length > 1 ? Integer.parseInt(args[1]) : 0;
        int wrong = 0;
        for (int seed = from; seed < from + runs && wrong < 3; seed++) {
            if (!new ModelTest(seed).run(60)) wrong++;
        }
        System.out.println(runs + " runs on the class and on the model, " + wrong + " differ");
        if (wrong != 0) System.exit(1);
    }
}
