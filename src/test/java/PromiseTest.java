/** For each promise of the document: ordinary inputs, the edges that it names, and wrong inputs. */
public final class PromiseTest {
    private static final int BAD = -1, FULL = -2, FINDING = -3, STATE = -4, SPENT = -6, NONE = -9;
    private static final int NOTHING = 1, BEYOND = 2, UNLIKE = 3, NOUGHT = 4, SIZE = 5;

    private static int wrong = 0;
    private static int asked = 0;
    private static int promise = 0;
    private static BurntLedger x = new BurntLedger();

    private static void begin(int number) {
        promise = number;
        x = new BurntLedger();
    }

    private static void due(String call, long got, long want) {
        asked++;
        if (got != want) {
            wrong++;
            System.out.println("promise " + promise + ": " + call + " answered " + got + ", due is " + want);
        }
    }

    /** A call that is refused with a FINDING: it is counted and told, and nothing else is changed. */
    private static void found(String call, java.util.function.IntSupplier refused, int f) {
        int before = x.findings(f);
        long digest = x.digest();
        int told = x.asked();
        long upper = x.upper();
        long lower = x.lower();
        due(call, refused.getAsInt(), FINDING);
        due(call + ", then finding()", x.finding(), f);
        due(call + ", then findings(" + f + ")", x.findings(f), before + 1);
        due(call + ", then digest()", x.digest(), digest);
        due(call + ", then asked()", x.asked(), told);
        due(call + ", then upper()", x.upper(), upper);
        due(call + ", then lower()", x.lower(), lower);
    }

    /** A call that is refused without one: nothing is changed. */
    private static void refused(String call, java.util.function.IntSupplier refused, int answer) {
        int finding = x.finding();
        int all = 0;
        for (int f = 1; f <= 5; f++) all += x.findings(f);
        long digest = x.digest();
        int told = x.asked();
        long upper = x.upper();
        long lower = x.lower();
        due(call, refused.getAsInt(), answer);
        int now = 0;
        for (int f = 1; f <= 5; f++) now += x.findings(f);
        due(call + ", then findings", now, all);
        due(call + ", then finding()", x.finding(), finding);
        due(call + ", then digest()", x.digest(), digest);
        due(call + ", then asked()", x.asked(), told);
        due(call + ", then upper()", x.upper(), upper);
        due(call + ", then lower()", x.lower(), lower);
    }

    private static void write(int t, String text) {
        x.text(t, text.length());
        for (int i = 0; i < text.length(); i++) x.put(t, i, text.charAt(i));
    }

    private static int book(String text) {
        write(3, text);
        return x.book(3);
    }

    private static void lay(int r, int... numbers) {
        x.row(r, numbers.length);
        for (int i = 0; i < numbers.length; i++) x.lay(r, i, numbers[i]);
    }

    private static void heap(int... numbers) {
        lay(5, numbers);
        x.heap(5);
    }

    private static void dueRow(String call, int r, int... numbers) {
        for (int i = 0; i < numbers.length; i++) {
            due(call + ", at(" + r + ", " + i + ")", x.at(r, i), 1);
            due(call + ", place " + i, x.asked(), numbers[i]);
        }
        due(call + ", no place more", x.at(r, numbers.length), FINDING);
    }

    private static int[] filling(int... numbers) {
        int[] all = new int[12];
        for (int c = 0; c < 12; c++) all[c] = c < numbers.length ? numbers[c] : -1;
        return all;
    }

    private static void newObject() {
        begin(1);
        for (int what = 0; what <= 4; what++) due("there(" + what + ")", x.there(what), 0);
        due("asked()", x.asked(), 0);
        due("upper()", x.upper(), 0);
        due("lower()", x.lower(), 1);
        due("finding()", x.finding(), 0);
        for (int f = 1; f <= 5; f++) due("findings(" + f + ")", x.findings(f), 0);
        due("count(1)", x.count(1), 1);
        due("matches()", x.matches(), 1);
        due("burnt()", x.burnt(), NONE);
        BurntLedger other = new BurntLedger();
        other.row(0, 3);
        due("there(3) beside another object", x.there(3), 0);
        due("BAD", BurntLedger.BAD, -1);
        due("FULL", BurntLedger.FULL, -2);
        due("FINDING", BurntLedger.FINDING, -3);
        due("STATE", BurntLedger.STATE, -4);
        due("SPENT", BurntLedger.SPENT, -6);
        due("NONE", BurntLedger.NONE, -9);
    }

    private static void row() {
        begin(2);
        due("row(0, 0)", x.row(0, 0), 0);
        due("row(5, 40)", x.row(5, 40), 40);
        due("at(5, 39)", x.at(5, 39), 1);
        due("asked()", x.asked(), 0);
        x.lay(5, 0, 7);
        x.lay(5, 2, 7);
        due("row(5, 3) anew", x.row(5, 3), 3);
        dueRow("row(5, 3) anew", 5, 0, 0, 0);
        refused("row(6, 1)", () -> x.row(6, 1), BAD);
        refused("row(-1, 1)", () -> x.row(-1, 1), BAD);
        refused("row(0, 41)", () -> x.row(0, 41), BAD);
        refused("row(6, -1): BAD ahead of SIZE", () -> x.row(6, -1), BAD);
        found("row(0, -1)", () -> x.row(0, -1), SIZE);
        found("row(0, MIN)", () -> x.row(0, Integer.MIN_VALUE), SIZE);
    }

    private static void layOne() {
        begin(3);
        x.row(2, 2);
        due("lay(2, 1, 77)", x.lay(2, 1, 77), 1);
        due("asked()", x.asked(), 0);
        due("lay(2, 1, MIN)", x.lay(2, 1, Integer.MIN_VALUE), 1);
        due("asked()", x.asked(), 77);
        dueRow("lay", 2, 0, Integer.MIN_VALUE);
        refused("lay(6, 0, 0)", () -> x.lay(6, 0, 0), BAD);
        refused("lay(-1, 0, 0)", () -> x.lay(-1, 0, 0), BAD);
        found("lay(1, 9, 0): NOTHING ahead of BEYOND", () -> x.lay(1, 9, 0), NOTHING);
        found("lay(2, 2, 0)", () -> x.lay(2, 2, 0), BEYOND);
        found("lay(2, -1, 0)", () -> x.lay(2, -1, 0), BEYOND);
    }

    private static void at() {
        begin(4);
        lay(0, 5, -9);
        due("at(0, 1)", x.at(0, 1), 1);
        due("asked()", x.asked(), -9);
        refused("at(6, 0)", () -> x.at(6, 0), BAD);
        found("at(1, 0)", () -> x.at(1, 0), NOTHING);
        found("at(0, 2)", () -> x.at(0, 2), BEYOND);
        found("at(0, MIN)", () -> x.at(0, Integer.MIN_VALUE), BEYOND);
        x.row(1, 0);
        found("at(1, 0) of an empty ROW", () -> x.at(1, 0), BEYOND);
    }

    private static void tear() {
        begin(5);
        lay(0, 5);
        due("tear(0)", x.tear(0), 1);
        due("there(3)", x.there(3), 0);
        found("tear(0) again", () -> x.tear(0), NOTHING);
        found("at(0, 0)", () -> x.at(0, 0), NOTHING);
        refused("tear(6)", () -> x.tear(6), BAD);
        refused("tear(-1)", () -> x.tear(-1), BAD);
        lay(1, 3);
        x.heap(1);
        x.tear(1);
        due("there(2): THE HEAP stays", x.there(2), 1);
    }

    private static void copy() {
        begin(6);
        lay(0, 1, 2, 3, 4, 5);
        due("copy(0, 0, 0, 1, 4)", x.copy(0, 0, 0, 1, 4), 1);
        dueRow("copied up in itself", 0, 1, 1, 2, 3, 4);
        lay(0, 1, 2, 3, 4, 5);
        due("copy(0, 2, 0, 0, 3)", x.copy(0, 2, 0, 0, 3), 1);
        dueRow("copied down in itself", 0, 3, 4, 5, 4, 5);
        lay(1, 9, 9, 9);
        due("copy(0, 4, 1, 2, 1)", x.copy(0, 4, 1, 2, 1), 1);
        dueRow("copied over", 1, 9, 9, 5);
        due("copy(0, 5, 1, 3, 0)", x.copy(0, 5, 1, 3, 0), 1);
        refused("copy(6, 0, 1, 0, -1): BAD ahead of SIZE", () -> x.copy(6, 0, 1, 0, -1), BAD);
        refused("copy(0, 0, -1, 0, 1)", () -> x.copy(0, 0, -1, 0, 1), BAD);
        found("copy(2, 0, 0, 0, -1): SIZE ahead of NOTHING", () -> x.copy(2, 0, 0, 0, -1), SIZE);
        found("copy(2, 9, 0, 0, 1): NOTHING ahead of BEYOND", () -> x.copy(2, 9, 0, 0, 1), NOTHING);
        found("copy(0, 0, 2, 0, 0)", () -> x.copy(0, 0, 2, 0, 0), NOTHING);
        found("copy(0, 3, 1, 0, 3)", () -> x.copy(0, 3, 1, 0, 3), BEYOND);
        found("copy(0, 0, 1, 1, 3)", () -> x.copy(0, 0, 1, 1, 3), BEYOND);
        found("copy(0, -1, 1, 0, 1)", () -> x.copy(0, -1, 1, 0, 1), BEYOND);
        found("copy(0, 0, 1, -1, 1)", () -> x.copy(0, 0, 1, -1, 1), BEYOND);
        found("copy(0, 6, 1, 0, 0)", () -> x.copy(0, 6, 1, 0, 0), BEYOND);
        found("copy(0, 1, 1, 1, MAX)", () -> x.copy(0, 1, 1, 1, Integer.MAX_VALUE), BEYOND);
        found("copy(0, MAX, 1, MAX, 1)", () -> x.copy(0, Integer.MAX_VALUE, 1, Integer.MAX_VALUE, 1), BEYOND);
    }

    private static void mean() {
        begin(7);
        lay(0, 1, 2, 4);
        due("mean(0)", x.mean(0), 1);
        due("asked()", x.asked(), 2);
        lay(0, 5, 100);
        x.row(0, 1);
        x.lay(0, 0, 5);
        x.mean(0);
        due("asked(): of one", x.asked(), 5);
        lay(0, -1, -2, -4, 0);
        x.mean(0);
        due("asked(): cut, not rounded down", x.asked(), -1);
        lay(0, Integer.MAX_VALUE, Integer.MAX_VALUE, Integer.MAX_VALUE);
        x.mean(0);
        due("asked()", x.asked(), Integer.MAX_VALUE);
        refused("mean(6)", () -> x.mean(6), BAD);
        found("mean(1)", () -> x.mean(1), NOTHING);
        x.row(1, 0);
        found("mean(1) of none", () -> x.mean(1), NOUGHT);
    }

    private static void text() {
        begin(8);
        due("text(0, 0)", x.text(0, 0), 0);
        due("text(3, 60)", x.text(3, 60), 60);
        due("put(3, 59, 97): a blank was there", x.put(3, 59, 97), 1032);
        due("text(3, 60) anew", x.text(3, 60), 60);
        due("put(3, 59, 97)", x.put(3, 59, 97), 1032);
        due("there(4)", x.there(4), 2);
        refused("text(4, 1)", () -> x.text(4, 1), BAD);
        refused("text(-1, 1)", () -> x.text(-1, 1), BAD);
        refused("text(0, 61)", () -> x.text(0, 61), BAD);
        refused("text(4, -1): BAD ahead of SIZE", () -> x.text(4, -1), BAD);
        found("text(0, -1)", () -> x.text(0, -1), SIZE);
    }

    private static void put() {
        begin(9);
        x.text(1, 2);
        due("put(1, 0, 255)", x.put(1, 0, 255), 1032);
        due("put(1, 0, 384)", x.put(1, 0, 384), 999);
        due("put(1, 0, 353)", x.put(1, 0, 353), 872);
        due("put(1, 0, 0)", x.put(1, 0, 0), 1097);
        refused("put(4, 0, 0)", () -> x.put(4, 0, 0), BAD);
        found("put(0, 9, 0): NOTHING ahead of BEYOND", () -> x.put(0, 9, 0), NOTHING);
        found("put(1, 2, 0)", () -> x.put(1, 2, 0), BEYOND);
        found("put(1, -1, 0)", () -> x.put(1, -1, 0), BEYOND);
    }

    private static void dueFault(String text, int place) {
        write(0, text);
        due("fault of '" + text + "'", x.fault(0), place);
        due("book of '" + text + "'", x.book(0) >= 0 ? 1 : STATE, place == NONE ? 1 : STATE);
    }

    private static void fault() {
        begin(10);
        String[] right = {"", "   ", "a#", " a#  b# ", "a#b#", "l[0,99]", "a[9,10]b=??c=x3d=x", "a*bc", "a*bb", "a>l", "a~0,0", "a~1,23b#",
            "a#a[1,2]a=5", "a[00,09]", "a=0", "a*kl"};
        for (String text : right) dueFault(text, NONE);
        dueFault("a", 1);
        dueFault("  m#", 2);
        dueFault("A#", 0);
        dueFault("a #", 1);
        dueFault("a[ 1,2]", 2);
        dueFault("a[1 ,2]", 3);
        dueFault("a[1, 2]", 4);
        dueFault("a[1,2 ]", 5);
        dueFault("a[1,2", 5);
        dueFault("a[,2]", 2);
        dueFault("a[1]", 3);
        dueFault("a[1,]", 4);
        dueFault("a[1,123]", 6);
        dueFault("a[100,2]", 4);
        dueFault("a[20,3]", 6);
        dueFault("a[2,1", 5);
        dueFault("a[-1,2]", 2);
        dueFault("a=", 2);
        dueFault("a= 1", 2);
        dueFault("a=1 2", 4);
        dueFault("a=123", 4);
        dueFault("a=y", 2);
        dueFault("a=xxx", 4);
        dueFault("a*", 2);
        dueFault("a*b", 3);
        dueFault("a*b c", 3);
        dueFault("a*ab", 3);
        dueFault("a*ba", 4);
        dueFault("a*mb", 2);
        dueFault("a*bcd", 5);
        dueFault("a##", 2);
        dueFault("a>", 2);
        dueFault("b>b", 3);
        dueFault("b>bc#", 3);
        dueFault("a>#", 2);
        dueFault("a~", 2);
        dueFault("a~1", 3);
        dueFault("a~1,", 4);
        dueFault("a~9,8", 5);
        dueFault("a~9,8b#", 5);
        dueFault("a~10,9 b#", 6);
        dueFault("a~1,2]", 5);
        dueFault("a#" + (char) 0, 2);
        dueFault("a#" + (char) 225 + "#", 2);
        dueFault("a#b", 3);
        dueFault("a", 1);
        dueFault("a#", NONE);
        write(1, "a#                                                         b");
        due("fault at the end of sixty", x.fault(1), 60);
        refused("fault(4)", () -> x.fault(4), BAD);
        refused("fault(-1)", () -> x.fault(-1), BAD);
        found("fault(2)", () -> x.fault(2), NOTHING);
    }

    private static void theBook() {
        begin(11);
        x.sum(1, 0, 5);
        heap(4);
        write(0, "a#  l[1,2] c*al");
        due("book(0)", x.book(0), 3);
        due("kind(0)", x.kind(0), 3);
        due("kind(11)", x.kind(11), 0);
        due("kind(2)", x.kind(2), 2);
        due("SUMS stay", x.there(1), 1);
        due("THE HEAP stays", x.there(2), 1);
        write(0, "b[3,4]b#b=7");
        due("THE BOOK is as it was told", x.there(0), 3);
        due("book(0): the last item counts", x.book(0), 1);
        due("kind(1)", x.kind(1), 1);
        found("kind(0): all CELLS anew", () -> x.kind(0), NOTHING);
        write(1, "a#b");
        refused("book(1)", () -> x.book(1), STATE);
        refused("book(4)", () -> x.book(4), BAD);
        found("book(2)", () -> x.book(2), NOTHING);
        x.text(2, 0);
        due("book(2) of nothing", x.book(2), 0);
        due("there(0)", x.there(0), 0);
    }

    private static void sum() {
        begin(12);
        due("sum(1, 2, -999)", x.sum(1, 2, -999), 1);
        due("sum(0, 4095, 9999)", x.sum(0, 4095, 9999), 2);
        refused("sum(0, 0, 0)", () -> x.sum(0, 0, 0), BAD);
        refused("sum(4096, 0, 0)", () -> x.sum(4096, 0, 0), BAD);
        refused("sum(0, 4096, 0)", () -> x.sum(0, 4096, 0), BAD);
        refused("sum(-1, 0, 0)", () -> x.sum(-1, 0, 0), BAD);
        refused("sum(1, MIN, 0)", () -> x.sum(1, Integer.MIN_VALUE, 0), BAD);
        refused("sum(6, 4, 0)", () -> x.sum(6, 4, 0), BAD);
        refused("sum(1, 0, -1000)", () -> x.sum(1, 0, -1000), BAD);
        refused("sum(1, 0, 10000)", () -> x.sum(1, 0, 10000), BAD);
        for (int s = 3; s <= 8; s++) due("sum " + s, x.sum(1, 0, s), s);
        refused("sum(1, 0, 0)", () -> x.sum(1, 0, 0), FULL);
        refused("sum(0, 0, 0): BAD ahead of FULL", () -> x.sum(0, 0, 0), BAD);
    }

    private static void total() {
        begin(13);
        x.sum(1, 0, -7);
        due("total(0, 9999)", x.total(0, 9999), -7);
        due("total(0, -999)", x.total(0, -999), 9999);
        due("total(0, 0)", x.total(0, 0), -999);
        refused("total(1, 0)", () -> x.total(1, 0), BAD);
        refused("total(-1, 0)", () -> x.total(-1, 0), BAD);
        refused("total(0, 10000)", () -> x.total(0, 10000), BAD);
        refused("total(0, -1000)", () -> x.total(0, -1000), BAD);
        x.clear();
        refused("total(0, 0) of none", () -> x.total(0, 0), BAD);
        book("a[1,3]");
        x.sum(1, 0, 2);
        x.total(0, 3);
        due("ends(0) by the new total", x.ends(0), 3);
    }

    private static void clear() {
        begin(14);
        due("clear()", x.clear(), 0);
        x.sum(1, 0, 1);
        x.sum(2, 0, 1);
        due("clear()", x.clear(), 2);
        due("there(1)", x.there(1), 0);
        due("sum(4, 0, 1)", x.sum(4, 0, 1), 1);
    }

    private static void theHeap() {
        begin(15);
        lay(0, 7, 7, 0, 99);
        due("heap(0)", x.heap(0), 4);
        book("a#");
        x.lay(0, 0, 5);
        due("may(0, 5): THE HEAP is as it was", x.may(0, 5), 0);
        due("may(0, 7)", x.may(0, 7), 1);
        x.row(1, 12);
        due("heap(1) of twelve", x.heap(1), 12);
        x.row(2, 13);
        x.lay(2, 0, 100);
        found("heap(2): SIZE ahead of UNLIKE", () -> x.heap(2), SIZE);
        x.lay(1, 11, 100);
        found("heap(1) with 100", () -> x.heap(1), UNLIKE);
        x.lay(1, 11, -1);
        found("heap(1) with -1", () -> x.heap(1), UNLIKE);
        found("heap(3)", () -> x.heap(3), NOTHING);
        refused("heap(6)", () -> x.heap(6), BAD);
        heap(0, 0, 1);
        heap(1);
        due("may(0, 0): not in THE HEAP any more", x.may(0, 0), 0);
        x.row(3, 0);
        due("heap(3) of none", x.heap(3), 0);
        due("left(0, 0)", x.left(0, 0), 0);
    }

    private static void read() {
        begin(16);
        heap(1);
        book("a[1,9]b=1c*abd#e>af~1,2");
        for (int c = 0; c < 6; c++) {
            due("read(" + c + ", 99)", x.read(c, 99), c);
            due("kind(" + c + ")", x.kind(c), 0);
            due("left(" + c + ", 0)", x.left(c, 0), 1);
        }
        due("ends(2): no product any more", x.ends(2), 99);
        due("asked()", x.asked(), 99);
        due("read(0, 0)", x.read(0, 0), 0);
        refused("read(0, 100)", () -> x.read(0, 100), BAD);
        refused("read(0, -1)", () -> x.read(0, -1), BAD);
        refused("read(12, 0)", () -> x.read(12, 0), BAD);
        refused("read(-1, 0)", () -> x.read(-1, 0), BAD);
        refused("read(6, 100): BAD ahead of NOTHING", () -> x.read(6, 100), BAD);
        found("read(6, 0)", () -> x.read(6, 0), NOTHING);
    }

    private static void kind() {
        begin(17);
        book("a[1,9]b=1c*abd#e>al~1,2");
        for (int c = 0; c < 5; c++) due("kind(" + c + ")", x.kind(c), c);
        due("kind(11)", x.kind(11), 5);
        found("kind(5)", () -> x.kind(5), NOTHING);
        refused("kind(12)", () -> x.kind(12), BAD);
        refused("kind(-1)", () -> x.kind(-1), BAD);
    }

    private static void mark() {
        begin(18);
        heap(4, 4, 9);
        book("a[1,9]b=x?c*lkd#e>lf~7,45g=5h=?i=x j=xxk=??");
        due("mark(1, 1)", x.mark(1, 1), 20);
        due("mark(2, 2)", x.mark(2, 2), 142);
        due("mark(3, 3)", x.mark(3, 3), 2);
        due("mark(4, 4)", x.mark(4, 4), 11);
        due("mark(5, 5)", x.mark(5, 5), 745);
        due("mark(6, 1)", x.mark(6, 1), 1);
        due("mark(7, 1)", x.mark(7, 1), 10);
        due("mark(8, 1)", x.mark(8, 1), 2);
        due("mark(9, 1)", x.mark(9, 1), 4);
        due("mark(10, 1)", x.mark(10, 1), 100);
        refused("mark(0, 0)", () -> x.mark(0, 0), BAD);
        refused("mark(0, 6)", () -> x.mark(0, 6), BAD);
        refused("mark(12, 1)", () -> x.mark(12, 1), BAD);
        found("mark(11, 1)", () -> x.mark(11, 1), NOTHING);
        found("mark(0, 5)", () -> x.mark(0, 5), UNLIKE);
        found("mark(1, 2)", () -> x.mark(1, 2), UNLIKE);
        heap();
        due("mark(3, 3) without a heap", x.mark(3, 3), 0);
    }

    private static void dueLeft(int c, int first, int narrowed) {
        due("left(" + c + ", 0)", x.left(c, 0), first);
        due("left(" + c + ", 1)", x.left(c, 1), narrowed);
    }

    private static void left() {
        begin(19);
        heap(5, 5, 20, 30);
        book("a[3,9]b=?5c*abd#e>af~2,4g~0,3");
        dueLeft(0, 7, 7);
        dueLeft(1, 10, 3);
        dueLeft(2, 100, 85);
        dueLeft(3, 3, 3);
        dueLeft(4, 100, 96);
        dueLeft(5, 4, 4);
        dueLeft(6, 4, 4);
        refused("left(0, 2)", () -> x.left(0, 2), BAD);
        refused("left(0, -1)", () -> x.left(0, -1), BAD);
        refused("left(12, 0)", () -> x.left(12, 0), BAD);
        refused("left(11, 2): BAD ahead of NOTHING", () -> x.left(11, 2), BAD);
        found("left(11, 1)", () -> x.left(11, 1), NOTHING);
        book("a>b c[1,2]");
        dueLeft(0, 0, 0);
        dueLeft(2, 2, 0);
        book("a*bl b[1,2]");
        dueLeft(0, 0, 0);
        book("a[1,2]b[5,5]c*ab");
        x.sum(0b100, 0, 10);
        dueLeft(0, 2, 1);
        x.total(0, 11);
        dueLeft(0, 2, 0);
        dueLeft(1, 1, 0);
    }

    private static void ends() {
        begin(20);
        book("a>bb[0,99]");
        due("ends(0): narrowed from all", x.ends(0), 1);
        due("asked()", x.asked(), 99);
        book("a~5,9b[0,20]c[3,3]");
        x.sum(3, 4, 10);
        due("ends(1)", x.ends(1), 4);
        due("asked()", x.asked(), 13);
        due("ends(0)", x.ends(0), 0);
        due("asked()", x.asked(), 9);
        x.sum(2, 0, 6);
        due("ends(0) without nought", x.ends(0), 7);
        due("asked()", x.asked(), 7);
        x.sum(2, 0, 7);
        due("asked() stays behind NONE", x.ends(0) == NONE ? x.asked() : -1, 7);
        found("ends(3)", () -> x.ends(3), NOTHING);
        refused("ends(12)", () -> x.ends(12), BAD);
        x.clear();
        book("a*bbb[0,20]");
        due("ends(1): by itself", x.ends(1), 0);
        due("asked(): 20 times nought is no more than 99", x.asked(), 20);
        book("a*bbb[2,60]");
        x.sum(1, 0, 36);
        due("ends(1): 2 times the greatest left is enough", x.ends(1), 2);
        due("asked(): times the least left no more than 36", x.asked(), 18);
        x.clear();
        book("a*bcb[0,0]c[1,5]");
        x.sum(1, 0, 1);
        due("ends(0): nought makes nothing", x.ends(0), NONE);
        x.clear();
        book("a>bb>cc[4,90]");
        due("ends(0)", x.ends(0), 6);
        due("asked()", x.asked(), 99);
        due("ends(1)", x.ends(1), 5);
        due("asked()", x.asked(), 98);
        book("a>bb[0,5]");
        due("ends(1)", x.ends(1), 0);
        book("a[0,9]b[0,20]");
        x.sum(1, 2, -5);
        due("ends(1): one that is less", x.ends(1), 5);
        due("asked()", x.asked(), 14);
        x.clear();
        book("a*bcb[1,9]c[1,5]d[0,1]");
        x.sum(9, 0, 12);
        due("ends(1): 2 times 5 is below 11", x.ends(1), 3);
        due("asked()", x.asked(), 6);
        due("ends(2)", x.ends(2), 2);
        due("asked()", x.asked(), 4);
    }

    private static void may() {
        begin(21);
        book("a=x?b[0,60]");
        x.sum(3, 0, 40);
        due("may(0, 30)", x.may(0, 30), 1);
        due("may(0, 39)", x.may(0, 39), 1);
        due("may(0, 80)", x.may(0, 80), 0);
        due("may(0, 29)", x.may(0, 29), 0);
        due("may(1, 10)", x.may(1, 10), 1);
        due("may(1, 11)", x.may(1, 11), 0);
        due("may(0, 99)", x.may(0, 99), 0);
        refused("may(0, 100)", () -> x.may(0, 100), BAD);
        refused("may(0, -1)", () -> x.may(0, -1), BAD);
        refused("may(12, 0)", () -> x.may(12, 0), BAD);
        refused("may(2, 100): BAD ahead of NOTHING", () -> x.may(2, 100), BAD);
        found("may(2, 0)", () -> x.may(2, 0), NOTHING);
    }

    private static void burnt() {
        begin(22);
        book("a[1,5]b[2,6]");
        x.sum(3, 0, 11);
        x.sum(1, 2, -5);
        x.sum(4, 0, 0);
        due("burnt()", x.burnt(), NONE);
        x.sum(8, 0, 1);
        due("burnt(): of missing CELLS", x.burnt(), 3);
        x.total(1, -6);
        due("burnt()", x.burnt(), 1);
        x.total(0, 2);
        due("burnt()", x.burnt(), 0);
        x.clear();
        x.sum(1, 0, 1);
        x.sum(1, 0, 2);
        due("burnt(): at first alone", x.burnt(), NONE);
        book("a>c b[2,6]");
        due("burnt(): a CELL has none", x.burnt(), 0);
        x.clear();
        x.sum(2, 0, 2);
        due("burnt(): another CELL has none", x.burnt(), NONE);
        book("a>l b[0,99]c[0,99]");
        x.sum(7, 0, 150);
        due("burnt(): whatever the others make", x.burnt(), 1);
    }

    private static void count() {
        begin(23);
        book("a[1,2]b[1,3]");
        due("count(8)", x.count(8), 6);
        due("asked()", x.asked(), 8);
        refused("count(7)", () -> x.count(7), SPENT);
        refused("count(0)", () -> x.count(0), BAD);
        refused("count(20001)", () -> x.count(20001), BAD);
        refused("count(MIN)", () -> x.count(Integer.MIN_VALUE), BAD);
        x.sum(3, 0, 4);
        due("count(20000)", x.count(20000), 2);
        due("asked(): a and b are narrowed", x.asked(), 6);
        x.sum(4, 0, 1);
        due("count(1): a bare SUM is broken", x.count(1), 0);
        due("asked()", x.asked(), 0);
        x.total(1, 0);
        due("count(6): a bare SUM that comes out", x.count(6), 2);
        x.clear();
        heap(2, 2, 3);
        book("a#b#c#");
        due("count(99)", x.count(99), 3);
        due("asked()", x.asked(), 2 + 4 + 6);
        book("a>b c[0,2] b[0,98]");
        due("count(20000): of 99 orders three each", x.count(20000), SPENT);
        book("a>b b[96,98]");
        due("count(20000)", x.count(20000), 6);
        due("asked()", x.asked(), 3 + 9);
        book("a*bcb[2,3]c[2,3]");
        due("count(99): looked at behind c", x.count(99), 4);
        due("asked()", x.asked(), 6 + 12 + 24);
        book("a[2,3]b*acc[2,3]");
        due("count(99)", x.count(99), 4);
        due("asked()", x.asked(), 2 + 12 + 24);
        book("a[1,3]b[1,3]");
        x.sum(3, 0, 4);
        x.sum(1, 2, 0);
        due("count(99): two SUMS end at b", x.count(99), 1);
        due("asked()", x.asked(), 12);
        x.clear();
        book("");
        due("count(1): without CELLS", x.count(1), 1);
    }

    private static void fill() {
        begin(24);
        book("b[1,2]d[5,6]");
        due("fill(0, 0, 2)", x.fill(0, 0, 2), 1);
        dueRow("fill(0)", 0, -1, 1, -1, 5, -1, -1, -1, -1, -1, -1, -1, -1);
        refused("fill(1, 0, 2)", () -> x.fill(1, 0, 2), SPENT);
        x.row(1, 3);
        due("fill(3, 1, 6)", x.fill(3, 1, 6), 1);
        dueRow("fill(3)", 1, -1, 2, -1, 6, -1, -1, -1, -1, -1, -1, -1, -1);
        refused("fill(3, 1, 5)", () -> x.fill(3, 1, 5), SPENT);
        refused("fill(4, 1, 6)", () -> x.fill(4, 1, 6), NONE);
        refused("fill(4, 1, 5)", () -> x.fill(4, 1, 5), SPENT);
        refused("fill(MAX, 1, 6)", () -> x.fill(Integer.MAX_VALUE, 1, 6), NONE);
        refused("fill(-1, 1, 6)", () -> x.fill(-1, 1, 6), BAD);
        refused("fill(0, 6, 6)", () -> x.fill(0, 6, 6), BAD);
        refused("fill(0, 1, 0)", () -> x.fill(0, 1, 0), BAD);
        refused("fill(0, 1, 20001)", () -> x.fill(0, 1, 20001), BAD);
        book("a[1,2]b[1,2]");
        x.sum(3, 0, 3);
        due("fill(1, 1, 99): by SUMS", x.fill(1, 1, 99), 1);
        dueRow("fill by SUMS", 1, filling(2, 1));
        refused("fill(2, 1, 99)", () -> x.fill(2, 1, 99), NONE);
        x.clear();
        book("");
        due("fill(0, 2, 1): without CELLS", x.fill(0, 2, 1), 1);
        dueRow("fill without CELLS", 2, filling());
        refused("fill(1, 2, 1)", () -> x.fill(1, 2, 1), NONE);
    }

    private static void could() {
        begin(25);
        book("a[1,4]b[1,4]");
        x.sum(3, 0, 5);
        due("could(0, 2, 999)", x.could(0, 2, 999), 1);
        due("upper()", x.upper(), 1);
        due("lower()", x.lower(), 4);
        x.clear();
        due("could(1, 3, 999)", x.could(1, 3, 999), 4);
        due("upper()", x.upper(), 1);
        due("lower()", x.lower(), 4);
        book("a[1,2]b>ac[3,4]");
        x.sum(6, 0, 8);
        due("could(0, 1, 999)", x.could(0, 1, 999), 2);
        due("upper()", x.upper(), 1);
        due("lower()", x.lower(), 2);
        due("could(0, 99, 999)", x.could(0, 99, 999), 0);
        due("upper()", x.upper(), 0);
        due("lower()", x.lower(), 1);
        x.clear();
        book("a[0,0]");
        due("could(0, 0, 1)", x.could(0, 0, 1), 1);
        due("could(0, 0, 1) again", x.could(0, 0, 1), 1);
        book("a[1,1]");
        due("could(0, 1, 1)", x.could(0, 1, 1), 1);
        due("upper()", x.upper(), 1);
        due("lower()", x.lower(), 1);
        refused("could(0, 100, 1)", () -> x.could(0, 100, 1), BAD);
        refused("could(0, -1, 1)", () -> x.could(0, -1, 1), BAD);
        refused("could(12, 0, 1)", () -> x.could(12, 0, 1), BAD);
        refused("could(1, 0, 0): BAD ahead of NOTHING", () -> x.could(1, 0, 0), BAD);
        book("a[1,2]");
        found("could(1, 0, 1): NOTHING ahead of SPENT", () -> x.could(1, 0, 1), NOTHING);
        refused("could(0, 1, 1)", () -> x.could(0, 1, 1), SPENT);
        x.sum(1, 0, 3);
        due("could(0, 1, 1): no FILLING", x.could(0, 1, 1), 0);
        due("upper()", x.upper(), 0);
        due("lower()", x.lower(), 1);
    }

    private static void must() {
        begin(26);
        book("a[0,9]b[0,9]c*ab");
        x.sum(4, 0, 12);
        due("must(0, 999)", x.must(0, 999), 2);
        due("asked()", x.asked(), 6);
        due("must(2, 999)", x.must(2, 999), 12);
        due("asked()", x.asked(), 12);
        refused("must(3, 0): BAD ahead of NOTHING", () -> x.must(3, 0), BAD);
        refused("must(12, 1)", () -> x.must(12, 1), BAD);
        found("must(3, 1): NOTHING ahead of SPENT", () -> x.must(3, 1), NOTHING);
        refused("must(0, 1)", () -> x.must(0, 1), SPENT);
        x.total(0, 11);
        refused("must(0, 999)", () -> x.must(0, 999), NONE);
        x.clear();
        book("a[0,0]b[99,99]");
        due("must(0, 9)", x.must(0, 9), 0);
        due("must(1, 9)", x.must(1, 9), 99);
        due("asked()", x.asked(), 99);
    }

    private static void sure() {
        begin(27);
        book("a[0,9]b[0,9]c[0,4]l[7,7]");
        x.sum(3, 0, 18);
        due("sure(999)", x.sure(999), 0b100000000011);
        refused("sure(3)", () -> x.sure(3), SPENT);
        refused("sure(0)", () -> x.sure(0), BAD);
        x.total(0, 19);
        due("sure(999): no FILLING", x.sure(999), 0);
        x.clear();
        book("a[0,0]b[0,1]c[1,2]");
        due("sure(99): nought, too", x.sure(99), 1);
        book("");
        due("sure(1): no CELLS", x.sure(1), 0);
    }

    private static void like() {
        begin(28);
        book("a[8,12]c[0,1]");
        lay(0, 1, 0, 5, 0, 0, 0, 0, 0, 5, 0);
        due("like(0, 1, 99)", x.like(0, 1, 99), 6);
        dueRow("like: the first of alike ones", 1, 8, -1, 0, -1, -1, -1, -1, -1, -1, -1, -1, -1);
        x.lay(0, 8, 4);
        due("like(0, 0, 99): to the ROW of weights", x.like(0, 0, 99), 6);
        dueRow("like", 0, 12, -1, 0, -1, -1, -1, -1, -1, -1, -1, -1, -1);
        lay(0, 1, 2, 3);
        found("like(0, 1, 99): not ten", () -> x.like(0, 1, 99), SIZE);
        lay(0, 0, 0, 0, 0, 0, 0, 0, 0, 0, 0, 100);
        found("like(0, 1, 99): eleven", () -> x.like(0, 1, 99), SIZE);
        lay(0, 0, 0, 0, 0, 0, 0, 0, 0, 0, 100);
        found("like(0, 1, 1): UNLIKE ahead of SPENT", () -> x.like(0, 1, 1), UNLIKE);
        x.lay(0, 9, -1);
        found("like(0, 1, 99)", () -> x.like(0, 1, 99), UNLIKE);
        x.lay(0, 9, 99);
        refused("like(0, 1, 1)", () -> x.like(0, 1, 1), SPENT);
        refused("like(6, 1, 1)", () -> x.like(6, 1, 1), BAD);
        refused("like(0, 6, 1)", () -> x.like(0, 6, 1), BAD);
        refused("like(3, 1, 0): BAD ahead of NOTHING", () -> x.like(3, 1, 0), BAD);
        found("like(3, 1, 1)", () -> x.like(3, 1, 1), NOTHING);
        x.sum(1, 0, 50);
        refused("like(0, 1, 99)", () -> x.like(0, 1, 99), NONE);
        lay(0, 0, 0, 0, 0, 0, 0, 0, 0, 0, 0);
        x.clear();
        due("like(0, 1, 99): no weight", x.like(0, 1, 99), 0);
        dueRow("like: no weight", 1, 8, -1, 0, -1, -1, -1, -1, -1, -1, -1, -1, -1);
    }

    private static void wrongSums() {
        begin(29);
        book("a[1,9]b[1,9]");
        x.sum(3, 0, 10);
        x.sum(1, 0, 4);
        due("wrong(99): a FILLING", x.wrong(99), 0);
        x.sum(2, 0, 5);
        due("wrong(99): one of three, the least bits", x.wrong(99), 1);
        x.sum(3, 0, 11);
        due("wrong(99)", x.wrong(99), 3);
        x.sum(1, 0, 5);
        due("wrong(99)", x.wrong(99), 0b01010);
        x.sum(2048, 0, 7);
        due("wrong(99): a bare SUM, too", x.wrong(99), 0b101010);
        refused("wrong(0)", () -> x.wrong(0), BAD);
        refused("wrong(20001)", () -> x.wrong(20001), BAD);
        refused("wrong(1)", () -> x.wrong(1), SPENT);
        x.clear();
        x.sum(2048, 0, 7);
        due("wrong(2): two STEPS without it", x.wrong(2), 1);
        refused("wrong(1)", () -> x.wrong(1), SPENT);
        x.clear();
        book("a[0,99]");
        x.sum(1, 0, 50);
        x.sum(1, 0, 60);
        due("wrong(1): one STEP, NARROWED by the other", x.wrong(1), 1);
        heap(1);
        book("a#b#");
        refused("wrong(99): not without any", () -> x.wrong(99), NONE);
    }

    private static void next() {
        begin(30);
        book("a[1,2]b[1,3]c[1,3]");
        due("next(99)", x.next(99), 1);
        due("asked(): 18 FILLINGS, 6 each", x.asked(), 6);
        x.sum(4, 0, 2);
        x.sum(2, 0, 2);
        due("next(99)", x.next(99), 0);
        due("asked()", x.asked(), 1);
        x.clear();
        book("a[0,0]b[1,2]");
        due("next(99): nought is a number", x.next(99), 1);
        due("asked()", x.asked(), 1);
        x.sum(2, 0, 1);
        refused("next(1)", () -> x.next(1), SPENT);
        refused("next(0)", () -> x.next(0), BAD);
        x.total(0, 9);
        refused("next(99): no FILLING", () -> x.next(99), NONE);
        book("");
        x.clear();
        refused("next(99): no CELL", () -> x.next(99), NONE);
    }

    private static void dueJudge(int answer, int... numbers) {
        lay(0, filling(numbers));
        due("judge(" + java.util.Arrays.toString(numbers) + ")", x.judge(0), answer);
    }

    private static void judge() {
        begin(31);
        heap(4, 4, 7);
        book("a*bcb[2,5]c=xd#e#f#g>bh~5,6");
        dueJudge(NONE, 9, 3, 3, 4, 7, 4, 4, 0);
        dueJudge(NONE, 16, 2, 8, 4, 4, 7, 99, 6);
        dueJudge(100, 10, 3, 3, 4, 7, 4, 4, 0);
        dueJudge(101, 3, 1, 3, 4, 7, 4, 4, 0);
        dueJudge(102, 12, 3, 4, 4, 7, 4, 4, 0);
        dueJudge(103, 9, 3, 3, 5, 7, 4, 4, 0);
        dueJudge(104, 9, 3, 3, 7, 7, 4, 4, 0);
        dueJudge(105, 9, 3, 3, 4, 4, 4, 4, 0);
        dueJudge(106, 9, 3, 3, 4, 7, 4, 3, 0);
        dueJudge(107, 9, 3, 3, 4, 7, 4, 4, 1);
        dueJudge(107, 9, 3, 3, 4, 7, 4, 4, -1);
        dueJudge(108, 9, 3, 3, 4, 7, 4, 4, 0, 0);
        dueJudge(108, 9, 3, 3, 4, 7, 4, 4, 0, -9);
        dueJudge(100, 9, -3, -3, 4, 7, 4, 4, 0);
        dueJudge(100, 100, 3, 3, 4, 7, 4, 4, 0);
        dueJudge(100, 0, 100, 0, 4, 7, 4, 4, 0);
        dueJudge(100, -1, 3, 3, 4, 7, 4, 4, 0);
        x.sum(1, 2, 6);
        x.sum(0b100000000100, 0, 3);
        x.sum(8, 0, 7);
        dueJudge(202, 9, 3, 3, 4, 7, 4, 4, 0);
        dueJudge(NONE, 9, 3, 3, 7, 4, 4, 4, 0);
        dueJudge(200, 16, 2, 8, 4, 4, 7, 99, 6);
        dueJudge(101, 3, 1, 3, 4, 7, 4, 4, 0);
        x.clear();
        dueJudge(NONE, 16, 2, 8, 4, 4, 7, 99, 6);
        book("b>a");
        dueJudge(101, -1, 5);
        dueJudge(100, 3, 5);
        book("a>b");
        dueJudge(100, 5, -1);
        dueJudge(100, 5, 3);
        lay(1, 1, 2, 3);
        found("judge(1)", () -> x.judge(1), SIZE);
        found("judge(2)", () -> x.judge(2), NOTHING);
        refused("judge(6)", () -> x.judge(6), BAD);
        refused("judge(-1)", () -> x.judge(-1), BAD);
    }

    private static void dueOrders(int many, int first, int... carried) {
        lay(0, carried);
        due("orders(" + java.util.Arrays.toString(carried) + ")", x.orders(0), many);
        due("asked()", x.asked(), first);
    }

    private static void orders() {
        begin(32);
        dueOrders(1, 1, 0, 9999);
        dueOrders(1, 21, 5, 7, 0, 5);
        dueOrders(0, 0, 1, 2, 3, 4);
        dueOrders(1, 12, 1, NONE, 3, 4);
        dueOrders(1, 21, NONE, 2, 3, 4);
        dueOrders(3, 132, 0, 5, 5, 0, 5, 5);
        dueOrders(720, 123456, NONE, NONE, NONE, NONE, NONE, NONE, NONE, NONE, NONE, NONE, NONE, NONE);
        dueOrders(1, 654321, 5, 6, 4, 5, 3, 4, 2, 3, 1, 2, 0, 1);
        x.row(1, 0);
        found("orders(1) of none", () -> x.orders(1), SIZE);
        lay(1, 1, 2, -1);
        found("orders(1): SIZE ahead of UNLIKE", () -> x.orders(1), SIZE);
        x.row(1, 14);
        found("orders(1) of seven", () -> x.orders(1), SIZE);
        lay(1, 0, -1);
        found("orders(1) with -1", () -> x.orders(1), UNLIKE);
        lay(1, 10000, 0);
        found("orders(1) with 10000", () -> x.orders(1), UNLIKE);
        lay(1, -10, NONE, -1);
        x.row(1, 2);
        x.lay(1, 0, -10);
        found("orders(1) with -10", () -> x.orders(1), UNLIKE);
        x.row(1, 1);
        x.row(1, 2);
        due("orders(1): what was behind the ROW is no matter", x.orders(1), 1);
        found("orders(2)", () -> x.orders(2), NOTHING);
        refused("orders(6)", () -> x.orders(6), BAD);
        refused("orders(-1)", () -> x.orders(-1), BAD);
    }

    private static void dueMatches(int many, int forced) {
        due("matches()", x.matches(), many);
        due("asked()", x.asked(), forced);
    }

    private static void matches() {
        begin(33);
        dueMatches(1, 0);
        heap(5, 7, 7, 12);
        dueMatches(1, 0);
        book("b#d#");
        dueMatches(12, 0);
        x.sum(2, 0, 12);
        dueMatches(3, 2);
        x.total(0, 7);
        dueMatches(6, 2);
        x.sum(8, 0, 7);
        dueMatches(2, 10);
        x.total(1, 6);
        dueMatches(0, 0);
        x.clear();
        heap(1, 2, 3);
        book("a#b#c#d[0,1]e[0,1]");
        x.sum(1, 8, 1);
        x.sum(2, 16, 1);
        dueMatches(2, 4);
        x.clear();
        x.sum(2, 8, 1);
        x.sum(4, 16, 1);
        dueMatches(2, 1);
        heap(1, 2);
        dueMatches(0, 0);
        x.clear();
        book("a#b#c#d#e#f#g#h#i#j#k#l#");
        heap(0, 1, 2, 3, 4, 5, 6, 7, 8, 9, 10, 11);
        dueMatches(479001600, 0);
        x.sum(2048, 0, 11);
        dueMatches(39916800, 2048);
        heap(6, 6, 6, 6, 6, 6, 6, 6, 6, 6, 6, 6);
        x.total(0, 6);
        dueMatches(479001600, 4095);
        book("a>b");
        dueMatches(1, 0);
    }

    private static void asked() {
        begin(34);
        lay(0, 6, 8);
        x.at(0, 1);
        due("asked() behind at()", x.asked(), 8);
        x.lay(0, 0, 2);
        due("asked() behind lay()", x.asked(), 6);
        x.mean(0);
        due("asked() behind mean()", x.asked(), 5);
        book("a[1,3]");
        x.ends(0);
        due("asked() behind ends()", x.asked(), 3);
        x.at(0, 0);
        x.count(9);
        due("asked() behind count()", x.asked(), 3);
        x.at(0, 0);
        x.must(0, 9);
        due("asked() behind must()", x.asked(), 3);
        x.next(9);
        due("asked() behind next()", x.asked(), 1);
        x.row(1, 4);
        x.orders(1);
        due("asked() behind orders()", x.asked(), 12);
        x.fill(0, 2, 9);
        x.judge(2);
        x.could(0, 1, 9);
        x.sure(9);
        x.wrong(9);
        x.burnt();
        x.may(0, 1);
        x.left(0, 1);
        x.copy(0, 0, 0, 0, 1);
        x.row(3, 10);
        x.like(3, 4, 9);
        x.at(9, 9);
        x.count(1);
        due("asked() behind others and what was refused", x.asked(), 12);
        x.matches();
        due("asked() behind matches()", x.asked(), 0);
    }

    private static void fractions() {
        begin(35);
        book("a[0,9]b[0,5]");
        x.sum(3, 0, 9);
        due("could(1, 3, 999)", x.could(1, 3, 999), 1);
        due("upper()", x.upper(), 1);
        promise = 36;
        due("lower()", x.lower(), 6);
        refused("could(0, 4, 1)", () -> x.could(0, 4, 1), SPENT);
        x.clear();
        book("a[0,5]b[0,1]c*ab");
        promise = 35;
        due("could(2, 0, 999)", x.could(2, 0, 999), 7);
        due("upper()", x.upper(), 7);
        promise = 36;
        due("lower()", x.lower(), 12);
        promise = 35;
        book("a[1,6]b[1,6]c>a");
        x.read(1, 2);
        x.sum(4, 0, 5);
        due("could(0, 4, 999)", x.could(0, 4, 999), 1);
        due("upper()", x.upper(), 1);
        promise = 36;
        due("lower()", x.lower(), 4);
    }

    private static void there() {
        begin(37);
        book("a#b#");
        x.sum(1, 0, 1);
        lay(0, 4, 5, 6);
        x.heap(0);
        x.row(1, 0);
        x.row(2, 0);
        x.row(3, 0);
        x.text(0, 0);
        x.text(1, 0);
        x.text(2, 0);
        due("there(0)", x.there(0), 2);
        due("there(1)", x.there(1), 1);
        due("there(2)", x.there(2), 3);
        due("there(3)", x.there(3), 4);
        due("there(4)", x.there(4), 4);
        refused("there(5)", () -> x.there(5), BAD);
        refused("there(-1)", () -> x.there(-1), BAD);
    }

    private static void findings() {
        begin(38);
        int[] told = {SIZE, NOTHING, NOTHING, BEYOND, UNLIKE, NOUGHT};
        x.row(0, 0);
        lay(1, 100);
        x.row(2, -1);
        due("finding()", x.finding(), told[0]);
        x.at(2, 0);
        due("finding()", x.finding(), told[1]);
        x.at(9, 0);
        due("finding() behind BAD", x.finding(), told[1]);
        x.kind(0);
        due("finding()", x.finding(), told[2]);
        x.at(1, 1);
        due("finding()", x.finding(), told[3]);
        x.heap(1);
        due("finding()", x.finding(), told[4]);
        x.mean(0);
        due("finding()", x.finding(), told[5]);
        x.mean(1);
        due("finding() behind what was not refused", x.finding(), told[5]);
        promise = 39;
        due("findings(1)", x.findings(1), 2);
        for (int f = 2; f <= 5; f++) due("findings(" + f + ")", x.findings(f), 1);
        refused("findings(0)", () -> x.findings(0), BAD);
        refused("findings(6)", () -> x.findings(6), BAD);
        refused("findings(MIN)", () -> x.findings(Integer.MIN_VALUE), BAD);
    }

    private static long digestOf(int... all) {
        long h = 17;
        for (int v : all) h = 31 * h + v;
        return h;
    }

    private static void digest() {
        begin(40);
        due("digest()", x.digest(), digestOf(0, 0, 0, 0, 0, -1, -1, -1, -1, -1, -1, -1, -1, -1, -1, -1, -1,
                -1, -1, -1, -1, -1, -1, -1, -1, -1, -1));
        lay(1, 7, -3);
        x.text(2, 2);
        x.put(2, 1, 200);
        lay(5, 4, 4);
        x.heap(5);
        x.tear(5);
        write(0, "a[2,11]b=x?d*abe#f>dl~5,6");
        x.book(0);
        x.text(0, 0);
        x.sum(3, 8, -7);
        x.sum(0, 2048, 9);
        due("digest()", x.digest(), digestOf(6, 2, 2, 1, 2,
                0, 211, 10, 1, 20, 20, -1, 2, 1, 100, 3, 1, 1, 4, 3, 100, -1, -1, -1, -1, -1, 5, 506, 3,
                3, 8, -7, 0, 2048, 9,
                4, 4,
                -1, 2, 7, -3, -1, -1, -1, -1,
                0, -1, 2, 32, -56, -1));
        x.put(2, 1, 97);
        due("digest() behind put()", x.digest() == digestOf(0) ? 1 : 0, 0);
        book("a>c");
        for (int r = 0; r < 6; r++) x.tear(r);
        x.clear();
        x.row(0, 0);
        x.heap(0);
        x.text(2, 0);
        due("digest()", x.digest(), digestOf(1, 0, 0, 1, 3, 4, 2, 0, -1, -1, -1, -1, -1, -1, -1, -1, -1, -1, -1,
                0, -1, -1, -1, -1, -1, 0, -1, 0, 3, 97, 62, 99));
    }

    public static void main(String[] args) {
        newObject();
        row();
        layOne();
        at();
        tear();
        copy();
        mean();
        text();
        put();
        fault();
        theBook();
        sum();
        total();
        clear();
        theHeap();
        read();
        kind();
        mark();
        left();
        ends();
        may();
        burnt();
        count();
        fill();
        could();
        must();
        sure();
        like();
        wrongSums();
        next();
        judge();
        orders();
        matches();
        asked();
        fractions();
        there();
        findings();
        digest();
        System.out.println(asked + " answers looked at, " + wrong + " are not as due");
        if (wrong != 0) System.exit(1);
    }
}
