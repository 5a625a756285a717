/**
 * All short TEXTS of some signs, and all that come behind the beginning of an item: the class and PlainLedger find the
 * same FAULT, tell THE BOOK by the same ones, and tell it alike. `java FaultTest MORE` takes TEXTS longer by so many signs.
 */
public final class FaultTest {
    /** A run of these on one object stays under the calls that the document tells of. */
    private static final int TEXTS_OF_ONE_OBJECT = 20;

    private static int wrong = 0;
    private static int looked = 0;
    private static BurntLedger ledger = new BurntLedger();
    private static PlainLedger model = new PlainLedger();

    private static void due(String text, String call, long got, long want) {
        if (got == want) return;
        wrong++;
        System.out.println("'" + text + "': " + call + " answered " + got + ", due is " + want);
    }

    private static void look(String text) {
        if (looked++ % TEXTS_OF_ONE_OBJECT == 0) {
            ledger = new BurntLedger();
            model = new PlainLedger();
        }
        due(text, "text()", ledger.text(0, text.length()), model.text(0, text.length()));
        for (int i = 0; i < text.length(); i++) {
            due(text, "put()", ledger.put(0, i, text.charAt(i)), model.put(0, i, text.charAt(i)));
        }
        int fault = model.fault(0);
        due(text, "fault()", ledger.fault(0), fault);
        due(text, "book()", ledger.book(0), model.book(0));
        if (fault == BurntLedger.NONE) due(text, "digest()", ledger.digest(), model.digest());
    }

    private static void lookAtAll(String begun, String signs, int more) {
        if (wrong > 20) return;
        look(begun);
        for (int i = 0; i < signs.length() && more > 0; i++) lookAtAll(begun + signs.charAt(i), signs, more - 1);
    }

    public static void main(String[] args) {
        int more = args.length > 0 ? Integer.parseInt(args[0]) : 0;
        lookAtAll("", "abl [,]=?x*#>~09", 3 + more);
        lookAtAll("", "`m\u0000\u001f!@\u00e1", 1 + more);
        lookAtAll("b[", "019,] ", 5 + more);
        lookAtAll("l~", "019,b#", 4 + more);
        lookAtAll("c=", "0x?c# ", 4 + more);
        lookAtAll("a*", "abcml#", 4 + more);
        lookAtAll("k>", "ajkl#m", 4 + more);
        lookAtAll("a#b[1,2]a", "#>b ", 4 + more);
        System.out.println(looked + " texts looked at, " + wrong + " answers are not as due");
        if (wrong != 0) System.exit(1);
    }
}
