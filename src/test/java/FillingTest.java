import java.util.Random;

/**
 * A FILLING is what judge() holds for one: of drawn books of two CELLS all ten thousand pairs of numbers are judged, and
 * those that are right have to be the ones that fill() tells, in its order. `java FillingTest BOOKS SEED` draws others.
 */
public final class FillingTest {
    /** The document tells of no more calls on one object. */
    private static final int CALLS = 512;
    private static final String[] FIRST = {"a[0,9]", "a[5,60]", "a[0,99]", "a=x?", "a=?", "a=?x", "a#", "a>b", "a*bb", "a~7,40", "a~0,3"};
    private static final String[] SECOND = {"b[0,9]", "b[20,99]", "b=?8", "b=xx", "b=x", "b#", "b>a", "b*aa", "b~7,9", "b~90,99", "b>c"};

    private static int wrong = 0;

    private final String text;
    private final int[] heap;
    private final int[][] sums;
    private BurntLedger ledger;
    private int calls;

    private FillingTest(Random random) {
        text = FIRST[random.nextInt(FIRST.length)] + SECOND[random.nextInt(SECOND.length)];
        heap = new int[random.nextInt(5)];
        for (int i = 0; i < heap.length; i++) heap[i] = random.nextInt(random.nextBoolean() ? 100 : 8);
        sums = new int[random.nextInt(3)][];
        for (int s = 0; s < sums.length; s++) {
            int plus = 1 + random.nextInt(3);
            int less = random.nextInt(4) & ~plus | (random.nextInt(9) == 0 ? 2048 : 0);
            sums[s] = new int[] {plus, less, random.nextInt(plus == 3 ? 120 : 60) - (less == 0 ? 0 : 20)};
        }
        renew();
    }

    private void renew() {
        ledger = new BurntLedger();
        ledger.text(0, text.length());
        for (int i = 0; i < text.length(); i++) ledger.put(0, i, text.charAt(i));
        ledger.book(0);
        ledger.row(0, heap.length);
        for (int i = 0; i < heap.length; i++) ledger.lay(0, i, heap[i]);
        ledger.heap(0);
        for (int[] sum : sums) ledger.sum(sum[0], sum[1], sum[2]);
        ledger.row(1, 12);
        for (int c = 2; c < 12; c++) ledger.lay(1, c, -1);
        calls = 60;
    }

    private boolean isRight(int a, int b) {
        if (calls + 3 > CALLS) renew();
        calls += 3;
        ledger.lay(1, 0, a);
        ledger.lay(1, 1, b);
        return ledger.judge(1) == BurntLedger.NONE;
    }

    private boolean isFilling(int i, int a, int b) {
        if (calls + 5 > CALLS) renew();
        calls += 5;
        if (ledger.fill(i, 2, 20000) != 1) return false;
        boolean alike = ledger.at(2, 0) == 1 && ledger.asked() == a;
        return ledger.at(2, 1) == 1 && ledger.asked() == b && alike;
    }

    /** How many are right; all of the first ones, and some of many, are asked of fill(). */
    private int look() {
        int found = 0;
        for (int a = 0; a < 100; a++) {
            for (int b = 0; b < 100; b++) {
                if (!isRight(a, b)) continue;
                if ((found < 40 || found % 37 == 0) && !isFilling(found, a, b)) tell("filling " + found + " is not " + a + " " + b);
                found++;
            }
        }
        renew();
        int count = ledger.count(20000);
        if (count != found) tell("count() answered " + count + ", due is " + found);
        if (ledger.fill(found, 2, 20000) != BurntLedger.NONE) tell("there is a filling " + found);
        return found;
    }

    private void tell(String what) {
        wrong++;
        System.out.println(text + " " + java.util.Arrays.toString(heap) + " " + java.util.Arrays.deepToString(sums) + ": " + what);
    }

    public static void main(String[] args) {
        int books = args.length > 0 ? Integer.parseInt(args[0]) : 150;
        Random random = new Random(args.length > 1 ? Integer.parseInt(args[1]) : 0);
        int fillings = 0;
        for (int k = 0; k < books && wrong < 10; k++) fillings += new FillingTest(random).look();
        System.out.println(books + " books of two cells, " + fillings + " fillings, " + wrong + " things are not as due");
        if (wrong != 0) System.exit(1);
    }
}
