/** The sentences of promises 34 to 40: what is told. */
final class ToldSentences {
    private ToldSentences() {
    }

    static void addTo(Sentences all) {
        asked(all);
        fractions(all);
        there(all);
        findings(all);
        digest(all);
    }

    private static void asked(Sentences all) {
        all.under("Promise 34: asked");
        all.says("What the latest lay(), at(), mean(), ends(), count(), must(), next(), orders(), matches()", """
            lay 0: 6 8
            at(0, 1) = 1 asked 8
            lay(0, 0, 2) = 1 asked 6
            mean(0) = 1 asked 5
            heap 4
            book 'a[1,3]b#'
            ends(a) = 1 asked 3
            count(99) = 3 asked 6
            must(a, 99) = 1 asked 3
            next(99) = a asked 1
            row(1, 4) = 4
            orders(1) = 2 asked 12
            matches() = 1 asked {b}
            row(1, 10) = 10                  -- no other call tells anything
            text(0, 3) = 3
            put(0, 0, 65) = 1032
            fault(0) = 0
            fill(0, 2, 99) = 1
            like(1, 3, 99) = 0
            could(a, 1, 99) = 1
            copy(0, 0, 0, 1, 1) = 1
            sure(99) = {b}
            wrong(99) = 0
            left(a, 1) = 3
            may(a, 1) = 1
            mark(b, 3) = 1
            tear(3) = 1
            asked() = {b}
            """);
        all.says("that was not refused (nor NONE) told;", """
            lay 0: 77
            book 'a[1,3]'
            at(0, 0) = 1 asked 77
            lay(0, 1, 5) = BEYOND
            at(1, 0) = NOTHING
            row(1, 0) = 0
            mean(1) = NOUGHT
            ends(b) = NOTHING
            count(1) = SPENT
            must(a, 1) = SPENT
            next(1) = SPENT
            orders(0) = SIZE
            sum({a}, 0, 5) = 1
            ends(a) = NONE
            must(a, 99) = NONE
            next(99) = NONE
            asked() = 77
            """);
        all.says("0 before.", """
            asked() = 0
            at(0, 0) = NOTHING
            asked() = 0
            """);
    }

    private static void fractions(Sentences all) {
        all.under("Promise 35: upper");
        all.says("The upper number of the fraction that was told last;", """
            book 'a[0,5]b[0,1]c*ab'
            sum({c}, 0, 0) = 1               -- 0 with 0 or 1, 1 to 5 with 0
            could(b, 0, 99) = 6
            upper() = 6
            could(b, 0, 1) = SPENT
            could(d, 0, 99) = NOTHING
            count(99) = 7
            upper() = 6
            could(a, 0, 99) = 2
            upper() = 2
            could(a, 9, 99) = 0
            upper() = 0
            """);
        all.says("0 before.", """
            upper() = 0
            count(1) = 1
            upper() = 0
            """);
        all.under("Promise 36: lower");
        all.says("Its lower number;", """
            book 'a[0,5]b[0,1]c*ab'
            sum({c}, 0, 0) = 1
            could(b, 0, 99) = 6
            lower() = 7
            could(b, 0, 1) = SPENT
            could(d, 0, 99) = NOTHING
            count(99) = 7
            lower() = 7
            could(c, 0, 99) = 7
            lower() = 1
            could(a, 0, 99) = 2
            lower() = 7
            could(a, 9, 99) = 0
            lower() = 1
            """);
        all.says("1 before.", """
            lower() = 1
            count(1) = 1
            lower() = 1
            """);
    }

    private static void there(Sentences all) {
        all.under("Promise 37: there");
        all.says("0 CELLS, 1 SUMS, 2 numbers of THE HEAP, 3 ROWS, 4 TEXTS that are there.", """
            book 'a[1,2]l#'
            there(0) = 2
            sum(1, 0, 5) = 1
            sum(1, 0, 5) = 2
            sum(1, 0, 5) = 3
            there(1) = 3
            heap 7 7 7 7
            there(2) = 4
            there(3) = 1
            row(0, 0) = 0
            row(1, 0) = 0
            row(2, 0) = 0
            row(3, 0) = 0
            row(4, 0) = 0
            there(3) = 6
            tear(2) = 1
            there(3) = 5
            there(4) = 1
            text(0, 0) = 0
            text(1, 0) = 0
            text(2, 0) = 0
            there(4) = 4
            """);
        all.says("BAD.", """
            there(-1) = BAD
            there(5) = BAD
            there(MIN) = BAD
            there(MAX) = BAD
            """);
    }

    private static void findings(Sentences all) {
        all.under("Promise 38: finding");
        all.says("The latest FINDING (0 before any).", """
            finding() = 0
            tear(9) = BAD
            finding() = 0
            tear(0) = NOTHING
            finding() = 1
            row(0, -1) = SIZE
            finding() = 5
            row(0, 3) = 3
            tear(9) = BAD
            finding() = 5                    -- as long as no other one comes
            at(0, 3) = BEYOND
            finding() = 2
            """);
        all.under("Promise 39: findings");
        all.says("How often a FINDING (1 .. 5) was answered.", """
            findings(1) = 0
            findings(5) = 0
            tear(0) = FINDING
            tear(0) = FINDING
            row(0, -1) = FINDING
            row(0, 0) = 0
            mean(0) = FINDING
            at(0, 0) = FINDING
            at(0, 0) = FINDING
            at(0, 0) = FINDING
            lay 0: -1
            heap(0) = FINDING
            findings(1) = 2
            findings(2) = 3
            findings(3) = 1
            findings(4) = 1
            findings(5) = 1
            """);
        all.says("BAD.", """
            findings(0) = BAD
            findings(6) = BAD
            findings(-1) = BAD
            findings(MIN) = BAD
            findings(MAX) = BAD
            """);
    }

    private static long digestOf(int... all) {
        long h = 17;
        for (int v : all) h = 31 * h + v;
        return h;
    }

    private static void digest(Sentences all) {
        all.under("Promise 40: digest");
        all.says("h = 17; then h = 31 h + v for each v: there() 0 to 4;",
            "digest() = " + digestOf(0, 0, 0, 0, 0, -1, -1, -1, -1, -1, -1, -1, -1, -1, -1, -1, -1, -1, -1, -1, -1, -1, -1, -1, -1, -1, -1));
        all.says("of each CELL (-1 once: missing) KIND, what mark() tells by it (KIND 0: 100 times its from, and its to), how many numbers"
            + " are left at first;", """
            heap 4 4 9
            book 'a[7,9]b=x?d*ale#f>kg~5,6l[0,99]'
            text(3, 0) = 0
            tear(5) = 1
            digest() =\s""" + digestOf(7, 0, 3, 0, 1, 0, 709, 3, 1, 20, 20, -1, 2, 11, 100, 3, 2, 2, 4, 10, 0, 5, 506, 3, -1, -1, -1, -1, 0, 99,
                100, 4, 4, 9, -1, -1, -1, -1, -1, -1, -1, -1, -1, 0));
        all.says("of each SUM both bits, total;", """
            sum(3, 8, -999) = 1
            sum(0, 2048, 9999) = 2
            digest() =\s""" + digestOf(0, 2, 0, 0, 0, -1, -1, -1, -1, -1, -1, -1, -1, -1, -1, -1, -1, 3, 8, -999, 0, 2048, 9999,
                -1, -1, -1, -1, -1, -1, -1, -1, -1, -1));
        all.says("numbers of THE HEAP;", """
            heap 99 0 5
            tear(5) = 1
            digest() =\s""" + digestOf(0, 0, 3, 0, 0, -1, -1, -1, -1, -1, -1, -1, -1, -1, -1, -1, -1, 99, 0, 5,
                -1, -1, -1, -1, -1, -1, -1, -1, -1, -1));
        all.says("of each ROW its size (-1: missing) and places,", """
            lay 0: 7 MIN
            row(1, 0) = 0
            lay 5: -1
            lay 4: 5 6
            tear(4) = 1
            digest() =\s""" + digestOf(0, 0, 0, 3, 0, -1, -1, -1, -1, -1, -1, -1, -1, -1, -1, -1, -1,
                2, 7, Integer.MIN_VALUE, 0, -1, -1, -1, 1, -1, -1, -1, -1, -1));
        all.says("of each TEXT likewise.", """
            text(0, 2) = 2
            put(0, 1, 255) = 1032
            text(3, 0) = 0
            digest() =\s""" + digestOf(0, 0, 0, 0, 2, -1, -1, -1, -1, -1, -1, -1, -1, -1, -1, -1, -1,
                -1, -1, -1, -1, -1, -1, 2, 32, -1, -1, -1, 0));
    }
}
