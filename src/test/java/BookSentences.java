/** The sentences of promises 1 to 18: rows, texts, the book. */
final class BookSentences {
    private BookSentences() {
    }

    static void addTo(Sentences all) {
        newObject(all);
        row(all);
        layAndAt(all);
        tear(all);
        copy(all);
        mean(all);
        text(all);
        put(all);
        fault(all);
        book(all);
        sum(all);
        totalAndClear(all);
        heap(all);
        readAndKind(all);
        mark(all);
    }

    private static void newObject(Sentences all) {
        all.under("Promise 1: A new object");
        all.says("No ROWS, TEXTS, CELLS, SUMS; THE HEAP is empty.", """
            there(0) = 0
            there(1) = 0
            there(2) = 0
            there(3) = 0
            there(4) = 0
            kind(0) = NOTHING
            total(0, 0) = BAD
            digest() = -8321309655720676369
            row(0, 3) = 3
            text(0, 3) = 3
            sum(1, 0, 1) = 1
            book 'a#'
            heap 4
            new                      -- another one has nothing of it
            there(0) = 0
            there(1) = 0
            there(2) = 0
            there(3) = 0
            there(4) = 0
            """);
    }

    private static void row(Sentences all) {
        all.under("Promise 2: row");
        all.says("A ROW is there with n ints 0: n.", """
            row(0, 3) = 3
            row 0 is 0 0 0
            row(5, 0) = 0
            row 5 is none
            lay 1: 7 8 9 10
            row(1, 3) = 3            -- anew
            row 1 is 0 0 0
            row(1, 4) = 4
            row 1 is 0 0 0 0
            row(2, 40) = 40
            at(2, 39) = 1 asked 0
            there(3) = 4
            """);
        all.says("BAD: also n above 40;", """
            row(0, 40) = 40
            row(0, 41) = BAD
            row(0, MAX) = BAD
            row(-1, 1) = BAD
            row(6, 1) = BAD
            row(MIN, 1) = BAD
            row(MAX, 1) = BAD
            at(0, 39) = 1            -- the ROW is as it was
            """);
        all.says("SIZE: below 0.", """
            row(0, 0) = 0
            row(0, -1) = SIZE
            row(5, MIN) = SIZE
            row(6, -1) = BAD
            there(3) = 1
            """);
    }

    private static void layAndAt(Sentences all) {
        all.under("Promise 3: lay");
        all.says("Place i of a ROW is v: what it was, told by asked(): 1.", """
            row(0, 2) = 2
            lay(0, 0, 5) = 1 asked 0
            lay(0, 0, MIN) = 1 asked 5
            lay(0, 1, MAX) = 1 asked 0
            lay(0, 0, 6) = 1 asked MIN
            row 0 is 6 MAX
            """);
        all.says("BAD; NOTHING; BEYOND.", """
            lay(6, 0, 0) = BAD
            lay(-1, 0, 0) = BAD
            lay(5, 40, 0) = NOTHING
            row(5, 2) = 2
            lay(5, 1, 9) = 1
            lay(5, 2, 0) = BEYOND
            lay(5, -1, 0) = BEYOND
            lay(5, MAX, 0) = BEYOND
            lay(5, MIN, 0) = BEYOND
            row(5, 0) = 0
            lay(5, 0, 0) = BEYOND
            """);
        all.under("Promise 4: at");
        all.says("Place i of a ROW, told by asked(): 1.", """
            lay 0: -9 3
            at(0, 0) = 1 asked -9
            at(0, 1) = 1 asked 3
            row 0 is -9 3
            """);
        all.says("BAD; NOTHING; BEYOND.", """
            at(6, 0) = BAD
            at(-1, 0) = BAD
            at(5, 40) = NOTHING
            lay 5: 1 2
            at(5, 1) = 1 asked 2
            at(5, 2) = BEYOND
            at(5, -1) = BEYOND
            at(5, MAX) = BEYOND
            at(5, MIN) = BEYOND
            row(5, 0) = 0
            at(5, 0) = BEYOND
            """);
    }

    private static void tear(Sentences all) {
        all.under("Promise 5: tear");
        all.says("A ROW is missing: 1.", """
            lay 0: 5 6
            lay 5: 7
            tear(0) = 1
            at(0, 0) = NOTHING
            there(3) = 1
            tear(5) = 1
            there(3) = 0
            row(0, 2) = 2
            row 0 is 0 0
            heap 4                   -- in ROW 5
            tear(5) = 1
            there(2) = 1             -- THE HEAP stays
            """);
        all.says("BAD; NOTHING.", """
            tear(6) = BAD
            tear(-1) = BAD
            tear(0) = NOTHING
            row(0, 0) = 0
            tear(0) = 1              -- an empty ROW is there
            tear(0) = NOTHING
            """);
    }

    private static void copy(Sentences all) {
        all.under("Promise 6: copy");
        all.says("n places of a ROW, from one on, come to those of another one (perhaps itself) from one on, as if taken ahead: 1.", """
            lay 0: 1 2 3 4 5
            lay 1: 7 8 9
            copy(0, 3, 1, 1, 2) = 1
            row 1 is 7 4 5
            row 0 is 1 2 3 4 5
            copy(0, 0, 0, 1, 4) = 1  -- as if taken ahead
            row 0 is 1 1 2 3 4
            lay 0: 1 2 3 4 5
            copy(0, 1, 0, 0, 4) = 1
            row 0 is 2 3 4 5 5
            copy(0, 0, 0, 0, 5) = 1
            row 0 is 2 3 4 5 5
            copy(0, 0, 1, 0, 0) = 1
            row 1 is 7 4 5
            """);
        all.says("BAD;", """
            row(0, 3) = 3
            copy(6, 0, 0, 0, 1) = BAD
            copy(-1, 0, 0, 0, 1) = BAD
            copy(0, 0, 6, 0, 1) = BAD
            copy(0, 0, -1, 0, 1) = BAD
            copy(6, 0, 0, 0, -1) = BAD
            """);
        all.says("SIZE: n below 0;", """
            row(0, 3) = 3
            copy(0, 0, 0, 0, 0) = 1
            copy(0, 0, 0, 0, -1) = SIZE
            copy(0, 0, 0, 0, MIN) = SIZE
            copy(1, 0, 0, 0, -1) = SIZE      -- ahead of NOTHING
            copy(0, 9, 0, 0, -1) = SIZE      -- ahead of BEYOND
            """);
        all.says("NOTHING: either;", """
            row(0, 3) = 3
            copy(1, 0, 0, 0, 1) = NOTHING
            copy(0, 0, 1, 0, 1) = NOTHING
            copy(1, 0, 1, 0, 0) = NOTHING
            copy(1, 9, 0, 0, 1) = NOTHING    -- ahead of BEYOND
            copy(0, 9, 1, 0, 1) = NOTHING
            """);
        all.says("BEYOND: not so many there.", """
            lay 0: 1 2 3
            lay 1: 4 5
            copy(0, 1, 1, 0, 2) = 1          -- just so many
            row 1 is 2 3
            copy(0, 2, 1, 0, 2) = BEYOND
            copy(0, 0, 1, 1, 2) = BEYOND
            copy(0, 0, 1, 0, 3) = BEYOND
            copy(0, -1, 1, 0, 1) = BEYOND
            copy(0, 0, 1, -1, 1) = BEYOND
            copy(0, 3, 1, 0, 1) = BEYOND
            copy(0, 0, 1, 2, 1) = BEYOND
            copy(0, 4, 1, 0, 0) = BEYOND
            copy(0, 0, 1, 3, 0) = BEYOND
            copy(0, 1, 1, 1, MAX) = BEYOND   -- no int is so large
            copy(0, MAX, 1, 0, MAX) = BEYOND
            copy(0, 0, 1, MAX, MAX) = BEYOND
            copy(0, MIN, 1, MIN, MAX) = BEYOND
            copy(0, 3, 1, 2, 0) = 1          -- none from the end on
            """);
    }

    private static void mean(Sentences all) {
        all.under("Promise 7: mean");
        all.says("The mean of a ROW's ints, cut, told by asked(): 1.", """
            lay 0: 1 2
            mean(0) = 1 asked 1
            lay 0: 1 2 2
            mean(0) = 1 asked 1
            lay 0: -1 -2
            mean(0) = 1 asked -1             -- cut, not down
            lay 0: -1 0
            mean(0) = 1 asked 0
            lay 0: 7
            mean(0) = 1 asked 7
            lay 0: MAX MAX MAX
            mean(0) = 1 asked MAX            -- no int holds their sum
            lay 0: MIN MIN
            mean(0) = 1 asked MIN
            """);
        all.says("BAD; NOTHING;", """
            mean(6) = BAD
            mean(-1) = BAD
            mean(0) = NOTHING
            """);
        all.says("NOUGHT.", """
            row(0, 0) = 0
            mean(0) = NOUGHT
            row(0, 1) = 1
            mean(0) = 1 asked 0
            """);
    }

    private static void text(Sentences all) {
        all.under("Promise 8: text");
        all.says("A TEXT is there with n blanks: n.", """
            text(0, 2) = 2
            put(0, 0, 97) = 1032
            put(0, 1, 98) = 1032
            text(0, 2) = 2           -- anew
            put(0, 0, 97) = 1032
            put(0, 1, 98) = 1032
            text(3, 60) = 60
            put(3, 59, 97) = 1032
            text(1, 0) = 0
            put(1, 0, 97) = BEYOND
            there(4) = 3
            """);
        all.says("BAD: also n above 60;", """
            text(0, 60) = 60
            text(0, 61) = BAD
            text(0, MAX) = BAD
            text(-1, 1) = BAD
            text(4, 1) = BAD
            text(MIN, 1) = BAD
            put(0, 59, 97) = 1032    -- the TEXT is as it was
            """);
        all.says("SIZE: below 0.", """
            text(0, 0) = 0
            text(0, -1) = SIZE
            text(3, MIN) = SIZE
            text(4, -1) = BAD
            there(4) = 1
            """);
    }

    private static void put(Sentences all) {
        all.under("Promise 9: put");
        all.says("Byte i of a TEXT is v, cut to a byte: what it was, and 1000 more.", """
            text(0, 2) = 2
            put(0, 1, 127) = 1032
            put(0, 1, 128) = 1127
            put(0, 1, 255) = 872     -- 128 is -128 as a byte
            put(0, 1, 256) = 999
            put(0, 1, -1) = 1000
            put(0, 1, -129) = 999
            put(0, 1, MAX) = 1127
            put(0, 1, MIN) = 999
            put(0, 1, 0) = 1000
            put(0, 0, 97) = 1032
            """);
        all.says("BAD; NOTHING; BEYOND.", """
            put(4, 0, 97) = BAD
            put(-1, 0, 97) = BAD
            put(3, 60, 97) = NOTHING
            text(3, 2) = 2
            put(3, 2, 97) = BEYOND
            put(3, -1, 97) = BEYOND
            put(3, MAX, 97) = BEYOND
            put(3, MIN, 97) = BEYOND
            text(3, 0) = 0
            put(3, 0, 97) = BEYOND
            """);
    }

    private static void fault(Sentences all) {
        all.under("Promise 10: fault");
        all.says("A FAULT of a TEXT;", """
            text 0 'a#b'
            fault(0) = 3
            text 3 '?'
            fault(3) = 0
            there(0) = 0             -- no BOOK comes of it
            """);
        all.says("NONE: there is none.", """
            text 0 'a#b#'
            fault(0) = NONE
            text(0, 0) = 0
            fault(0) = NONE
            there(0) = 0
            """);
        all.says("BAD; NOTHING.", """
            fault(4) = BAD
            fault(-1) = BAD
            fault(0) = NOTHING
            fault(3) = NOTHING
            """);
    }

    private static void book(Sentences all) {
        all.under("Promise 11: book");
        all.says("THE BOOK by a TEXT (SUMS, THE HEAP stay): how many CELLS.", """
            sum({a}, 0, 4) = 1
            heap 4 4 9
            text 0 'a#c#'
            book(0) = 2
            there(1) = 1
            there(2) = 3
            fillings 4 4 | 4 9
            text 0 'l# l# l#'
            book(0) = 1              -- of one letter
            text(0, 0) = 0
            book(0) = 0
            there(0) = 0
            there(1) = 1
            there(2) = 3
            text 1 'a#b#c#d#e#f#g#h#i#j#k#l#'
            book(1) = 12
            """);
        all.says("BAD; NOTHING;", """
            book(4) = BAD
            book(-1) = BAD
            book(0) = NOTHING
            """);
        all.says("STATE: a FAULT.", """
            book 'a[1,2]b#'
            text 0 'c#d'
            book(0) = STATE
            text 0 'c[2,1]'
            book(0) = STATE
            text 0 'c>c'
            book(0) = STATE
            there(0) = 2             -- THE BOOK is as it was
            kind(a) = 0
            kind(c) = NOTHING
            """);
        all.says("(STATE behind NOTHING.)", """
            text 0 'a'
            book(1) = NOTHING
            book(0) = STATE
            """);
    }

    private static void sum(Sentences all) {
        all.under("Promise 12: sum");
        all.says("A SUM: how many there are.", """
            book 'a[0,9]b[0,9]'
            sum({a}, {b}, 8) = 1
            fillings 8 0 | 9 1
            sum({ab}, 0, 10) = 2
            fillings 9 1
            sum({abcdefghijkl}, 0, 10) = 3
            sum(0, {abcdefghijkl}, -10) = 4
            fillings 9 1
            """);
        all.says("BAD: bits, none, some in both; total;", """
            sum(-1, 0, 0) = BAD
            sum(0, -1, 0) = BAD
            sum(4096, 0, 0) = BAD
            sum(0, 4096, 0) = BAD
            sum(MIN, 0, 0) = BAD
            sum(0, MAX, 0) = BAD
            sum(0, 0, 0) = BAD
            sum(1, 1, 0) = BAD
            sum(3, 6, 0) = BAD
            sum(2048, 2048, 0) = BAD
            sum(1, 0, -1000) = BAD
            sum(1, 0, 10000) = BAD
            sum(1, 0, MIN) = BAD
            sum(1, 0, MAX) = BAD
            there(1) = 0
            sum(2047, 2048, -999) = 1
            sum(4095, 0, 9999) = 2
            sum(0, 4095, 0) = 3
            """);
        all.says("FULL.", """
            sum(1, 0, 0) = 1
            sum(1, 0, 0) = 2
            sum(1, 0, 0) = 3
            sum(1, 0, 0) = 4
            sum(1, 0, 0) = 5
            sum(1, 0, 0) = 6
            sum(1, 0, 0) = 7
            sum(1, 0, 0) = 8
            sum(1, 0, 0) = FULL
            sum(0, 0, 0) = BAD       -- ahead of FULL
            there(1) = 8
            clear() = 8
            sum(1, 0, 0) = 1
            """);
    }

    private static void totalAndClear(Sentences all) {
        all.under("Promise 13: total");
        all.says("The total of a SUM becomes v: what it was.", """
            book 'a[0,9]b[0,9]'
            sum({a}, 0, 4) = 1
            sum({b}, 0, 5) = 2
            total(0, 7) = 4
            fillings 7 5
            total(1, -999) = 5
            total(1, 9999) = -999
            total(1, 6) = 9999
            fillings 7 6
            """);
        all.says("BAD.", """
            total(0, 0) = BAD
            sum(1, 0, 4) = 1
            total(1, 0) = BAD
            total(-1, 0) = BAD
            total(MIN, 0) = BAD
            total(MAX, 0) = BAD
            total(0, -1000) = BAD
            total(0, 10000) = BAD
            total(0, MIN) = BAD
            clear() = 1
            total(0, 0) = BAD        -- it is gone
            """);
        all.under("Promise 14: clear");
        all.says("All SUMS go: how many.", """
            clear() = 0
            book 'a[1,2]'
            sum(1, 0, 7) = 1
            sum(1, 0, 8) = 2
            count(9) = 0
            clear() = 2
            there(1) = 0
            clear() = 0
            count(9) = 2
            """);
    }

    private static void heap(Sentences all) {
        all.under("Promise 15: heap");
        all.says("THE HEAP is a ROW's numbers: how many.", """
            lay 0: 99 0 0
            heap(0) = 3
            there(2) = 3
            book 'a#b#c#'
            fillings 0 0 99 | 0 99 0 | 99 0 0
            lay 0: 5 6 7
            left a is 0 99           -- as they were then
            row(0, 0) = 0
            heap(0) = 0
            there(2) = 0
            left(a, 0) = 0
            """);
        all.says("BAD; NOTHING;", """
            heap(6) = BAD
            heap(-1) = BAD
            heap(0) = NOTHING
            heap(5) = NOTHING
            """);
        all.says("SIZE: more than 12;", """
            row(0, 12) = 12
            heap(0) = 12
            row(0, 13) = 13
            heap(0) = SIZE
            row(0, 40) = 40
            heap(0) = SIZE
            lay(0, 0, 100) = 1
            heap(0) = SIZE           -- ahead of UNLIKE
            there(2) = 12
            """);
        all.says("UNLIKE: a number not 0 .. 99.", """
            lay 0: 0 99
            heap(0) = 2
            lay 0: 0 99 100
            heap(0) = UNLIKE
            lay 0: -1 0 99
            heap(0) = UNLIKE
            lay 0: NONE
            heap(0) = UNLIKE
            there(2) = 2
            """);
    }

    private static void readAndKind(Sentences all) {
        all.under("Promise 16: read");
        all.says("A CELL is read: it is a CELL of KIND 0 from v to v: what KIND it was.", """
            heap 3
            book 'a[1,2]b=5c*abd#e>cf~7,8'
            read(a, 0) = 0
            read(b, 99) = 1
            read(c, 4) = 2
            read(d, 6) = 3
            read(e, 1) = 4
            read(f, 9) = 5
            kind(c) = 0
            kind(f) = 0
            read(f, 0) = 0           -- what it is now
            fillings 0 99 4 6 1 0    -- no RULE of the others is left
            """);
        all.says("BAD; NOTHING.", """
            book 'a[1,2]'
            read(12, 0) = BAD
            read(-1, 0) = BAD
            read(a, -1) = BAD
            read(a, 100) = BAD
            read(b, 100) = BAD       -- ahead of NOTHING
            read(b, 0) = NOTHING
            read(l, 99) = NOTHING
            left a is 1 2
            """);
        all.under("Promise 17: kind");
        all.says("KIND of a CELL.", """
            book 'a[1,2]b=5c*abd#e>cl~7,8'
            kind(a) = 0
            kind(b) = 1
            kind(c) = 2
            kind(d) = 3
            kind(e) = 4
            kind(l) = 5
            """);
        all.says("BAD; NOTHING.", """
            book 'a[1,2]'
            kind(12) = BAD
            kind(-1) = BAD
            kind(b) = NOTHING
            kind(l) = NOTHING
            """);
    }

    private static void mark(Sentences all) {
        all.under("Promise 18: mark");
        all.says("What a CELL that IS of a KIND tells: a FIGURE how many numbers its signs can be,", """
            book 'a=5b=?c=xd=05e=?5f=x5g=??h=?xi=xx'
            mark(a, 1) = 1
            mark(b, 1) = 10
            mark(c, 1) = 2
            mark(d, 1) = 1
            mark(e, 1) = 10
            mark(f, 1) = 2
            mark(g, 1) = 100
            mark(h, 1) = 20
            mark(i, 1) = 4
            """);
        all.says("a TIMES 12 times the first CELL, and the other,", """
            book 'a*lk b*aa c*bl'
            mark(a, 2) = 142
            mark(b, 2) = 0
            mark(c, 2) = 23
            """);
        all.says("a SAME how many unlike numbers are in THE HEAP,", """
            book 'a#'
            mark(a, 3) = 0
            heap 7 7 7
            mark(a, 3) = 1
            heap 0 99 0 5
            mark(a, 3) = 3
            """);
        all.says("an ORDER the other CELL,", """
            book 'b>a c>l'
            mark(b, 4) = 0
            mark(c, 4) = 11
            """);
        all.says("a GONE 100 times its from, and its to.", """
            book 'a~0,0b~7,45c~99,99'
            mark(a, 5) = 0
            mark(b, 5) = 745
            mark(c, 5) = 9999
            """);
        all.says("BAD: also KIND 0;", """
            book 'a[1,2]'
            mark(a, 0) = BAD         -- though it is one
            mark(a, 6) = BAD
            mark(a, -1) = BAD
            mark(12, 1) = BAD
            mark(-1, 1) = BAD
            mark(b, 0) = BAD
            """);
        all.says("NOTHING;", """
            mark(a, 1) = NOTHING
            book 'a=5'
            mark(a, 1) = 1
            mark(b, 1) = NOTHING
            mark(l, 5) = NOTHING
            """);
        all.says("UNLIKE.", """
            book 'a=5b[1,2]c~1,2'
            mark(a, 2) = UNLIKE
            mark(a, 5) = UNLIKE
            mark(b, 1) = UNLIKE
            mark(b, 5) = UNLIKE
            mark(c, 4) = UNLIKE
            read(a, 5) = 1
            mark(a, 1) = UNLIKE      -- it is none any more
            """);
    }
}
