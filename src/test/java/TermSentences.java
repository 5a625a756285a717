/** The sentences of "Terms", ahead of its parts and of part 1: what refused is, FINDINGS, ROWS, TEXTS, CELLS, SUMS. */
final class TermSentences {
    /** A state in which there is something of everything that a refused call could change. */
    static final String FULL_STATE = """
        heap 2 5 5
        book 'a[1,2] b# c~5,6 d=x'
        text 0 'a'
        lay 0: 7 -1 100 4
        row(1, 0) = 0
        sum({d}, 0, 8) = 1
        could(a, 1, 30) = 6 share 1/2
        at(0, 0) = 1 asked 7
        """;

    private TermSentences() {
    }

    static void addTo(Sentences all) {
        use(all);
        refusals(all);
        order(all);
        changesNothing(all);
        findings(all);
        rowsAndTexts(all);
        kinds(all);
        items(all);
        faults(all);
        bookSumsHeap(all);
        rules(all);
    }

    private static void use(Sentences all) {
        all.under("What it is");
        all.says("An object is used for at most 512 calls after it has been made; what later calls answer is free.", """
            row(0, 1) = 1
            repeat 508 lay(0, 0, 7) = 1
            tear(1) = FINDING        -- the 510th
            at(0, 0) = 1 asked 7     -- the last one
            """);
    }

    private static void refusals(Sentences all) {
        all.under("Terms");
        all.says("BAD -1 (a number that is none, or not as told)", """
            constant BAD = -1
            row(6, 1) = -1
            total(0, 0) = BAD        -- a SUM that is none
            count(0) = BAD           -- not as told
            """);
        all.says("FULL -2", """
            constant FULL = -2
            sum(1, 0, 0) = 1
            sum(1, 0, 0) = 2
            sum(1, 0, 0) = 3
            sum(1, 0, 0) = 4
            sum(1, 0, 0) = 5
            sum(1, 0, 0) = 6
            sum(1, 0, 0) = 7
            sum(1, 0, 0) = 8
            sum(1, 0, 0) = -2
            """);
        all.says("STATE -4 (not now)", """
            constant STATE = -4
            text 0 'a'
            book(0) = -4
            put(0, 0, 32) = 1097
            book(0) = 0              -- now
            """);
        all.says("SPENT -6 (more than told)", """
            constant SPENT = -6
            book 'a[1,2]'
            count(1) = -6
            count(2) = 2             -- no more than told
            """);
        all.says("FINDING -3 (finding() tells which)", """
            constant FINDING = -3
            tear(0) = -3
            finding() = 1
            row(0, -1) = -3
            finding() = 5
            """);
        all.says("NONE -9.", """
            constant NONE = -9
            burnt() = -9
            """);
    }

    private static void order(Sentences all) {
        all.says("Refused is, the first of these that fits, in this order:", """
            sum(1, 0, 0) = 1
            sum(1, 0, 0) = 2
            sum(1, 0, 0) = 3
            sum(1, 0, 0) = 4
            sum(1, 0, 0) = 5
            sum(1, 0, 0) = 6
            sum(1, 0, 0) = 7
            sum(1, 0, 0) = 8
            sum(0, 0, 0) = BAD       -- ahead of FULL
            sum(1, 1, 0) = BAD
            sum(4096, 0, 0) = BAD
            sum(1, 0, 10000) = BAD
            book 'a[1,9]'
            clear() = 8
            count(0) = BAD           -- ahead of SPENT
            could(a, 100, 1) = BAD
            could(12, 0, 1) = BAD
            must(12, 1) = BAD
            fill(-1, 0, 1) = BAD
            fill(9, 6, 1) = BAD
            new                      -- and ahead of each FINDING
            row(6, -1) = BAD
            text(4, -1) = BAD
            copy(6, 0, 0, 0, -1) = BAD
            copy(0, 0, 6, 0, -1) = BAD
            read(a, 100) = BAD
            mark(a, 0) = BAD
            mark(a, 6) = BAD
            left(a, 2) = BAD
            may(a, 100) = BAD
            could(a, 100, 1) = BAD
            could(a, 0, 0) = BAD
            must(a, 0) = BAD
            like(0, 6, 1) = BAD
            like(0, 0, 0) = BAD
            """);
        all.says("unless a call says so otherwise.", """
            text 0 'a'
            book(1) = NOTHING        -- ahead of STATE
            book(0) = STATE
            book 'a[1,2]'
            could(b, 0, 1) = NOTHING -- ahead of SPENT
            could(a, 1, 1) = SPENT
            must(b, 1) = NOTHING
            must(a, 1) = SPENT
            like(0, 1, 1) = NOTHING
            row(0, 9) = 9
            like(0, 1, 1) = SIZE
            row(0, 10) = 10
            lay(0, 9, 100) = 1
            like(0, 1, 1) = UNLIKE
            lay(0, 9, 99) = 1
            like(0, 1, 1) = SPENT
            """);
    }

    private static void changesNothing(Sentences all) {
        all.says("What is refused changes nothing but finding(), findings().", FULL_STATE + """
            row(6, 1) = BAD
            row(0, 41) = BAD
            row(0, -1) = SIZE
            lay(6, 0, 1) = BAD
            lay(2, 0, 1) = NOTHING
            lay(0, 4, 1) = BEYOND
            at(6, 0) = BAD
            at(2, 0) = NOTHING
            at(0, 4) = BEYOND
            tear(6) = BAD
            tear(2) = NOTHING
            copy(0, 0, 6, 0, 1) = BAD
            copy(0, 0, 0, 1, -1) = SIZE
            copy(0, 0, 2, 0, 1) = NOTHING
            copy(0, 0, 0, 1, 4) = BEYOND
            mean(6) = BAD
            mean(2) = NOTHING
            mean(1) = NOUGHT
            text(4, 1) = BAD
            text(0, 61) = BAD
            text(0, -1) = SIZE
            put(4, 0, 1) = BAD
            put(1, 0, 1) = NOTHING
            put(0, 1, 1) = BEYOND
            fault(4) = BAD
            fault(1) = NOTHING
            book(4) = BAD
            book(1) = NOTHING
            book(0) = STATE
            sum(1, 1, 1) = BAD
            total(1, 1) = BAD
            total(0, 10000) = BAD
            heap(6) = BAD
            heap(2) = NOTHING
            heap(0) = UNLIKE
            """);
        all.says("What is refused changes nothing but finding(), findings().", FULL_STATE + """
            read(12, 1) = BAD
            read(a, 100) = BAD
            read(l, 1) = NOTHING
            kind(12) = BAD
            kind(l) = NOTHING
            mark(a, 0) = BAD
            mark(l, 1) = NOTHING
            mark(a, 1) = UNLIKE
            left(a, 2) = BAD
            left(l, 1) = NOTHING
            ends(12) = BAD
            ends(l) = NOTHING
            may(a, 100) = BAD
            may(l, 1) = NOTHING
            count(0) = BAD
            count(1) = SPENT
            fill(0, 6, 1) = BAD
            fill(0, 0, 1) = SPENT
            could(a, 1, 0) = BAD
            could(l, 1, 1) = NOTHING
            could(a, 2, 1) = SPENT
            must(a, 0) = BAD
            must(l, 1) = NOTHING
            must(a, 1) = SPENT
            sure(0) = BAD
            sure(1) = SPENT
            like(0, 0, 0) = BAD
            like(2, 0, 1) = NOTHING
            like(0, 0, 1) = SIZE
            """);
        all.says("What is refused changes nothing but finding(), findings().", FULL_STATE + """
            wrong(0) = BAD
            wrong(1) = SPENT
            next(0) = BAD
            next(1) = SPENT
            judge(6) = BAD
            judge(2) = NOTHING
            judge(0) = SIZE
            orders(6) = BAD
            orders(2) = NOTHING
            orders(1) = SIZE
            orders(0) = UNLIKE
            there(5) = BAD
            findings(6) = BAD
            row(2, 13) = 13
            heap(2) = SIZE
            lay 2: 0 0 0 0 0 0 0 0 0 0
            like(2, 2, 1) = SPENT
            lay(2, 0, -1) = 1
            like(2, 2, 99) = UNLIKE
            """);
    }

    private static void findings(Sentences all) {
        all.says("1 NOTHING (a ROW, a TEXT, a CELL that is missing)", """
            at(0, 0) = FINDING
            finding() = 1
            fault(0) = FINDING
            finding() = 1
            kind(a) = FINDING
            finding() = 1
            findings(1) = 3
            """);
        all.says("2 BEYOND (a place that there is not)", """
            row(0, 3) = 3
            text(0, 3) = 3
            at(0, 3) = FINDING
            finding() = 2
            at(0, -1) = BEYOND
            lay(0, MIN, 0) = BEYOND
            put(0, 3, 0) = BEYOND
            put(0, -1, 0) = BEYOND
            copy(0, -1, 0, 0, 1) = BEYOND
            findings(2) = 6
            """);
        all.says("3 UNLIKE (a CELL of another KIND; a number that is none)", """
            book 'a[1,2]'
            mark(a, 1) = FINDING
            finding() = 3
            lay 0: 100
            heap(0) = UNLIKE
            findings(3) = 2
            """);
        all.says("4 NOUGHT (shared among none)", """
            row(0, 0) = 0
            mean(0) = FINDING
            finding() = 4
            findings(4) = 1
            """);
        all.says("5 SIZE (fewer than none; not as many as due).", """
            row(0, -1) = FINDING
            finding() = 5
            text(0, -1) = SIZE
            row(0, 11) = 11
            judge(0) = SIZE          -- not twelve
            findings(5) = 3
            """);
        all.says("FINDINGS:", """
            findings(0) = BAD        -- none but these five
            findings(6) = BAD
            findings(5) = 0
            """);
        all.says("Fractions are told by upper() and lower(), in lowest terms, the lower number above 0 (0 by 1).", """
            book 'a[1,2] b[1,6]'
            could(b, 1, 99) = 2 share 1/6    -- not 2 by 12
            could(a, 1, 99) = 6 share 1/2
            could(a, 3, 99) = 0 share 0/1    -- not 0 by 12
            book 'a[5,5]'
            could(a, 5, 99) = 1 share 1/1
            sum(1, 0, 9) = 1
            could(a, 5, 99) = 0 share 0/1    -- of none at all
            """);
        all.says("Sets are told by bits.", """
            book 'a[1,1] b[1,2] l[3,3]'
            sure(99) = 2049
            sum(2049, 0, 4) = 1              -- a and l
            judge(0) = NOTHING
            sum(2049, 0, 5) = 2
            wrong(99) = 2
            """);
    }

    private static void rowsAndTexts(Sentences all) {
        all.says("ROWS 0 .. 5 are rows of 0 to 40 ints", """
            row(0, 0) = 0
            row(5, 40) = 40
            lay(5, 39, MAX) = 1
            at(5, 39) = 1 asked MAX
            lay(5, 39, MIN) = 1
            at(5, 39) = 1 asked MIN
            at(0, 0) = BEYOND
            row(6, 0) = BAD
            row(-1, 0) = BAD
            row(0, 41) = BAD
            """);
        all.says("TEXTS 0 .. 3 rows of 0 to 60 bytes", """
            text(0, 0) = 0
            text(3, 60) = 60
            put(3, 59, 127) = 1032
            put(3, 59, -128) = 1127
            put(3, 59, 0) = 872
            put(0, 0, 0) = BEYOND
            text(4, 0) = BAD
            text(-1, 0) = BAD
            text(0, 61) = BAD
            """);
        all.says("or missing (at first).", """
            tear(0) = NOTHING
            tear(5) = NOTHING
            fault(0) = NOTHING
            fault(3) = NOTHING
            """);
        all.says("CELLS 0 .. 11 (a .. l; missing at first) hold a number 0 .. 99.", """
            kind(0) = NOTHING
            kind(11) = NOTHING
            kind(12) = BAD
            kind(-1) = BAD
            book 'a[0,1] l#'
            kind(0) = 0
            kind(11) = 3
            read(0, 0) = 0
            read(0, 99) = 0
            left a is none           -- l has nothing
            read(11, 99) = 3
            left a is 99
            read(0, 100) = BAD
            read(0, -1) = BAD
            """);
    }

    private static void kinds(Sentences all) {
        all.says("KINDS: 0 CELL (from .. to)", """
            book 'a[7,9]'
            kind(a) = 0
            left a is 7 8 9
            """);
        all.says("1 FIGURE (a CELL: of signs)", """
            book 'a=?x'
            kind(a) = 1
            left a is 3 8 13 18 23 28 33 38 43 48 53 58 63 68 73 78 83 88 93 98
            """);
        all.says("2 TIMES (a CELL: two others multiplied)", """
            book 'a*bc b[2,2] c[0,49]'
            kind(a) = 2
            left a is 0..98
            sum({c}, 0, 49) = 1
            fillings 98 2 49
            """);
        all.says("3 SAME (a CELL: one of THE HEAP)", """
            heap 9 4
            book 'a#'
            kind(a) = 3
            left a is 4 9
            """);
        all.says("4 ORDER (a CELL: above another one)", """
            book 'a>b b[97,97]'
            kind(a) = 4
            left a is 98 99          -- above, not alike
            """);
        all.says("5 GONE (a CELL: from .. to, or 0: it was not).", """
            book 'a~7,9'
            kind(a) = 5
            left a is 0 7 8 9
            """);
    }

    private static void items(Sentences all) {
        all.says("A TEXT's items, with blanks (32) ahead, between, behind as many as wanted, within none:", """
            text 0 '   a#   b[1,2]  '
            fault(0) = NONE
            book(0) = 2
            text 0 'a#b[1,2]c=?d*abe>af~1,2g#'
            fault(0) = NONE
            book(0) = 7
            text 0 '                                                            '
            fault(0) = NONE
            book(0) = 0
            text 0 'a #'
            fault(0) = 1
            text 0 'a[ 1,2]'
            fault(0) = 2
            text 0 'a[1 ,2]'
            fault(0) = 3
            text 0 'a[1, 2]'
            fault(0) = 4
            text 0 'a[1,2 ]'
            fault(0) = 5
            text 0 'a[1 1,22]'
            fault(0) = 3
            text 0 'a= 5'
            fault(0) = 2
            text 0 'a=5 5'
            fault(0) = 4
            text 0 'a* bc'
            fault(0) = 2
            text 0 'a*b c'
            fault(0) = 3
            text 0 'a> b'
            fault(0) = 2
            text 0 'a~ 1,2'
            fault(0) = 2
            text 0 'a~1 ,2'
            fault(0) = 3
            text 0 'a~1, 2'
            fault(0) = 4
            text(0, 3) = 3
            put(0, 0, 9) = 1032      -- another sign than 32 is no blank
            fault(0) = 0
            """);
        all.says("a letter a .. l (97 ..), then:", """
            text 0 'a#l#'
            book(0) = 2
            text 0 '`#'
            fault(0) = 0
            text 0 'm#'
            fault(0) = 0
            text 0 'A#'
            fault(0) = 0
            text 0 '#'
            fault(0) = 0
            text 0 'a%'
            fault(0) = 1
            text 0 'ab'
            fault(0) = 1
            text(0, 2) = 2
            put(0, 0, 353) = 1032    -- 97, cut to a byte
            put(0, 1, 35) = 1032
            fault(0) = NONE
            put(0, 0, 225) = 1097    -- no letter, though 97 and 128 more
            fault(0) = 0
            """);
        all.says("[ (91) n , (44) m ] (93): from n to m;", """
            book 'a[0,99]b[5,5]'
            mark(a, 1) = UNLIKE
            kind(a) = 0
            left(a, 0) = 100
            left b is 5
            text 0 'a[,5]'
            fault(0) = 2
            text 0 'a[1]'
            fault(0) = 3
            text 0 'a[1.2]'
            fault(0) = 3
            text 0 'a[1,]'
            fault(0) = 4
            text 0 'a[1,2)'
            fault(0) = 5
            text 0 'a(1,2]'
            fault(0) = 1
            """);
        all.says("= (61) and one or two signs: a figure, ? (63, any figure), x (120: 3 or 8);", """
            book 'a=0b=9c=?d=xe=05f=?0g=x9h=xx'
            left a is 0
            left b is 9
            left c is 0..9
            left d is 3 8
            left e is 5
            left f is 0 10 20 30 40 50 60 70 80 90
            left g is 39 89
            left h is 33 38 83 88
            text 0 'a='
            fault(0) = 2
            text 0 'a=X'
            fault(0) = 2
            text 0 'a=/'
            fault(0) = 2
            text 0 'a=:'
            fault(0) = 2
            text 0 'a=1:'
            fault(0) = 3
            text 0 'a=123'
            fault(0) = 4             -- no third one
            text 0 'a=x?x'
            fault(0) = 4
            """);
        all.says("* (42) and two letters;", """
            book 'a*bcd*bb'
            mark(a, 2) = 14
            mark(d, 2) = 13          -- both may be one
            text 0 'a*'
            fault(0) = 2
            text 0 'a*1'
            fault(0) = 2
            text 0 'a*b'
            fault(0) = 3
            text 0 'a*b#'
            fault(0) = 3
            text 0 'a*bcd'
            fault(0) = 5             -- a third one begins an item
            """);
        all.says("# (35);", """
            book 'a#'
            mark(a, 3) = 0
            text 0 'a##'
            fault(0) = 2
            text 0 'a#5'
            fault(0) = 2
            """);
        all.says("> (62) and a letter;", """
            book 'a>l'
            mark(a, 4) = 11
            text 0 'a>'
            fault(0) = 2
            text 0 'a>5'
            fault(0) = 2
            text 0 'a>bc'
            fault(0) = 4
            """);
        all.says("~ (126) n , m: from n to m, or 0.", """
            book 'a~5,7b~0,99c~0,0'
            mark(a, 5) = 507
            left a is 0 5 6 7
            left(b, 0) = 100
            left c is 0
            text 0 'a~'
            fault(0) = 2
            text 0 'a~,7'
            fault(0) = 2
            text 0 'a~5'
            fault(0) = 3
            text 0 'a~5,'
            fault(0) = 4
            text 0 'a~5,7]'
            fault(0) = 5
            """);
        all.says("n, m: one or two figures, n no more than m;", """
            book 'a[0,9]b[10,99]c[00,09]d~9,10'
            left(a, 0) = 10
            left(b, 0) = 90
            left(c, 0) = 10
            mark(d, 5) = 910
            text 0 'a[7,7]'
            fault(0) = NONE
            text 0 'a[8,7]'
            fault(0) = 5
            text 0 'a[100,2]'
            fault(0) = 4
            text 0 'a[1,100]'
            fault(0) = 6
            text 0 'a~100,2'
            fault(0) = 4
            text 0 'a~1,100'
            fault(0) = 6
            text 0 'a[-1,2]'
            fault(0) = 2
            text 0 'a[x,9]'
            fault(0) = 2             -- no signs here
            text 0 'a~?,9'
            fault(0) = 2
            """);
        all.says("letters: another CELL than its own (also one that is told nowhere: then the CELL can hold nothing).", """
            text 0 'a>a'
            fault(0) = 3
            text 0 'a*ab'
            fault(0) = 3
            text 0 'a*ba'
            fault(0) = 4
            text 0 'a>m'
            fault(0) = 2
            text 0 'a*mb'
            fault(0) = 2
            text 0 'a*bm'
            fault(0) = 3
            book 'a>l'
            left(a, 0) = 0
            book 'a*bl b[1,1]'
            left(a, 0) = 0
            book 'a*lb b[1,1]'
            left(a, 0) = 0
            fillings none
            book 'a>l l[3,4]'
            left(a, 0) = 100
            book 'l[3,4] a>l'        -- told ahead or behind is no matter
            left(a, 0) = 100
            """);
    }

    private static void faults(Sentences all) {
        all.says("A FAULT is the first place at which it can't go on so", """
            text 0 'm'
            fault(0) = 0
            text 0 'a#m#'
            fault(0) = 2
            text 0 'a# b# c? d?'
            fault(0) = 7
            text 0 'a#,b['
            fault(0) = 2             -- not the later one
            text 0 'a[1,2]'
            fault(0) = NONE
            text(1, 60) = 60
            put(1, 59, 35) = 1032
            fault(1) = 59
            """);
        all.says("(the TEXT's size, if its end comes too early; n above m, its own letter: the place behind it).", """
            text 0 'a'
            fault(0) = 1
            text 0 'a['
            fault(0) = 2
            text 0 'a[1'
            fault(0) = 3
            text 0 'a[12'
            fault(0) = 4
            text 0 'a[12,'
            fault(0) = 5
            text 0 'a[12,2'
            fault(0) = 6
            text 0 'a[12,23'
            fault(0) = 7
            text 0 'a# b*c'
            fault(0) = 6
            text(1, 60) = 60
            put(1, 59, 97) = 1032
            fault(1) = 60
            text 0 'a[2,1]b#'
            fault(0) = 5
            text 0 'a[20,10]'
            fault(0) = 7
            text 0 'a[20,3]'
            fault(0) = 6
            text 0 'a~2,1 b#'
            fault(0) = 5
            text 0 'a~20,19b#'
            fault(0) = 7
            text 0 'b>bc#'
            fault(0) = 3
            text 0 'b*bc'
            fault(0) = 3
            text 0 'b*cb d#'
            fault(0) = 4
            text 0 'a[2,1]b?'
            fault(0) = 5             -- the first
            text 0 'a>a m'
            fault(0) = 3
            """);
        all.says("Of items of one letter the last counts.", """
            book 'a[1,2]a#a~3,4a=7'
            there(0) = 1
            kind(a) = 1
            left a is 7
            book 'a=7 b[0,1] a>b'
            there(0) = 2
            kind(a) = 4
            text 0 'a>a a[1,2]'      -- but none may be wrong
            fault(0) = 3
            """);
    }

    private static void bookSumsHeap(Sentences all) {
        all.says("THE BOOK is what the latest TEXT told (all CELLS anew);", """
            book 'a[1,2]b#'
            book 'c[1,2]'
            there(0) = 1
            kind(a) = NOTHING
            kind(b) = NOTHING
            text 3 'd#e#'
            there(0) = 1             -- not told as long as book() did not come
            kind(c) = 0
            read(c, 5) = 0
            book 'c[1,2]'
            left c is 1 2            -- what was read is told anew
            new
            book 'a>bb[0,3]'
            sum({ad}, 0, 2) = 1
            fillings 2 0 | 2 1
            book 'a>cb[0,1]c[0,1]d[0,1]'     -- no RULE of the other one is left
            fillings 1 0 0 1 | 1 1 0 1 | 2 0 0 0 | 2 0 1 0 | 2 1 0 0 | 2 1 1 0
            """);
        all.says("SUMS (8 at most): of some CELLS less some others (bits) is a total (-999 .. 9999);", """
            book 'a[1,9]b[1,9]c[1,9]'
            sum({ab}, {c}, 17) = 1
            fillings 9 9 1
            total(0, -7) = 17
            fillings 1 1 9
            clear() = 1
            sum({a}, 0, -999) = 1
            sum({a}, 0, 9999) = 2
            sum(0, {a}, -5) = 3
            sum({a}, 0, 1) = 4
            sum({a}, 0, 1) = 5
            sum({a}, 0, 1) = 6
            sum({a}, 0, 1) = 7
            sum({a}, 0, 1) = 8
            sum({a}, 0, 1) = FULL
            sum({a}, 0, -1000) = BAD
            sum({a}, 0, 10000) = BAD
            """);
        all.says("THE HEAP is a ROW's numbers (12 at most; empty at first).", """
            there(2) = 0
            book 'a#'
            left(a, 0) = 0
            row(0, 12) = 12
            heap(0) = 12
            there(2) = 12
            left(a, 0) = 1
            row(0, 13) = 13
            heap(0) = SIZE
            """);
    }

    private static void rules(Sentences all) {
        all.says("RULES of CELLS: what their KIND tells: from .. to; signs; the product of both;", """
            book 'a[2,3]b=x c*ab'
            fillings 2 3 6 | 2 8 16 | 3 3 9 | 3 8 24
            """);
        all.says("a number of THE HEAP, all SAME ones together each no more often than it is there;", """
            heap 4 9 4
            book 'a#b#'
            fillings 4 4 | 4 9 | 9 4          -- 9 is there once
            book 'a#b#c#'
            fillings 4 4 9 | 4 9 4 | 9 4 4
            book 'a#b#c#d#'
            fillings none
            book 'a#b[4,9]c[4,9]'
            sum({b}, 0, 4) = 1
            sum({c}, 0, 4) = 2
            fillings 4 4 4 | 9 4 4            -- other ones take nothing of it
            """);
        all.says("above the other; 0 or from .. to.", """
            book 'a[5,6]b>ac~98,98'
            sum({b}, 0, 6) = 1
            fillings 5 6 0 | 5 6 98
            """);
        all.says("A FILLING tells each CELL of THE BOOK a number 0 .. 99, by its RULE, and all SUMS come out.", """
            book 'a*bb b[9,11]'
            fillings 81 9                     -- 100 is none
            book 'a>b b[98,99]'
            fillings 99 98
            book 'a[0,2]b[0,2]'
            sum({ab}, 0, 2) = 1
            sum({a}, {b}, 0) = 2
            fillings 1 1
            """);
        all.says("(A SUM of CELLS that are missing: these are 0.)", """
            book 'a[0,9]'
            sum({al}, {k}, 4) = 1
            fillings 4
            clear() = 1
            sum({l}, 0, 0) = 1
            sum(0, {kl}, 0) = 2
            count(99) = 10
            """);
    }
}
