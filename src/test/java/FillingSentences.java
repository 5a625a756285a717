/** The sentences of "Terms", parts 2 and 3, and of promises 19 to 33: narrowed, fillings, pages, the other book. */
final class FillingSentences {
    private FillingSentences() {
    }

    static void addTo(Sentences all) {
        atFirst(all);
        narrowed(all);
        goingThrough(all);
        wrongTerm(all);
        otherTerms(all);
        leftEndsMay(all);
        burnt(all);
        count(all);
        fill(all);
        could(all);
        mustAndSure(all);
        like(all);
        wrong(all);
        next(all);
        judge(all);
        orders(all);
        matches(all);
    }

    private static void atFirst(Sentences all) {
        all.under("Terms");
        all.says("MAY: numbers of a CELL that are left: at first those of its KIND alone (CELL, GONE: from .. to, and 0;", """
            book 'a[3,5]b~3,5c~0,2d[0,0]e[0,99]f~1,99'
            left(a, 0) = 3
            left(b, 0) = 4
            left(c, 0) = 3
            left(d, 0) = 1
            left(e, 0) = 100
            left(f, 0) = 100
            sum({a}, 0, 4) = 1
            left(a, 0) = 3           -- of its KIND alone: no SUM is looked at
            left(a, 1) = 1
            """);
        all.says("FIGURE by signs;", """
            book 'a=5b=?c=x?d=??'
            left(a, 0) = 1
            left(b, 0) = 10
            left(c, 0) = 20
            left(d, 0) = 100
            """);
        all.says("SAME: those of THE HEAP;", """
            book 'a#b#'
            left(a, 0) = 0
            heap 7 7 12
            left(a, 0) = 2
            left(b, 0) = 2
            left b is 7 12
            """);
        all.says("TIMES, ORDER: all, none if one that it names is missing).", """
            book 'a*bbb[5,5]c>bd*eb f*bef>e'
            left(a, 0) = 100
            left(c, 0) = 100
            left(d, 0) = 0
            left(f, 0) = 0
            book 'a*bcb[5,5]'
            left(a, 0) = 0
            left(b, 0) = 1
            """);
    }

    private static void narrowed(Sentences all) {
        all.says("NARROWED to a stand: a number goes, if by the least and the greatest that are left of others a SUM, a product, an order can't be:", """
            book 'a[0,9]b=x'
            sum({ab}, 0, 10) = 1
            left a is 2..7           -- 3 to 6 stay, as only ends are looked at
            left b is 3 8
            clear() = 1
            book 'a>bb>cc>dd[90,99]' -- from one to the next, up and down
            left a is 93..99
            left b is 92..98
            left c is 91..97
            left d is 90..96
            book 'd>cc>bb>aa[90,99]'
            left d is 93..99
            left a is 90..96
            """);
        all.says("of a SUM: with that number the total lies without what the others can make together;", """
            book 'a[0,20]b[2,4]'
            sum({ab}, 0, 10) = 1
            left a is 6..8
            left b is 2..4
            clear() = 1
            sum({a}, {b}, 10) = 1
            left a is 12..14
            clear() = 1
            sum({b}, {a}, 0) = 1
            left a is 2..4
            clear() = 1
            sum(0, {ab}, -10) = 1
            left a is 6..8
            clear() = 1
            sum({a}, 0, 5) = 1       -- the others make 0
            left a is 5
            left b is 2..4
            clear() = 1
            sum({al}, {k}, 5) = 1    -- missing ones, too
            left a is 5
            """);
        all.says("of TIMES: its own number lies without least by least and greatest by greatest of both;", """
            book 'a*bcb[2,3]c[4,5]'
            left a is 8..15
            book 'a*bcb[0,3]c[4,5]'
            left a is 0..15
            book 'a*bcb[8,20]c[9,20]'
            left a is 72..99
            book 'a*bbb[3,4]'
            left a is 9..16
            """);
        all.says("of a CELL that is multiplied (with itself, too): times the least of the other (itself: by the least left) it is above"
            + " the greatest product that is left, or times the greatest below the least;", """
            book 'a*bcb[1,20]c[3,5]'
            sum({a}, 0, 30) = 1
            left b is 6..10
            left c is 3..5
            book 'a*bcb[3,5]c[1,20]' -- either of both
            left b is 3..5
            left c is 6..10
            book 'a*bbb[2,60]'
            total(0, 36) = 30
            left b is 2..18          -- by itself: 2 times 18
            book 'a*bbb[0,60]'
            left b is 1..36
            book 'a*bcb[0,5]c[0,9]'
            total(0, 10) = 36
            left b is 2..5           -- times 0 is above nothing
            left c is 2..5
            book 'a*bcb[0,0]c[1,5]'
            left b is none           -- 0 makes no 10
            book 'a*bcb[1,1]c[0,50]'
            left c is 10             -- 1 makes it of itself alone
            book 'a*bcb[8,20]c[9,20]'
            clear() = 1
            left b is 8..11          -- the greatest product is 99
            left c is 9..12
            new
            book 'a*bcb[0,0]c[0,99]'
            left a is 0
            left b is 0
            left(c, 1) = 100         -- whatever the other is, it is 0
            ends(c) = 0 asked 99
            """);
        all.says("of ORDER: it is not above the least of the other;", """
            book 'a>bb[4,90]'
            left a is 5..99
            book 'b>aa[98,99]'
            left b is 99
            book 'b>aa[99,99]'
            left b is none
            """);
        all.says("of the other: it is not below the greatest of that.", """
            book 'a>bb[0,99]'
            sum({a}, 0, 10) = 1
            left b is 0..9
            total(0, 1) = 10
            left b is 0
            total(0, 0) = 1
            left b is none
            clear() = 1
            left b is 0..98
            """);
        all.says("Until nothing goes.", """
            book 'a[0,99]b[0,99]'
            sum({a}, {b}, 0) = 1
            sum({b}, {a}, 1) = 2     -- one goes at each turn, a hundred times
            left a is none
            new
            book 'a[0,99]b[0,99]c[0,99]d[0,99]e[0,99]f[0,99]g[0,99]h[0,99]'
            sum({a}, {b}, 0) = 1
            sum({c}, {d}, 0) = 2
            sum({e}, {f}, 0) = 3
            sum({g}, {h}, 0) = 4
            sum({b}, {c}, 0) = 5
            sum({d}, {e}, 0) = 6
            sum({f}, {g}, 0) = 7
            sum({h}, {a}, 1) = 8     -- all alike, but the last one more: some 200 turns
            left a is none
            left h is none
            new
            book 'a[0,99]b[0,99]c[0,1]'
            sum({a}, {b}, 0) = 1
            sum({b}, {ac}, 0) = 2
            left a is 0..99          -- c stays two, so nothing goes
            left c is 0 1
            """);
        all.says("As soon as a CELL has no number left (at first, too), none is left of any.", """
            book 'a[1,2]b[5,5]c~1,3'
            sum({b}, 0, 6) = 1
            left a is none
            left b is none
            left c is none
            may(c, 0) = 0
            clear() = 1
            book 'a[1,2]b#'          -- at first
            left(a, 0) = 2
            left a is none
            count(1) = 0 asked 0
            book 'a[1,2]b>c'
            left(a, 0) = 2
            left a is none
            """);
    }

    private static void goingThrough(Sentences all) {
        all.says("GOING THROUGH: CELLS of THE BOOK by number, each with its numbers that are left (NARROWED), rising, those ahead being told:", """
            book 'b[1,3]a[1,2]'      -- a is ahead of b, whatever the TEXT
            fillings 1 1 | 1 2 | 1 3 | 2 1 | 2 2 | 2 3
            book 'l[4,5]b~7,7'
            fillings 0 4 | 0 5 | 7 4 | 7 5
            """);
        all.says("each one that is tried is a STEP;", """
            book 'b[1,3]a[1,2]'
            count(99) = 6 asked 8    -- 2 and 2 by 3
            sum({ab}, 0, 4) = 1
            count(99) = 2 asked 6    -- NARROWED: 2 and 2 by 2
            clear() = 1
            book 'a[1,1]c[2,2]'
            count(99) = 1 asked 2    -- missing ones are not tried
            """);
        all.says("it goes on, if no RULE of CELLS told so far, and no SUM of which all CELLS are told, is broken", """
            book 'a[1,3]b>ac[0,1]'
            sum({bc}, 0, 4) = 1
            count(99) = 5 asked 19   -- 3, 6, and 5 by 2
            new
            book 'a[0,1]b[0,1]c[0,1]'
            sum({ab}, 0, 1) = 1
            count(99) = 4 asked 10   -- 2, 4, and 2 by 2
            clear() = 1
            sum({a}, {b}, 0) = 1
            sum({ab}, 0, 1) = 2      -- both end at b
            count(99) = 0 asked 6
            new
            book 'a[0,1]k[0,1]l[0,1]'
            sum({al}, 0, 1) = 1      -- not ahead of the last one
            fillings 0 0 1 | 0 1 1 | 1 0 0 | 1 1 0
            count(99) = 4 asked 14
            """);
        all.says("(a RULE is looked at as all that it names are told; of SAME ones each time).", """
            book 'a>bb[0,1]c[0,1]'
            sum({ac}, 0, 2) = 1
            count(99) = 3 asked 12   -- 2, 4, and 3 by 2
            new
            book 'a*bcb[2,3]c[2,3]'
            count(99) = 4 asked 42   -- 6, 12, 24: not ahead of c
            book 'a*cbb[2,3]c[2,3]'
            count(99) = 4 asked 42   -- whichever is named first
            book 'a[2,3]b*acc[2,3]d[0,1]'
            count(99) = 8 asked 46   -- 2, 12, 24, and 4 by 2
            book 'a[2,3]b[2,3]c*ab'
            count(99) = 4 asked 30   -- 2, 4, 24
            new
            heap 2 2 3
            book 'a#b#c#'
            count(99) = 3 asked 12   -- 2, 4, and 3 by 2: 3 is there once
            heap 2 2 2 3
            book 'a#b[0,1]c#'
            count(99) = 6 asked 14   -- 2, 4, 8: 3 twice goes at c
            new
            heap 4 5
            book 'a>cb#c[0,1]d[0,1]'
            sum({ad}, 0, 2) = 1
            fillings 1 4 0 1 | 1 5 0 1 | 2 4 0 0 | 2 4 1 0 | 2 5 0 0 | 2 5 1 0  -- a's is not looked at with b's
            """);
        all.says("A SUM of which no CELL is there is looked at ahead of all: broken, there is no FILLING, and no STEP.", """
            book 'a[1,9]'
            sum({l}, 0, 1) = 1
            count(1) = 0 asked 0
            fill(0, 1, 1) = NONE
            left a is 1..9           -- it narrows nothing
            total(0, 0) = 1
            count(9) = 9 asked 9
            sum(0, {kl}, -3) = 2
            count(1) = 0 asked 0
            total(1, 3) = -3
            count(1) = 0 asked 0
            """);
        all.says("(Without CELLS there is one FILLING, if no SUM is broken.)", """
            count(1) = 1 asked 0
            fill(0, 0, 1) = 1
            row 0 is -1 -1 -1 -1 -1 -1 -1 -1 -1 -1 -1 -1
            fill(1, 0, 1) = NONE
            sum({a}, {b}, 0) = 1
            count(1) = 1 asked 0
            sum({a}, 0, 1) = 2
            count(1) = 0 asked 0
            """);
        all.says("More than so many STEPS (1 .. 20000 told): SPENT.", """
            book 'a[0,0]'
            count(1) = 1 asked 1
            book 'a[0,1]'
            count(1) = SPENT
            book 'a[0,1]b[0,98]c[0,99]'
            count(20000) = 19800 asked 20000 -- 2, 198, 19800
            count(19999) = SPENT
            book 'a[0,2]b[0,65]c[0,99]'
            count(20000) = SPENT             -- 20001 are due
            count(20001) = BAD
            count(0) = BAD
            """);
        all.says("FILLINGS come in this order.", """
            book 'a[1,2]b=x'
            fillings 1 3 | 1 8 | 2 3 | 2 8
            """);
    }

    private static void wrongTerm(Sentences all) {
        all.says("WRONG: if there is no FILLING: the fewest SUMS left out so that there is one, of alike ones the least bits;", """
            book 'a[1,9]b[1,9]'
            sum({a}, 0, 4) = 1
            wrong(99) = 0
            sum({a}, 0, 5) = 2
            wrong(99) = 1            -- 2 would do, too
            sum({a}, 0, 5) = 3
            wrong(99) = 1            -- one, not the other two
            sum({a}, 0, 4) = 4
            wrong(99) = 6            -- 1 and 2, or 0 and 3 are 9
            sum({b}, 0, 10) = 5
            wrong(99) = 22
            """);
        all.says("each set gone through by itself till a FILLING is found (NARROWED without them), with so many STEPS each;", """
            book 'a=xb=xc=x'
            sum({abc}, 0, 16) = 1
            count(99) = 0 asked 14   -- 2, 4, 8
            wrong(14) = 1            -- 14, and 3 more without it
            wrong(13) = SPENT
            new
            book 'a[0,99]b[0,99]'
            sum({ab}, 0, 198) = 1
            wrong(2) = 0             -- till a FILLING is found, not to the end
            wrong(1) = SPENT
            sum({a}, 0, 7) = 2
            wrong(2) = 1             -- without the first a is 7 at once
            """);
        all.says("SPENT, if one is SPENT that is gone through (by fewer SUMS, then bits).", """
            book 'a[0,9]b=x'
            sum({ab}, 0, 12) = 1
            sum({a}, 0, 5) = 2
            wrong(2) = 1             -- two STEPS; without the other three, but that comes later
            total(1, 4) = 5
            wrong(2) = 0
            new
            book 'a[0,9]b=x'
            sum({a}, 0, 5) = 1
            sum({ab}, 0, 12) = 2
            wrong(2) = SPENT         -- three STEPS come first
            wrong(3) = 1
            sum({l}, 0, 1) = 3
            wrong(2) = SPENT         -- without 0 and 2, ahead of 1 and 2
            wrong(3) = 5
            """);
    }

    private static void otherTerms(Sentences all) {
        all.says("LIKE: ten weights 0 .. 99 for last figures (a ROW): a FILLING weighs what its CELLS' last figures do together;"
            + " the greatest, the first of alike ones.", """
            lay 0: 0 1 0 0 0 0 0 0 0 99
            book 'a[10,12]c[8,9]'
            like(0, 1, 99) = 100
            row 1 is 11 -1 9 -1 -1 -1 -1 -1 -1 -1 -1 -1
            lay 0: 5 0 0 0 0 0 0 0 0 0
            book 'a[0,20]'
            like(0, 1, 99) = 5
            row 1 is 0 -1 -1 -1 -1 -1 -1 -1 -1 -1 -1 -1
            lay 0: 4 0 0 5 0 0 0 0 0 5
            like(0, 1, 99) = 5
            row 1 is 3 -1 -1 -1 -1 -1 -1 -1 -1 -1 -1 -1
            lay 0: 0 0 0 0 0 0 0 0 0 100
            like(0, 1, 99) = UNLIKE
            lay 0: 0 0 0 0 0 0 0 0 0
            like(0, 1, 99) = SIZE
            """);
        all.says("WORTH of a CELL: over its numbers in FILLINGS the most FILLINGS with one of them.", """
            book 'a[0,2]b[0,1]c*ab'
            sum({c}, 0, 0) = 1
            next(99) = a asked 2     -- 0 0, 0 1, 1 0, 2 0: 0 is twice, b and c more often
            clear() = 1
            book 'a[0,1]b=x c[0,9]'
            sum({c}, {ab}, 0) = 1
            next(999) = c asked 1    -- 3 4 8 9: each once
            """);
        all.says("NEXT: the CELL with the least WORTH, the first of alike ones.", """
            book 'a[1,2]b[1,3]c[1,3]'
            next(99) = b asked 6
            book 'd[1,3]c[1,3]'
            next(99) = c asked 3
            """);
        all.says("PAGES (1 .. 6): a ROW of pairs: what is carried in, out (NONE: burnt).", """
            lay 0: 3 4
            orders(0) = 1 asked 1
            lay 0: 4 5 3 4
            orders(0) = 1 asked 21
            lay 0: 1 2 2 3 3 4 4 5 5 6 6 7
            orders(0) = 1 asked 123456
            lay 0: 4 5 3 NONE
            orders(0) = 1 asked 21
            row(0, 14) = 14
            orders(0) = SIZE
            row(0, 0) = 0
            orders(0) = SIZE
            row(0, 3) = 3
            orders(0) = SIZE
            """);
        all.says("ORDERS: all in which of each two behind one another what is carried out and in is alike, or one of them is burnt.", """
            lay 0: 1 1 1 1 1 1
            orders(0) = 6 asked 123
            lay 0: 1 2 3 4
            orders(0) = 0 asked 0
            lay 0: 1 NONE 3 4
            orders(0) = 1 asked 12
            lay 0: NONE 2 3 4
            orders(0) = 1 asked 21
            lay 0: 7 5 5 8           -- the first in and the last out are no matter
            orders(0) = 1 asked 12
            lay 0: 0 5 5 0 5 5
            orders(0) = 3 asked 132
            """);
        all.says("MATCHES: all ways to give SAME CELLS different places of THE HEAP (each a number that is left of it, NARROWED;"
            + " SUMS are not looked at again);", """
            heap 5 7 7
            book 'a#b#'
            matches() = 6 asked 0    -- two places of 7 are two ways
            sum({ab}, 0, 12) = 1
            matches() = 6 asked 0    -- 7 and 7 is no 12, but 7 is left of both
            sum({a}, {c}, 7) = 2
            matches() = 2 asked {ab} -- NARROWED: a is 7, b is 5
            total(1, 6) = 7
            matches() = 0 asked 0
            """);
        all.says("FORCED is a SAME CELL, if in all it has one number.", """
            heap 7 7
            book 'b#d#'
            matches() = 2 asked {bd} -- two places, but one number
            heap 7 7 8
            matches() = 6 asked 0
            sum({b}, 0, 8) = 1
            matches() = 2 asked {bd} -- d has what is over
            clear() = 1
            heap 1 2 3
            book 'a#b#c#d[0,1]e[0,1]'
            sum({a}, {d}, 1) = 1
            sum({b}, {e}, 1) = 2
            matches() = 2 asked {c}  -- 1 and 2 go to a and b
            clear() = 2
            heap 1 2
            book 'a#b#'
            sum({b}, 0, 1) = 1
            matches() = 1 asked {ab} -- 1 is left of a, but b has to have it
            """);
    }

    private static void leftEndsMay(Sentences all) {
        all.under("Promise 19: left");
        all.says("How many numbers of a CELL are left at first (0), NARROWED (1).", """
            book 'a[0,9]b[0,4]'
            sum({a}, {b}, 3) = 1
            left(a, 0) = 10
            left(a, 1) = 5
            left(b, 0) = 5
            left(b, 1) = 5
            sum({a}, 0, 99) = 2
            left(a, 0) = 10
            left(a, 1) = 0
            """);
        all.says("BAD; NOTHING.", """
            book 'a[0,9]'
            left(12, 0) = BAD
            left(-1, 1) = BAD
            left(a, 2) = BAD
            left(a, -1) = BAD
            left(b, 2) = BAD
            left(b, 0) = NOTHING
            left(b, 1) = NOTHING
            left(l, 1) = NOTHING
            """);
        all.under("Promise 20: ends");
        all.says("The least number of a CELL that is left, NARROWED; the greatest by asked().", """
            book 'a[0,9]b~5,7c=x9'
            ends(a) = 0 asked 9
            ends(b) = 0 asked 7
            ends(c) = 39 asked 89
            sum({ab}, 0, 10) = 1
            ends(a) = 3 asked 5
            ends(b) = 5 asked 7
            """);
        all.says("NONE: none.", """
            book 'a[0,9]b[1,1]'
            ends(a) = 0 asked 9
            sum({a}, 0, 10) = 1
            ends(a) = NONE
            ends(b) = NONE
            asked() = 9
            """);
        all.says("BAD; NOTHING.", """
            book 'a[0,9]'
            ends(12) = BAD
            ends(-1) = BAD
            ends(b) = NOTHING
            ends(l) = NOTHING
            """);
        all.under("Promise 21: may");
        all.says("Whether a number (0 .. 99) of a CELL is left, NARROWED: 1, 0.", """
            book 'a=??b[0,0]'
            may(a, 0) = 1
            may(a, 99) = 1
            may(b, 0) = 1
            may(b, 1) = 0
            may(b, 99) = 0
            sum({ab}, 0, 50) = 1
            may(a, 50) = 1
            may(a, 49) = 0
            may(a, 51) = 0
            """);
        all.says("BAD; NOTHING.", """
            book 'a[0,9]'
            may(12, 0) = BAD
            may(-1, 0) = BAD
            may(a, 100) = BAD
            may(a, -1) = BAD
            may(b, 100) = BAD
            may(b, 0) = NOTHING
            may(l, 99) = NOTHING
            """);
    }

    private static void burnt(Sentences all) {
        all.under("Promise 22: burnt");
        all.says("The first SUM that can't come out by the least and the greatest numbers of its CELLS that are left at first", """
            book 'a[1,5]b[2,6]'
            sum({ab}, 0, 3) = 1
            sum({ab}, 0, 11) = 2     -- the ends themselves can be
            sum({a}, {b}, -5) = 3
            sum({a}, {b}, 3) = 4
            burnt() = NONE           -- each by itself
            left(a, 1) = 0
            burnt() = -9             -- at first, not NARROWED
            total(3, 4) = 3
            burnt() = 3
            total(2, -6) = -5
            burnt() = 2              -- the first
            total(1, 12) = 11
            burnt() = 1
            total(0, 2) = 3
            burnt() = 0
            clear() = 4
            sum({c}, 0, 0) = 1
            burnt() = NONE
            total(0, 1) = 0
            burnt() = 0              -- missing ones are 0
            """);
        all.says("(or one of which has none);", """
            book 'a>c b[0,99]'
            sum({b}, 0, 5) = 1
            burnt() = NONE           -- a is none of its CELLS
            sum({ab}, 0, 5) = 2
            burnt() = 1
            clear() = 2
            sum({b}, {a}, 5) = 1
            burnt() = 0
            total(0, -50) = 5
            burnt() = 0
            book 'a>c b[0,99]d[0,99]'
            clear() = 1
            sum({abd}, 0, 150) = 1
            burnt() = 0              -- whatever the others make
            """);
        all.says("NONE.", """
            burnt() = NONE
            book 'a[1,2]'
            burnt() = NONE
            sum({a}, 0, 1) = 1
            sum({a}, 0, 2) = 2
            burnt() = NONE           -- though both can't be
            count(9) = 0
            """);
    }

    private static void count(Sentences all) {
        all.under("Promise 23: count");
        all.says("How many FILLINGS there are; STEPS by asked().", """
            count(1) = 1 asked 0
            book 'a[1,2]b[1,3]'
            count(99) = 6 asked 8
            sum({a}, 0, 3) = 1
            count(99) = 0 asked 0
            """);
        all.says("BAD: turns 1 .. 20000;", """
            count(0) = BAD
            count(-1) = BAD
            count(MIN) = BAD
            count(20001) = BAD
            count(MAX) = BAD
            count(1) = 1
            count(20000) = 1
            """);
        all.says("SPENT.", """
            book 'a[1,2]b[1,3]'
            count(8) = 6
            count(7) = SPENT
            count(1) = SPENT
            asked() = 8
            """);
    }

    private static void fill(Sentences all) {
        all.under("Promise 24: fill");
        all.says("FILLING i (0 the first) comes to a ROW of twelve (anew; missing CELLS -1): 1.", """
            book 'b[1,2]d[5,6]'
            lay 0: 1 2 3
            fill(0, 0, 99) = 1
            row 0 is -1 1 -1 5 -1 -1 -1 -1 -1 -1 -1 -1
            fill(2, 0, 99) = 1
            row 0 is -1 2 -1 5 -1 -1 -1 -1 -1 -1 -1 -1
            row(1, 40) = 40
            fill(3, 1, 99) = 1
            row 1 is -1 2 -1 6 -1 -1 -1 -1 -1 -1 -1 -1
            fill(1, 5, 99) = 1       -- to one that was missing
            row 5 is -1 1 -1 6 -1 -1 -1 -1 -1 -1 -1 -1
            """);
        all.says("NONE: not so many.", """
            book 'a[1,2]'
            lay 0: 7
            fill(2, 0, 99) = NONE
            fill(MAX, 0, 99) = NONE
            fill(0, 1, 99) = 1
            sum({a}, 0, 3) = 1
            fill(0, 0, 99) = NONE
            row 0 is 7
            """);
        all.says("BAD;", """
            book 'a[1,2]'
            fill(-1, 0, 99) = BAD
            fill(MIN, 0, 99) = BAD
            fill(0, 6, 99) = BAD
            fill(0, -1, 99) = BAD
            fill(0, 0, 0) = BAD
            fill(0, 0, -1) = BAD
            fill(0, 0, 20001) = BAD
            fill(0, 0, 20000) = 1
            """);
        all.says("SPENT: till it is found, or none is left.", """
            book 'b[1,2]d[5,6]'
            fill(0, 0, 1) = SPENT
            fill(0, 0, 2) = 1
            fill(1, 0, 2) = SPENT
            fill(1, 0, 3) = 1
            fill(2, 0, 4) = SPENT
            fill(2, 0, 5) = 1
            fill(3, 0, 5) = SPENT
            fill(3, 0, 6) = 1
            fill(4, 0, 5) = SPENT
            fill(4, 0, 6) = NONE
            """);
    }

    private static void could(Sentences all) {
        all.under("Promise 25: could");
        all.says("How many FILLINGS have a number (0 .. 99) in a CELL;", """
            book 'a[0,2]b[0,1]c*ab'
            sum({c}, 0, 0) = 1
            could(a, 0, 99) = 2
            could(a, 2, 99) = 1
            could(b, 0, 99) = 3
            could(c, 0, 99) = 4
            could(c, 1, 99) = 0
            could(a, 99, 99) = 0
            """);
        all.says("the share of all told by upper(), lower() (none: 0 by 1).", """
            book 'a[0,2]b[0,3]'
            could(a, 0, 99) = 4 share 1/3
            could(b, 0, 99) = 3 share 1/4
            could(a, 3, 99) = 0 share 0/1
            sum({a}, {b}, 0) = 1
            could(b, 1, 99) = 1 share 1/3
            sum({a}, 0, 0) = 2
            could(b, 0, 99) = 1 share 1/1
            sum({a}, 0, 1) = 3
            could(b, 0, 99) = 0 share 0/1
            """);
        all.says("BAD; SPENT; NOTHING.", """
            book 'a[0,2]'
            could(12, 0, 99) = BAD
            could(-1, 0, 99) = BAD
            could(a, 100, 99) = BAD
            could(a, -1, 99) = BAD
            could(a, 0, 0) = BAD
            could(a, 0, 20001) = BAD
            could(a, 0, 2) = SPENT
            could(a, 0, 3) = 1
            could(b, 0, 99) = NOTHING
            could(b, 100, 99) = BAD
            """);
        all.says("(SPENT last.)", """
            book 'a[0,2]'
            could(b, 0, 1) = NOTHING
            could(a, 0, 1) = SPENT
            """);
    }

    private static void mustAndSure(Sentences all) {
        all.under("Promise 26: must");
        all.says("The least number of a CELL in all FILLINGS; the greatest by asked().", """
            book 'a*bbb[2,60]'
            sum({a}, 0, 36) = 1
            ends(b) = 2 asked 18
            must(b, 99) = 6 asked 6  -- no other one has FILLINGS
            clear() = 1
            book 'a[0,9]b=x'
            sum({ab}, 0, 12) = 1
            must(a, 99) = 4 asked 9
            must(b, 99) = 3 asked 8
            book 'a[0,0]b[99,99]'
            clear() = 1
            must(a, 99) = 0 asked 0
            must(b, 99) = 99 asked 99
            book 'a[3,4]b[0,1]l[5,6]'
            must(a, 99) = 3 asked 4
            must(l, 99) = 5 asked 6
            """);
        all.says("NONE: no FILLING.", """
            book 'a[0,9]'
            must(a, 99) = 0 asked 9
            sum({a}, 0, 10) = 1
            must(a, 99) = NONE
            asked() = 9
            """);
        all.says("BAD; NOTHING; SPENT.", """
            book 'a[0,9]'
            must(12, 99) = BAD
            must(-1, 99) = BAD
            must(a, 0) = BAD
            must(a, 20001) = BAD
            must(b, 0) = BAD
            must(b, 99) = NOTHING
            must(a, 9) = SPENT
            must(a, 10) = 0 asked 9
            """);
        all.says("(SPENT last.)", """
            book 'a[0,9]'
            must(b, 9) = NOTHING
            must(a, 9) = SPENT
            """);
        all.under("Promise 27: sure");
        all.says("CELLS (bits) that have one number in all FILLINGS (none: 0).", """
            book 'a[0,0]b[0,1]c[3,4]l[7,7]'
            sure(99) = {al}
            sum({bc}, 0, 5) = 1
            sure(99) = {abcl}
            total(0, 4) = 5
            sure(99) = {al}
            total(0, 6) = 4
            sure(99) = 0             -- no FILLING
            clear() = 1
            book 'a*bbb[2,60]'
            sum({a}, 0, 36) = 1
            sure(99) = {ab}          -- though more are left, NARROWED
            clear() = 1
            book ''
            sure(99) = 0             -- no CELL
            """);
        all.says("BAD; SPENT.", """
            book 'a[0,9]'
            sure(0) = BAD
            sure(-1) = BAD
            sure(20001) = BAD
            sure(9) = SPENT
            sure(10) = 0
            """);
    }

    private static void like(Sentences all) {
        all.under("Promise 28: like");
        all.says("LIKE: what the likeliest FILLING weighs; it comes to a ROW as by fill().", """
            lay 0: 0 0 7 0 0 9 0 0 0 0
            book 'b[11,15]d[2,3]'
            lay 1: 1 2 3
            like(0, 1, 99) = 16
            row 1 is -1 15 -1 2 -1 -1 -1 -1 -1 -1 -1 -1
            row 0 is 0 0 7 0 0 9 0 0 0 0
            sum({bd}, 0, 15) = 1
            like(0, 1, 99) = 7
            row 1 is -1 12 -1 3 -1 -1 -1 -1 -1 -1 -1 -1
            like(0, 0, 99) = 7               -- to the ROW of weights itself
            row 0 is -1 12 -1 3 -1 -1 -1 -1 -1 -1 -1 -1
            book ''
            clear() = 1
            row(0, 10) = 10
            like(0, 2, 1) = 0                -- without CELLS
            row 2 is -1 -1 -1 -1 -1 -1 -1 -1 -1 -1 -1 -1
            book 'b[11,15]'
            like(0, 2, 99) = 0               -- no weight at all
            row 2 is -1 11 -1 -1 -1 -1 -1 -1 -1 -1 -1 -1
            """);
        all.says("NONE: no FILLING.", """
            row(0, 10) = 10
            lay 1: 7
            book 'a[1,2]'
            sum({a}, 0, 3) = 1
            like(0, 1, 99) = NONE
            row 1 is 7
            """);
        all.says("BAD;", """
            row(0, 10) = 10
            like(6, 1, 99) = BAD
            like(-1, 1, 99) = BAD
            like(0, 6, 99) = BAD
            like(0, -1, 99) = BAD
            like(0, 1, 0) = BAD
            like(0, 1, 20001) = BAD
            like(3, 1, 0) = BAD
            like(0, 1, 20000) = 0
            """);
        all.says("NOTHING: the ROW of weights;", """
            like(0, 1, 99) = NOTHING
            row(1, 10) = 10
            like(0, 1, 99) = NOTHING
            like(1, 0, 99) = 0               -- the other may be missing
            there(3) = 2
            """);
        all.says("SIZE: not ten;", """
            row(0, 9) = 9
            like(0, 1, 99) = SIZE
            row(0, 11) = 11
            like(0, 1, 99) = SIZE
            lay(0, 0, 100) = 1
            like(0, 1, 99) = SIZE            -- ahead of UNLIKE
            row(0, 0) = 0
            like(0, 1, 99) = SIZE
            row(0, 10) = 10
            like(0, 1, 99) = 0
            """);
        all.says("UNLIKE: a weight;", """
            lay 0: 0 99 0 0 0 0 0 0 0 99
            like(0, 1, 99) = 0
            lay(0, 9, 100) = 1
            like(0, 1, 99) = UNLIKE
            lay(0, 9, -1) = 1
            like(0, 1, 99) = UNLIKE
            lay(0, 9, 0) = 1
            lay(0, 0, 100) = 1
            like(0, 1, 99) = UNLIKE
            """);
        all.says("SPENT. (SPENT last.)", """
            book 'a[0,9]'
            row(0, 10) = 10
            like(0, 1, 9) = SPENT
            like(0, 1, 10) = 0
            like(2, 1, 9) = NOTHING
            lay(0, 0, 100) = 1
            like(0, 1, 9) = UNLIKE
            row(0, 9) = 9
            like(0, 1, 9) = SIZE
            """);
    }

    private static void wrong(Sentences all) {
        all.under("Promise 29: wrong");
        all.says("WRONG (bits of SUMS; 0: there is a FILLING).", """
            wrong(1) = 0                     -- without CELLS, too
            book 'a[1,9]'
            wrong(1) = 0
            sum({a}, 0, 5) = 1
            wrong(1) = 0
            sum({b}, 0, 1) = 2
            wrong(1) = 2                     -- of missing CELLS
            sum({a}, 0, 6) = 3
            wrong(1) = 3
            sum({a}, 0, 6) = 4
            sum({a}, 0, 7) = 5
            sum({a}, 0, 7) = 6
            sum({a}, 0, 7) = 7
            sum({a}, 0, 8) = 8
            wrong(1) = 143                   -- all but the three of 7
            """);
        all.says("NONE: not without any.", """
            heap 1
            book 'a#b#'
            wrong(99) = NONE
            sum({a}, 0, 1) = 1
            wrong(99) = NONE
            book 'a>b'
            wrong(99) = NONE
            """);
        all.says("BAD; SPENT.", """
            book 'a[1,9]b[1,9]'
            wrong(0) = BAD
            wrong(-1) = BAD
            wrong(20001) = BAD
            wrong(1) = SPENT
            wrong(2) = 0
            wrong(20000) = 0
            """);
    }

    private static void next(Sentences all) {
        all.under("Promise 30: next");
        all.says("NEXT; its WORTH by asked().", """
            book 'a[1,2]b[1,4]l[1,3]'
            next(99) = b asked 6
            read(b, 1) = 0
            next(99) = l asked 2
            read(l, 1) = 0
            next(99) = a asked 1
            read(a, 1) = 0
            next(99) = a asked 1             -- all alike: the first
            """);
        all.says("NONE: no FILLING.", """
            book 'a[1,2]'
            next(99) = a asked 1
            sum({a}, 0, 3) = 1
            next(99) = NONE
            clear() = 1
            book ''
            next(99) = NONE                  -- and no CELL
            asked() = 1
            """);
        all.says("BAD; SPENT.", """
            book 'a[0,9]'
            next(0) = BAD
            next(-1) = BAD
            next(20001) = BAD
            next(9) = SPENT
            next(10) = a asked 1
            """);
    }

    private static void judge(Sentences all) {
        all.under("Promise 31: judge");
        all.says("A ROW of twelve looked at as a FILLING: NONE it is one;", """
            heap 4 4
            book 'a[1,2]b=xc*abd#e>af~5,6l#'
            sum({f}, 0, 0) = 1
            lay 0: 2 8 16 4 3 0 -1 -1 -1 -1 -1 4
            judge(0) = NONE
            lay 0: 1 3 3 4 99 0 -1 -1 -1 -1 -1 4
            judge(0) = NONE
            clear() = 1
            lay 0: 1 3 3 4 99 6 -1 -1 -1 -1 -1 4
            judge(0) = NONE
            book ''
            lay 0: -1 -1 -1 -1 -1 -1 -1 -1 -1 -1 -1 -1
            judge(0) = NONE
            """);
        all.says("100 and the first CELL of which the number is none, or the RULE is broken", """
            heap 4
            book 'a[0,9]b=5d*abe>bf~5,6g#'
            lay 0: 2 5 -1 10 6 0 4 -1 -1 -1 -1 -1
            judge(0) = NONE
            lay(0, 6, 5) = 1
            judge(0) = 100+g
            lay(0, 5, 4) = 1
            judge(0) = 100+f                 -- the first
            lay(0, 4, 5) = 1
            judge(0) = 100+e
            lay(0, 3, 11) = 1
            judge(0) = 100+d
            lay(0, 1, 6) = 1
            judge(0) = 100+b
            lay(0, 0, 10) = 1
            judge(0) = 100+a
            lay 0: -1 5 -1 10 6 0 4 -1 -1 -1 -1 -1
            judge(0) = 100+a
            lay 0: 2 5 -1 10 100 0 4 -1 -1 -1 -1 -1
            judge(0) = 100+e                 -- above, but none
            lay 0: 2 5 -1 10 6 -1 4 -1 -1 -1 -1 -1
            judge(0) = 100+f
            lay 0: 2 5 -1 10 6 0 MIN -1 -1 -1 -1 -1
            judge(0) = 100+g
            book 'a*bbb[10,10]'
            lay 0: 100 10 -1 -1 -1 -1 -1 -1 -1 -1 -1 -1
            judge(0) = 100+a
            """);
        all.says("(also by one that it names that has no number 0 .. 99; a missing CELL has to be -1; SAME: those up to it);", """
            book 'a*bcb[0,9]c[0,9]'
            lay 0: 6 -2 -3 -1 -1 -1 -1 -1 -1 -1 -1 -1
            judge(0) = 100+a                 -- not b, though it has none
            lay 0: 0 0 100 -1 -1 -1 -1 -1 -1 -1 -1 -1
            judge(0) = 100+a
            lay 0: 0 100 0 -1 -1 -1 -1 -1 -1 -1 -1 -1
            judge(0) = 100+a
            book 'a>bb[0,9]'
            lay 0: 5 -1 -1 -1 -1 -1 -1 -1 -1 -1 -1 -1
            judge(0) = 100+a
            lay 0: 5 10 -1 -1 -1 -1 -1 -1 -1 -1 -1 -1
            judge(0) = 100+a
            lay 0: 15 10 -1 -1 -1 -1 -1 -1 -1 -1 -1 -1
            judge(0) = 100+b                 -- a number, and below
            book 'a>c'
            lay 0: 5 -1 -1 -1 -1 -1 -1 -1 -1 -1 -1 -1
            judge(0) = 100+a                 -- c is missing
            new
            book 'b[0,9]'
            lay 0: 0 5 -1 -1 -1 -1 -1 -1 -1 -1 -1 -1
            judge(0) = 100+a
            lay 0: -1 5 -9 -1 -1 -1 -1 -1 -1 -1 -1 -1
            judge(0) = 100+c
            lay 0: -1 5 -1 -1 -1 -1 -1 -1 -1 -1 -1 0
            judge(0) = 100+l
            heap 4 4 9
            book 'a#b[0,9]c#l#'
            lay 0: 4 4 4 -1 -1 -1 -1 -1 -1 -1 -1 4
            judge(0) = 100+l                 -- the third 4; b is no SAME one
            lay 0: 9 4 9 -1 -1 -1 -1 -1 -1 -1 -1 4
            judge(0) = 100+c
            lay 0: 4 4 9 -1 -1 -1 -1 -1 -1 -1 -1 4
            judge(0) = NONE
            """);
        all.says("200 and the first SUM that is broken.", """
            book 'a[0,9]b[0,9]'
            sum({a}, 0, 5) = 1
            sum({a}, {b}, 2) = 2
            sum({al}, {k}, 5) = 3            -- missing ones are 0
            lay 0: 5 3 -1 -1 -1 -1 -1 -1 -1 -1 -1 -1
            judge(0) = NONE
            total(2, 4) = 5
            judge(0) = 202
            total(1, 1) = 2
            judge(0) = 201
            total(0, 4) = 5
            judge(0) = 200
            lay(0, 1, 10) = 1
            judge(0) = 100+b                 -- CELLS come ahead of SUMS
            """);
        all.says("BAD; NOTHING; SIZE.", """
            judge(6) = BAD
            judge(-1) = BAD
            judge(0) = NOTHING
            row(0, 11) = 11
            judge(0) = SIZE
            row(0, 13) = 13
            judge(0) = SIZE
            row(0, 0) = 0
            judge(0) = SIZE
            row(0, 12) = 12
            judge(0) = 100
            """);
    }

    private static void orders(Sentences all) {
        all.under("Promise 32: orders");
        all.says("ORDERS of PAGES by a ROW of pairs: how many; the first (by pages' numbers from 1 on as figures, the first page highest)"
            + " by asked() (0: none).", """
            lay 0: 0 0
            orders(0) = 1 asked 1
            lay 0: 2 3 1 2
            orders(0) = 1 asked 21
            lay 0: 2 1 1 2
            orders(0) = 2 asked 12           -- the less one first
            lay 0: 0 5 5 0 5 5
            orders(0) = 3 asked 132
            lay 0: 5 6 4 5 3 4 2 3 1 2 0 1
            orders(0) = 1 asked 654321
            lay 0: NONE NONE NONE NONE NONE NONE NONE NONE NONE NONE NONE NONE
            orders(0) = 720 asked 123456
            lay 0: 1 2 1 2
            orders(0) = 0 asked 0
            """);
        all.says("BAD; NOTHING;", """
            orders(6) = BAD
            orders(-1) = BAD
            orders(0) = NOTHING
            orders(5) = NOTHING
            """);
        all.says("SIZE: not 1 to 6 pairs;", """
            row(0, 0) = 0
            orders(0) = SIZE
            row(0, 1) = 1
            orders(0) = SIZE
            row(0, 2) = 2
            orders(0) = 1
            row(0, 11) = 11
            orders(0) = SIZE
            row(0, 12) = 12
            orders(0) = 720
            row(0, 13) = 13
            orders(0) = SIZE
            lay(0, 0, -1) = 1
            orders(0) = SIZE                 -- ahead of UNLIKE
            row(0, 14) = 14
            orders(0) = SIZE
            """);
        all.says("UNLIKE: a number below 0 or above 9999 that is not NONE.", """
            lay 0: 0 9999
            orders(0) = 1 asked 1
            lay 0: NONE NONE
            orders(0) = 1 asked 1
            lay 0: -1 0
            orders(0) = UNLIKE
            lay 0: 0 -8
            orders(0) = UNLIKE
            lay 0: 0 -10
            orders(0) = UNLIKE
            lay 0: 10000 0
            orders(0) = UNLIKE
            lay 0: 0 0 0 MIN
            orders(0) = UNLIKE
            lay 0: 0 0 -1
            row(0, 2) = 2
            orders(0) = 1            -- what is no place any more is no matter
            """);
    }

    private static void matches(Sentences all) {
        all.under("Promise 33: matches");
        all.says("MATCHES: how many; FORCED ones (bits) by asked() (0, if there are none).", """
            heap 1 2 3
            book 'a#l#'
            matches() = 6 asked 0
            sum({l}, 0, 2) = 1
            matches() = 2 asked {l}
            sum({a}, 0, 2) = 2
            matches() = 0 asked 0            -- both want the one 2: no way, and nothing FORCED
            clear() = 2
            book 'a#b#c#d#'
            matches() = 0 asked 0            -- more CELLS than places
            heap 0 0 0 0 0 0 0 0 0 0 0 0
            book 'a#b#c#d#e#f#g#h#i#j#k#l#'
            matches() = 479001600 asked {abcdefghijkl}
            """);
        all.says("(Without SAME CELLS: 1.)", """
            matches() = 1 asked 0
            heap 1 2 3
            matches() = 1 asked 0
            book 'a[1,2]'
            matches() = 1 asked 0
            sum({a}, 0, 3) = 1
            matches() = 1 asked 0            -- though nothing is left
            """);
    }
}
