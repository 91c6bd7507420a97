/** The edges that the document names for THE ORDER, BOOKS, LENGTH, WHOSE, TWO MEN, EDITORS, CHECK and count. */
public final class EdgesOfBooks {
    private static final int NONE = QuotedBooks.NONE;
    private static final int NOT_TOLD = -1000000;
    private static final int MIN = Integer.MIN_VALUE;
    private static final int MAX = Integer.MAX_VALUE;
    private static final Sheet s = new Sheet();

    public static void main(String[] args) {
        tenAtMost();
        eachAheadDoes();
        leastRow();
        order();
        howManyRows();
        orders();
        inAllThese();
        sure();
        setOfBits();
        productsOfTheTable();
        truth();
        greatestOfDifferent();
        length();
        fromMToForty();
        span();
        tookNobody();
        nobody();
        thatBitAside();
        mostThenLowest();
        whose();
        tenOfAnAuthor();
        subjectsAndWords();
        leastSet();
        men();
        givenLast();
        given();
        wrongBits();
        wrong();
        fewerWithout();
        moves();
        rightOrFirst();
        check();
        count();
        countOthers();
        s.end("the edges of ORDER, BOOKS and EDITORS");
    }

    private static void rowIs(Desk d, int k, int... row) {
        for (int p = 0; p < row.length; p++) s.due("place " + p, d.x.order(k, p), row[p]);
        s.due("no place " + row.length, d.x.order(k, row.length), NOT_TOLD);
    }

    private static void tenAtMost() {
        s.says("THE ORDER of BITS of a WORK (10 at most, else none is told): the row of them with most POINTS by THE PLAN");
        Desk d = Desk.with(2, 1);
        d.plan("p1000(b=c+1)");
        int[] row = new int[10];
        for (int i = 0; i < 10; i++) {
            s.due("bit " + i, d.bit(0, 0, i + 1, 0, 1), i);
            s.due("POINTS of " + (i + 1), d.x.order(0, NONE), 1000 * i);
            row[9 - i] = i;
        }
        rowIs(d, 0, row);
        s.due("one row", d.x.orders(0), 1);
        s.due("sure", d.x.sure(9, 0), 1);
        s.due("moves", d.x.moves(5), 2000);
        d.bit(0, 1, 0, 0, 1);
        d.bit(0, NONE, 0, 0, 1);
        s.due("BITS of another WORK and of none don't matter", d.x.order(0, NONE), 9000);
        d.bit(0, 0, 11, 0, 1);
        s.due("eleven", d.x.order(0, NONE), NOT_TOLD);
        s.due("eleven", d.x.order(0, 0), NOT_TOLD);
        s.due("eleven", d.x.orders(0), 0);
        s.due("eleven", d.x.sure(9, 0), -2);
        s.due("eleven", d.x.moves(5), NOT_TOLD);
        s.due("the other WORK", d.x.order(1, 0), 10);
    }

    private static void eachAheadDoes() {
        s.says("in which each BIT that is told to come AHEAD of another one does");
        Desk d = Desk.with(2, 1);
        for (int i = 0; i < 3; i++) d.bit(0, 0, i + 1, 0, 1);
        d.bit(0, 1, 0, 0, 1);
        d.bit(0, 1, 0, 0, 1);
        d.plan("p9(b<c)");
        rowIs(d, 0, 0, 1, 2);
        d.x.ahead(2, 0);
        rowIs(d, 0, 1, 2, 0);
        s.due("POINTS", d.x.order(0, NONE), 9);
        d.x.ahead(2, 1);
        rowIs(d, 0, 2, 0, 1);
        d.x.ahead(1, 0);
        rowIs(d, 0, 2, 1, 0);
        s.due("POINTS", d.x.order(0, NONE), 0);
        s.due("the other WORK", d.x.orders(1), 2);
        d.x.ahead(0, 2);
        s.due("none can be", d.x.order(0, NONE), NOT_TOLD);
        s.due("the other WORK", d.x.orders(1), 2);
        d.x.ahead(4, 3);
        rowIs(d, 1, 4, 3);
        d.x.ahead(3, 4);
        s.due("none can be", d.x.order(1, 0), NOT_TOLD);
    }

    private static void leastRow() {
        s.says("of like ones the least row.");
        Desk d = Desk.with(1, 1);
        for (int i = 0; i < 4; i++) d.bit(0, 0, i + 1, 0, 1);
        rowIs(d, 0, 0, 1, 2, 3);
        d.x.ahead(3, 0);
        rowIs(d, 0, 1, 2, 3, 0);
        d.plan("p1(b=2&c=1)");
        rowIs(d, 0, 2, 3, 1, 0);
        d.plan("p0-1(0=0)");
        rowIs(d, 0, 1, 2, 3, 0);
        s.due("below 0", d.x.order(0, NONE), -3);
    }

    private static void order() {
        s.says("THE ORDER of WORK k, what NONE its POINTS, else the BIT at place what; -1000000: no such ones, more than 10 BITS, no BIT, none can be.");
        Desk d = Desk.with(8, 1);
        s.due("no BIT", d.x.order(7, NONE), NOT_TOLD);
        s.due("no BIT", d.x.order(7, 0), NOT_TOLD);
        d.bit(0, 7, 0, 0, 1);
        s.due("one: no POINTS", d.x.order(7, NONE), 0);
        s.due("one: at place 0", d.x.order(7, 0), 0);
        for (int what : new int[] {-2, 1, 10, MIN, MAX}) s.due("what " + what, d.x.order(7, what), NOT_TOLD);
        for (int k : new int[] {-1, 8, MIN, MAX}) {
            s.due("WORK " + k, d.x.order(k, NONE), NOT_TOLD);
            s.due("WORK " + k, d.x.order(k, 0), NOT_TOLD);
        }
        for (int i = 1; i < 40; i++) d.bit(0, i < 30 ? NONE : 7, 0, 0, 1);
        s.due("eleven", d.x.order(7, NONE), NOT_TOLD);
        Desk e = Desk.with(1, 1);
        for (int i = 0; i < 40; i++) e.bit(0, i < 30 ? NONE : 0, i == 39 ? 2 : 1, 0, 1);
        e.plan("p0-1000(0=0)");
        s.due("nine times the least", e.x.order(0, NONE), -9000);
        e.plan("p1000(b>c)");
        s.due("BIT 39 ahead of one", e.x.order(0, 8), 39);
        s.due("BIT 38 last", e.x.order(0, 9), 38);
    }

    private static void howManyRows() {
        s.says("How many rows have as many; SURE: x ahead of y in all these.");
        Desk d = Desk.with(1, 1);
        long rows = 1;
        for (int i = 1; i <= 10; i++) {
            d.bit(0, 0, i, 0, 1);
            rows *= i;
            s.due("all rows of " + i, d.x.orders(0), rows);
        }
        d.plan("p1(b=1&c=2)");
        s.due("9 times 8!", d.x.orders(0), 362880);
        d.plan("p1(b<2)");
        s.due("not last", d.x.orders(0), 9 * 362880);
        d.plan("p1(b+1=c)");
        s.due("one", d.x.orders(0), 1);
        for (int i = 1; i < 10; i++) d.x.ahead(i, i - 1);
        s.due("the one that can be", d.x.orders(0), 1);
        d.x.ahead(0, 9);
        s.due("none can be", d.x.orders(0), 0);
    }

    private static void orders() {
        s.says("How many rows have as many POINTS; 0: none is told; -1: no such WORK.");
        Desk d = Desk.with(8, 1);
        s.due("no BIT", d.x.orders(7), 0);
        for (int i = 0; i < 10; i++) d.bit(0, 7, 0, 0, 1);
        s.due("ten", d.x.orders(7), 3628800);
        d.bit(0, 7, 0, 0, 1);
        s.due("eleven", d.x.orders(7), 0);
        for (int k : new int[] {-1, 8, MIN, MAX}) s.due("WORK " + k, d.x.orders(k), -1);
        s.due("no WORK", new QuotedBooks().orders(0), -1);
    }

    private static void inAllThese() {
        s.says("SURE: x ahead of y in all these.");
        Desk d = Desk.with(1, 1);
        for (int i = 0; i < 3; i++) d.bit(0, 0, i + 1, 0, 1);
        for (int x = 0; x < 3; x++) for (int y = 0; y < 3; y++) s.due(x + " " + y, d.x.sure(x, y), x == y ? NONE : 0);
        d.x.ahead(0, 1);
        s.due("in all three", d.x.sure(0, 1), 1);
        s.due("in none", d.x.sure(1, 0), 0);
        s.due("in two of three", d.x.sure(0, 2), 0);
        s.due("in one of three", d.x.sure(2, 0), 0);
        d.plan("p1(b=3&c=1)");
        s.due("2 right ahead of 0", d.x.sure(2, 0), 1);
        s.due("and so of 1", d.x.sure(2, 1), 1);
        Desk e = Desk.with(1, 1);
        e.bit(0, 0, 1, 0, 1);
        e.bit(0, 0, 2, 0, 1);
        s.due("of two rows the first", e.x.sure(0, 1), 0);
        s.due("of two rows the second", e.x.sure(1, 0), 0);
        e.plan("p1(b<c)");
        s.due("the only row", e.x.sure(0, 1), 1);
        s.due("the only row", e.x.sure(1, 0), 0);
        for (int i = 2; i < 10; i++) e.bit(0, 0, 2, 0, 1);
        e.plan("p0-1(c=1)");
        // The first one leads all rows; of the others each may be anywhere behind it.
        s.due("rows", e.x.orders(0), 362880);
        for (int y = 1; y < 10; y++) s.due("0 ahead of " + y, e.x.sure(0, y), 1);
        for (int x = 1; x < 10; x++) for (int y = 0; y < 10; y++) if (x != y) s.due(x + " ahead of " + y, e.x.sure(x, y), 0);
        Desk f = Desk.with(1, 1);
        for (int i = 0; i < 4; i++) f.bit(0, 0, 1, 0, 1);
        f.x.ahead(3, 0);
        f.x.ahead(0, 1);
        f.x.ahead(0, 2);
        s.due("3 first", f.x.sure(3, 2), 1);
        s.due("then 0", f.x.sure(0, 1), 1);
        s.due("1 and 2 in either way", f.x.sure(1, 2), 0);
        s.due("1 and 2 in either way", f.x.sure(2, 1), 0);
        Desk g = Desk.with(1, 1);
        for (int i = 0; i < 5; i++) g.bit(0, 0, i + 1, 0, 1);
        g.plan("p5(b=1&c=2);p3(b=4&c=3);p0-1(c=5)");
        // 4 leads; behind it 0 1 and 3 2, in either way.
        s.due("rows", g.x.orders(0), 2);
        s.due("POINTS", g.x.order(0, NONE), 8);
        int[][] ahead = {{0, 1, 0, 0, 0}, {0, 0, 0, 0, 0}, {0, 0, 0, 0, 0}, {0, 0, 1, 0, 0}, {1, 1, 1, 1, 0}};
        for (int x = 0; x < 5; x++) for (int y = 0; y < 5; y++) if (x != y) s.due(x + " ahead of " + y, g.x.sure(x, y), ahead[x][y]);
    }

    private static void sure() {
        s.says("SURE: 1, 0; -2: none is told; NONE: no such BITS, one twice, not of one WORK.");
        Desk d = Desk.with(3, 1);
        s.due("no BITS", d.x.sure(0, 1), NONE);
        for (int i = 0; i < 40; i++) d.bit(0, i < 2 ? NONE : i < 4 ? 0 : i < 6 ? 1 : i < 17 ? 2 : i < 38 ? NONE : 1, 0, 0, 1);
        d.x.ahead(38, 39);
        s.due("38 and 39", d.x.sure(38, 39), 1);
        s.due("39 and 38", d.x.sure(39, 38), 0);
        s.due("of none", d.x.sure(0, 1), NONE);
        s.due("of none and one", d.x.sure(0, 2), NONE);
        s.due("of one and none", d.x.sure(2, 0), NONE);
        s.due("not of one", d.x.sure(2, 4), NONE);
        s.due("one twice", d.x.sure(2, 2), NONE);
        s.due("eleven", d.x.sure(6, 16), -2);
        s.due("eleven, one twice", d.x.sure(6, 6), NONE);
        s.due("eleven, and another WORK", d.x.sure(6, 2), NONE);
        for (int i : new int[] {-1, 40, MIN, MAX}) {
            s.due("BIT " + i + " first", d.x.sure(i, 2), NONE);
            s.due("BIT " + i + " second", d.x.sure(2, i), NONE);
            s.due("BIT " + i + " twice", d.x.sure(i, i), NONE);
        }
        d.x.ahead(2, 3);
        d.x.ahead(3, 2);
        s.due("none can be", d.x.sure(2, 3), -2);
        s.due("none can be, one twice", d.x.sure(3, 3), NONE);
    }

    private static void setOfBits() {
        s.says("(a set of BITS with a BOOK above 0)");
        Desk d = Desk.with(1, 1);
        s.due("no BIT", d.x.truth(1, 1, 0), -1);
        for (int i = 0; i < 40; i++) d.bit(0, i % 2 == 0 ? 0 : NONE, i == 20 ? 0 : i == 39 ? 40 : 1, 0, 1);
        d.table("gb(0=0)");
        s.due("BOOK 1", d.x.truth(1, 1, 1), 1);
        s.due("BOOK 0", d.x.truth(1L << 20, 1, 1), -1);
        s.due("BOOK 0 beside others", d.x.truth(1L << 20 | 3, 1, 1), -1);
        s.due("BOOK 40, of BIT 39", d.x.truth(1L << 39, 1, 1), 40);
        s.due("BIT 40", d.x.truth(1L << 40, 1, 1), -1);
        s.due("BITS 39 and 40", d.x.truth(3L << 39, 1, 1), -1);
        s.due("BIT 62", d.x.truth(1L << 62 | 1, 1, 1), -1);
        s.due("BIT 63", d.x.truth(Long.MIN_VALUE, 1, 1), -1);
        s.due("BIT 63 beside others", d.x.truth(Long.MIN_VALUE | 1, 1, 1), -1);
        s.due("BITS 31 and 32", d.x.truth(3L << 31, 1, 1), 1);
    }

    private static void productsOfTheTable() {
        s.says("ODDS of each true BOOK: products of THE TABLE over the BITS: whole numbers (each true BOOK alike likely ahead).");
        Desk d = Desk.with(1, 1);
        for (int i = 1; i <= 6; i++) d.bit(0, 0, i, 0, 1);
        d.table("g100(0=0)");
        s.due("the most", d.x.truth(63, 40, 40), 1000000000000L);
        s.due("the most together", d.x.truth(63, 40, 0), 40000000000000L);
        d.table("g0(b=c);g3(0=0)");
        s.due("one that is 0", d.x.truth(63, 40, 6), 0);
        s.due("none that is", d.x.truth(63, 40, 7), 729);
        s.due("together", d.x.truth(63, 8, 0), 2 * 729);
        s.due("two BITS", d.x.truth(33, 8, 2), 9);
    }

    private static void truth() {
        s.says("BOOKS TRUE of a set of BITS (as bits, one to six), N BOOKS (1 to 40), what 0 ODDS of all together, else those of BOOK what; -1: no such ones, a BIT without a BOOK.");
        Desk d = Desk.with(1, 1);
        for (int i = 0; i < 7; i++) d.bit(0, 0, 1, 0, 1);
        d.table("g2(0=0)");
        s.due("none", d.x.truth(0, 3, 0), -1);
        long[] sets = {1, 3, 7, 15, 31, 63};
        for (int n = 0; n < 6; n++) s.due(n + 1 + " BITS", d.x.truth(sets[n], 3, 1), 2L << n);
        s.due("six others", d.x.truth(126, 3, 1), 64);
        s.due("seven", d.x.truth(127, 3, 1), -1);
        s.due("all", d.x.truth(-1, 3, 1), -1);
        for (int books : new int[] {0, -1, 41, MIN, MAX}) s.due("N " + books, d.x.truth(1, books, 0), -1);
        s.due("N 1, all together", d.x.truth(1, 1, 0), 2);
        s.due("N 40, all together", d.x.truth(1, 40, 0), 80);
        s.due("N 1, BOOK 1", d.x.truth(1, 1, 1), 2);
        s.due("N 1, BOOK 2", d.x.truth(1, 1, 2), -1);
        s.due("N 40, BOOK 40", d.x.truth(1, 40, 40), 2);
        for (int what : new int[] {-1, 41, MIN, MAX}) s.due("N 40, what " + what, d.x.truth(1, 40, what), -1);
    }

    private static void lengthIs(Desk d, int k, int books, long above, long below) {
        s.due("above, N " + books, d.x.length(k, books, 0), above);
        s.due("below, N " + books, d.x.length(k, books, 1), below);
    }

    private static void greatestOfDifferent() {
        s.says("LENGTH of a WORK: by k different BOOKS that its BITS tell (above 0), the greatest m: ODDS, if there were N, that of k by lot the greatest would be m: a fraction.");
        Desk d = Desk.with(3, 1);
        d.bit(0, 0, 4, 0, 1);
        d.bit(0, 0, 4, 0, 1);
        d.bit(0, 0, 0, 0, 1);
        d.bit(0, 1, 9, 0, 1);
        d.bit(0, NONE, 9, 0, 1);
        lengthIs(d, 0, 3, 0, 1);
        lengthIs(d, 0, 4, 1, 4);
        lengthIs(d, 0, 5, 1, 5);
        lengthIs(d, 0, 40, 1, 40);
        d.bit(0, 0, 2, 0, 1);
        lengthIs(d, 0, 3, 0, 1);
        lengthIs(d, 0, 4, 1, 2);
        lengthIs(d, 0, 5, 3, 10);
        lengthIs(d, 0, 40, 1, 260);
        d.bit(0, 0, 1, 0, 1);
        d.bit(0, 0, 3, 0, 1);
        lengthIs(d, 0, 4, 1, 1);
        lengthIs(d, 0, 5, 1, 5);
        d.bit(0, 2, 40, 0, 1);
        lengthIs(d, 2, 39, 0, 1);
        lengthIs(d, 2, 40, 1, 40);
        d.bit(0, 2, 1, 0, 1);
        lengthIs(d, 2, 40, 1, 20);
        Desk e = Desk.with(1, 1);
        for (int b = 1; b <= 40; b++) e.bit(0, 0, b, 0, 1);
        lengthIs(e, 0, 40, 1, 1);
        lengthIs(e, 0, 39, 0, 1);
        Desk f = Desk.with(1, 1);
        for (int b = 1; b <= 20; b++) f.bit(0, 0, b, 0, 1);
        lengthIs(f, 0, 20, 1, 1);
        lengthIs(f, 0, 21, 1, 21);
        lengthIs(f, 0, 40, 1, 137846528820L);
    }

    private static void length() {
        s.says("LENGTH of WORK k if there were N (1 to 40; below m: 0 through 1), what 0 above, 1 below the line, without a common divisor; -2: no BIT tells a BOOK; -1: no such ones.");
        Desk d = Desk.with(8, 1);
        s.due("no BIT", d.x.length(7, 5, 0), -2);
        d.bit(0, 7, 0, 0, 1);
        d.bit(0, 0, 1, 0, 1);
        for (int what = 0; what < 2; what++) {
            s.due("no BIT tells a BOOK", d.x.length(7, 5, what), -2);
            for (int books : new int[] {0, -1, 41, MIN, MAX}) {
                s.due("N " + books + ", no BIT tells", d.x.length(7, books, what), -1);
                s.due("N " + books, d.x.length(0, books, what), -1);
            }
            for (int k : new int[] {-1, 8, MIN, MAX}) s.due("WORK " + k, d.x.length(k, 5, what), -1);
        }
        for (int what : new int[] {-1, 2, MIN, MAX}) {
            s.due("what " + what + ", no BIT tells", d.x.length(7, 5, what), -1);
            s.due("what " + what, d.x.length(0, 5, what), -1);
        }
        lengthIs(d, 0, 1, 1, 1);
        d.bit(0, 7, 2, 0, 1);
        lengthIs(d, 7, 1, 0, 1);
        lengthIs(d, 7, 2, 1, 2);
    }

    private static void spanIs(Desk d, int thousandths, int least, int greatest) {
        s.due("the least by " + thousandths, d.x.span(0, thousandths, 0), least);
        s.due("the greatest by " + thousandths, d.x.span(0, thousandths, 1), greatest);
    }

    private static void fromMToForty() {
        s.says("SPAN: N from m to 40 by which they are not below so many thousandths.");
        Desk d = Desk.with(1, 1);
        d.bit(0, 0, 4, 0, 1);
        spanIs(d, 250, 4, 4);
        spanIs(d, 251, -2, -2);
        spanIs(d, 249, 4, 4);
        spanIs(d, 200, 4, 5);
        spanIs(d, 201, 4, 4);
        spanIs(d, 25, 4, 40);
        spanIs(d, 26, 4, 38);
        spanIs(d, 1, 4, 40);
        d.bit(0, 0, 3, 0, 1);
        d.bit(0, 0, 2, 0, 1);
        d.bit(0, 0, 1, 0, 1);
        spanIs(d, 1000, 4, 4);
        spanIs(d, 200, 4, 5);
        Desk e = Desk.with(1, 1);
        e.bit(0, 0, 40, 0, 1);
        spanIs(e, 25, 40, 40);
        spanIs(e, 26, -2, -2);
        Desk f = Desk.with(1, 1);
        f.bit(0, 0, 1, 0, 1);
        spanIs(f, 1000, 1, 1);
        spanIs(f, 500, 1, 2);
        // A seventh, an eleventh and a thirteenth: 142, 90 and 76 thousandths and some.
        int[] greatest = {7, 11, 13};
        for (int books : greatest) {
            Desk g = Desk.with(1, 1);
            g.bit(0, 0, books, 0, 1);
            spanIs(g, 1000 / books, books, books);
            spanIs(g, 1000 / books + 1, -2, -2);
        }
    }

    private static void span() {
        s.says("SPAN of LENGTH by so many thousandths (1 to 1000), what 0 the least N, 1 the greatest; -2: none, no BIT tells a BOOK; NONE: no such ones.");
        Desk d = Desk.with(8, 1);
        s.due("no BIT", d.x.span(7, 1, 0), -2);
        d.bit(0, 7, 0, 0, 1);
        d.bit(0, 0, 2, 0, 1);
        for (int what = 0; what < 2; what++) {
            s.due("no BIT tells a BOOK", d.x.span(7, 1, what), -2);
            s.due("none", d.x.span(0, 501, what), -2);
            for (int thousandths : new int[] {0, -1, 1001, MIN, MAX}) {
                s.due("by " + thousandths + ", no BIT tells", d.x.span(7, thousandths, what), NONE);
                s.due("by " + thousandths, d.x.span(0, thousandths, what), NONE);
            }
            for (int k : new int[] {-1, 8, MIN, MAX}) s.due("WORK " + k, d.x.span(k, 1, what), NONE);
        }
        for (int what : new int[] {-1, 2, MIN, MAX}) {
            s.due("what " + what + ", no BIT tells", d.x.span(7, 1, what), NONE);
            s.due("what " + what + ", none", d.x.span(0, 1000, what), NONE);
            s.due("what " + what, d.x.span(0, 1, what), NONE);
        }
        spanIs(d, 1, 2, 40);
        spanIs(d, 1000, -2, -2);
    }

    private static void tookNobody() {
        s.says("NOBODY TOOK: of N BOOKS those that no BIT of that WORK tells.");
        Desk d = Desk.with(2, 1);
        s.due("no BIT", d.x.nobody(0, 40), (1L << 40) - 1);
        d.bit(0, 0, 0, 0, 1);
        d.bit(0, 1, 5, 0, 1);
        d.bit(0, NONE, 6, 0, 1);
        s.due("none that tells one", d.x.nobody(0, 40), (1L << 40) - 1);
        d.bit(0, 0, 1, 0, 1);
        d.bit(0, 0, 32, 0, 1);
        d.bit(0, 0, 33, 0, 1);
        d.bit(0, 0, 40, 0, 1);
        s.due("1, 32, 33, 40", d.x.nobody(0, 40), (1L << 40) - 1 & ~(1L | 3L << 31 | 1L << 39));
        s.due("of 39", d.x.nobody(0, 39), (1L << 39) - 1 & ~(1L | 3L << 31));
        s.due("of 31", d.x.nobody(0, 31), (1L << 31) - 2);
        s.due("of 32", d.x.nobody(0, 32), (1L << 31) - 2);
    }

    private static void nobody() {
        s.says("NOBODY TOOK: BOOKS 1 to N (1 to 40) of WORK k, as bits (BOOK 1: bit 0); -1: no such ones.");
        Desk d = Desk.with(8, 1);
        s.due("N 1", d.x.nobody(7, 1), 1);
        s.due("N 2", d.x.nobody(7, 2), 3);
        s.due("N 40", d.x.nobody(7, 40), (1L << 40) - 1);
        d.bit(0, 7, 1, 0, 1);
        s.due("N 1, BOOK 1 is told", d.x.nobody(7, 1), 0);
        d.bit(0, 7, 2, 0, 1);
        s.due("N 1, BOOK 2 doesn't matter", d.x.nobody(7, 1), 0);
        for (int books : new int[] {0, -1, 41, MIN, MAX}) s.due("N " + books, d.x.nobody(7, books), -1);
        for (int k : new int[] {-1, 8, MIN, MAX}) s.due("WORK " + k, d.x.nobody(k, 5), -1);
    }

    private static void thatBitAside() {
        s.says("(n, t: WORDS of his WORKS that are LEFT and of BITS of his WORKS, that BIT aside)");
        Desk d = new Desk();
        d.x.author(0, 1);
        d.x.writer(1);
        d.x.work(0, 9);
        d.x.work(0, 9);
        d.habit("ht(0=0)");
        d.bit(0, 0, 0, 0, 5);
        s.due("that BIT aside: none", d.x.whose(0, 1), 0);
        d.bit(0, NONE, 0, 0, 5, 5, 5);
        s.due("of no WORK", d.x.whose(0, 1), 0);
        d.bit(0, 1, 0, 0, 5, 6);
        s.due("of a lost WORK", d.x.whose(0, 1), 2);
        d.left(0, 5, 5, 5, 7);
        s.due("of a WORK that is LEFT", d.x.whose(0, 1), 6);
        s.due("of all, three WORDS", d.x.whose(1, 1), 3 * 7);
        d.habit("hn(0=0)");
        s.due("n of 5", d.x.whose(0, 1), 4);
        s.due("n of 5 and of 6", d.x.whose(2, 1), 4);
        for (int turn = 0; turn < 3; turn++) s.due("asked again", d.x.whose(0, 1), 4);
        d.bit(0, 0, 0, 0, 0, 0, 63);
        d.bit(0, NONE, 0, 0, 0, 63);
        for (int turn = 0; turn < 3; turn++) s.due("0 and 63, asked again", d.x.whose(4, 1), 3);
        d.x.author(0, 1);
        d.x.work(1, 9);
        d.left(2, 5, 5, 5, 5, 5);
        s.due("the other AUTHOR's", d.x.whose(0, 0), 1);
        s.due("the other AUTHOR's", d.x.whose(0, 1), 5);
    }

    private static void mostThenLowest() {
        s.says("most; of like ones the lowest; by how much ahead of the next.");
        Desk d = new Desk();
        for (int a = 0; a < 8; a++) d.x.author(a == 3 ? 5 : a == 6 ? 5 : 1, a + 1);
        d.x.writer(1);
        d.bit(0, NONE, 0, 0, 1);
        String[] texts = {"h0(0=0)", "hy(0=0)", "hp(0=0)", "h0-p(0=0)", "h9(p=8);h8(p=1)", "h9(p=1);h3(p=5)", "h0-9(0=0)", "h9(p=5|p=6)"};
        int[][] want = {{0, 0, 0}, {3, 5, 0}, {7, 8, 1}, {0, -1, 1}, {7, 9, 1}, {0, 9, 6}, {0, -9, 0}, {4, 9, 0}};
        for (int t = 0; t < texts.length; t++) {
            d.habit(texts[t]);
            for (int what = 0; what < 3; what++) s.due(texts[t] + ", what " + what, d.x.whose(0, what), want[t][what]);
        }
        d.habit("h1000(p=8);h0-1000(0=0)");
        s.due("the most ahead of one WORD", d.x.whose(0, 2), 2000);
        d.bit(0, NONE, 0, 0, 1, 2, 3, 4, 5, 6, 7, 8);
        s.due("the most ahead of eight", d.x.whose(1, 2), 16000);
    }

    private static void whose() {
        s.says("WHOSE BIT i is, what 0 the AUTHOR, 1 POINTS, 2 by how much ahead (NONE: no other AUTHOR is there); -1000000: no such ones, no AUTHOR is there.");
        Desk d = new Desk();
        d.x.writer(1);
        for (int i = 0; i < 40; i++) d.bit(0, NONE, 0, 0, i);
        for (int what = -1; what < 4; what++) s.due("no AUTHOR, what " + what, d.x.whose(0, what), NOT_TOLD);
        d.x.author(1, 1);
        d.habit("hw(0=0)");
        for (int i : new int[] {0, 39}) {
            s.due("the only one", d.x.whose(i, 0), 0);
            s.due("POINTS", d.x.whose(i, 1), i);
            s.due("no other AUTHOR", d.x.whose(i, 2), NONE);
            for (int what : new int[] {-1, 3, MIN, MAX}) s.due("what " + what, d.x.whose(i, what), NOT_TOLD);
        }
        for (int i : new int[] {-1, 40, MIN, MAX}) {
            for (int what = 0; what < 3; what++) s.due("BIT " + i + ", what " + what, d.x.whose(i, what), NOT_TOLD);
        }
        d.x.author(1, 1);
        s.due("another is there", d.x.whose(0, 2), 0);
        Desk e = new Desk();
        e.x.author(1, 1);
        s.due("no BIT", e.x.whose(0, 0), NOT_TOLD);
    }

    private static void tenOfAnAuthor() {
        s.says("TWO MEN: of BITS of one AUTHOR's WORKS (10 at most, else none is told)");
        Desk d = Desk.with(3, 1);
        d.x.author(0, 1);
        d.x.work(1, 9);
        for (int i = 0; i < 10; i++) d.bit(0, i % 3, 0, 0, i);
        d.bit(0, NONE, 0, 0, 1);
        d.bit(0, 3, 0, 0, 1);
        s.due("ten", d.x.men(0, 0), 0);
        s.due("ten", d.x.men(0, 1), 45 * 4);
        s.due("one of the other AUTHOR", d.x.men(1, 1), 0);
        d.bit(0, 2, 0, 0, 1);
        s.due("eleven", d.x.men(0, 0), NOT_TOLD);
        s.due("eleven", d.x.men(0, 1), NOT_TOLD);
        s.due("one of the other AUTHOR", d.x.men(1, 0), 0);
    }

    private static void subjectsAndWords() {
        s.says("between two BITS of one set: 4 less how far their SUBJECTS are apart, more how many different WORDS both have; of two sets that taken off");
        Desk d = Desk.with(1, 1);
        d.bit(0, 0, 0, 0, 1);
        d.bit(0, 0, 0, 9, 2);
        s.due("nine apart: two sets", d.x.men(0, 0), 2);
        s.due("-5 taken off", d.x.men(0, 1), 5);
        Desk e = Desk.with(1, 1);
        e.bit(0, 0, 0, 0, 1, 2, 3, 4, 5, 6, 7, 8);
        e.bit(0, 0, 0, 9, 8, 7, 6, 5, 4, 3, 2, 1);
        s.due("nine apart, eight WORDS: one man", e.x.men(0, 0), 0);
        s.due("4 less 9, more 8", e.x.men(0, 1), 3);
        Desk f = Desk.with(1, 1);
        f.bit(0, 0, 0, 9, 0, 63, 0, 63, 63);
        f.bit(0, 0, 0, 3, 63, 0, 0, 0);
        s.due("different WORDS count once", f.x.men(0, 1), 0);
        Desk g = Desk.with(1, 1);
        g.bit(0, 0, 0, 5, 1);
        g.bit(0, 0, 0, 5, 2);
        s.due("not apart", g.x.men(0, 1), 4);
    }

    private static void leastSet() {
        s.says("most; of like ones the least set that has not the lowest BIT; (none in it: one man).");
        Desk d = Desk.with(1, 1);
        d.bit(0, NONE, 0, 0, 1);
        d.bit(0, 0, 0, 0, 1);
        s.due("one BIT: one man", d.x.men(0, 0), 0);
        d.bit(0, 0, 0, 4, 2);
        s.due("4 apart, all alike: none in it", d.x.men(0, 0), 0);
        s.due("comes to 0", d.x.men(0, 1), 0);
        d.bit(0, 0, 0, 9, 3);
        s.due("BIT 3 alone", d.x.men(0, 0), 8);
        s.due("0, 5, 1: 6", d.x.men(0, 1), 6);
        Desk e = Desk.with(1, 1);
        e.bit(0, 0, 0, 0, 1);
        e.bit(0, 0, 0, 9, 2);
        e.bit(0, 0, 0, 9, 2);
        e.bit(0, 0, 0, 0, 1);
        s.due("the one that has not the lowest", e.x.men(0, 0), 6);
        s.due("5 and 5 and four times 5", e.x.men(0, 1), 30);
        Desk f = Desk.with(1, 1);
        f.bit(0, 0, 0, 0, 1);
        f.bit(0, 0, 0, 5, 2);
        f.bit(0, 0, 0, 5, 3);
        f.bit(0, 0, 0, 1, 4);
        // Of 0 and 1: 3; 1 and 2: 4; others: -1, -1, 0, 0. So 9, with BITS 1 and 2 set off.
        s.due("1 and 2", f.x.men(0, 0), 6);
        s.due("comes to", f.x.men(0, 1), 9);
        Desk g = Desk.with(1, 1);
        g.bit(0, 0, 0, 2, 1);
        g.bit(0, 0, 0, 6, 2);
        g.bit(0, 0, 0, 7, 3);
        g.bit(0, 0, 0, 0, 4);
        // Of 1 and 2: 3; 0 and 3: 2; taken off: 0 and 1: 0; 0 and 2: -1; 1 and 3: -2; 2 and 3: -3.
        s.due("1 and 2 against 0 and 3", g.x.men(0, 0), 6);
        s.due("comes to", g.x.men(0, 1), 3 + 2 + 1 + 2 + 3);
    }

    private static void men() {
        s.says("TWO MEN: of an AUTHOR, what 0 the second set, as bits, 1 what it comes to; -1000000: none is told, no BIT, no such ones.");
        Desk d = new Desk();
        s.due("no AUTHOR", d.x.men(0, 0), NOT_TOLD);
        for (int a = 0; a < 8; a++) d.x.author(1, 1);
        d.x.work(7, 3);
        d.x.writer(1);
        s.due("no BIT", d.x.men(7, 0), NOT_TOLD);
        s.due("no BIT", d.x.men(7, 1), NOT_TOLD);
        for (int i = 0; i < 38; i++) d.bit(0, NONE, 0, 0, 1);
        s.due("no BIT of his", d.x.men(7, 0), NOT_TOLD);
        d.bit(0, 0, 0, 0, 1);
        d.bit(0, 0, 0, 9, 2);
        s.due("BIT 39", d.x.men(7, 0), 1L << 39);
        s.due("comes to", d.x.men(7, 1), 5);
        s.due("an AUTHOR without WORKS", d.x.men(6, 0), NOT_TOLD);
        for (int a : new int[] {-1, 8, MIN, MAX}) {
            s.due("AUTHOR " + a, d.x.men(a, 0), NOT_TOLD);
            s.due("AUTHOR " + a, d.x.men(a, 1), NOT_TOLD);
        }
        for (int what : new int[] {-1, 2, MIN, MAX}) s.due("what " + what, d.x.men(7, what), NOT_TOLD);
    }

    private static void givenLast() {
        s.says("GIVEN in a YEAR: the WORK that was given last by then (as it was told first, if none was).");
        Desk d = Desk.with(3, 1);
        d.bit(0, 0, 0, 0, 1);
        d.bit(0, NONE, 0, 0, 1);
        s.due("as told first", d.x.given(0, 2000), 0);
        s.due("none", d.x.given(1, 2000), NONE);
        d.x.gives(0, 1, 100);
        d.x.gives(1, 1, 100);
        d.x.gives(0, 2, 100);
        d.x.gives(0, NONE, 200);
        d.x.gives(0, 0, 201);
        int[] years = {0, 99, 100, 101, 199, 200, 201, 2000};
        int[] want = {0, 0, 2, 2, 2, NONE, 0, 0};
        for (int t = 0; t < years.length; t++) s.due("in " + years[t], d.x.given(0, years[t]), want[t]);
        s.due("the other in 99", d.x.given(1, 99), NONE);
        s.due("the other in 100", d.x.given(1, 100), 1);
    }

    private static void given() {
        s.says("GIVEN in a YEAR: the WORK of BIT i; NONE: none; -2: no such ones.");
        Desk d = Desk.with(8, 1);
        s.due("no BIT", d.x.given(0, 0), -2);
        for (int i = 0; i < 40; i++) d.bit(0, i == 39 ? 7 : NONE, 0, 0, 1);
        s.due("BIT 39 in 0", d.x.given(39, 0), 7);
        s.due("BIT 39 in 2000", d.x.given(39, 2000), 7);
        s.due("BIT 0", d.x.given(0, 0), NONE);
        for (int i : new int[] {-1, 40, MIN, MAX}) s.due("BIT " + i, d.x.given(i, 0), -2);
        for (int year : new int[] {-1, 2001, MIN, MAX}) s.due("in " + year, d.x.given(0, year), -2);
        d.x.gives(39, 0, 2000);
        s.due("in 1999", d.x.given(39, 1999), 7);
        s.due("in 2000", d.x.given(39, 2000), 0);
    }

    private static void wrongBits() {
        s.says("WRONG in a YEAR: BITS that are given to a WORK whose AUTHOR has a YEAR above that of the WRITER, or whose BOOKS are fewer than the BIT's BOOK.");
        Desk d = new Desk();
        for (int year : new int[] {499, 500, 501}) d.x.author(year, 1);
        for (int a = 0; a < 3; a++) d.x.work(a, 5);
        d.x.writer(500);
        d.bit(0, 0, 5, 0, 1);
        d.bit(0, 1, 5, 0, 1);
        d.bit(0, 2, 5, 0, 1);
        d.bit(0, 0, 4, 0, 1);
        d.bit(0, 0, 6, 0, 1);
        d.bit(0, NONE, 40, 0, 1);
        d.bit(0, 0, 0, 0, 1);
        d.bit(0, 2, 6, 0, 1);
        s.due("501 and BOOK 6 of five", d.x.wrong(0), 4 + 16 + 128);
        d.x.gives(2, 1, 10);
        d.x.gives(0, 2, 20);
        d.x.gives(5, 0, 20);
        d.x.gives(4, NONE, 30);
        s.due("in 9", d.x.wrong(9), 4 + 16 + 128);
        s.due("in 10", d.x.wrong(10), 16 + 128);
        s.due("in 19", d.x.wrong(19), 16 + 128);
        s.due("in 20", d.x.wrong(20), 1 + 16 + 32 + 128);
        s.due("in 2000", d.x.wrong(2000), 1 + 32 + 128);
    }

    private static void wrong() {
        s.says("WRONG in a YEAR, as bits; -1: no such YEAR (0 to 2000).");
        Desk d = Desk.with(1, 1);
        s.due("no BIT in 0", d.x.wrong(0), 0);
        s.due("no BIT in 2000", d.x.wrong(2000), 0);
        for (int year : new int[] {-1, 2001, MIN, MAX}) s.due("in " + year, d.x.wrong(year), -1);
        for (int i = 0; i < 40; i++) d.bit(0, 0, i == 0 || i == 31 || i == 32 || i == 39 ? 10 : 9, 0, 1);
        s.due("bits 0, 31, 32, 39", d.x.wrong(0), 1L | 3L << 31 | 1L << 39);
        for (int year : new int[] {-1, 2001, MIN, MAX}) s.due("in " + year, d.x.wrong(year), -1);
    }

    private static void fewerWithout() {
        s.says("MOVES: by how much THE ORDER's POINTS of a WORK are fewer if a BIT of it were not there.");
        Desk d = Desk.with(1, 1);
        for (int i = 0; i < 3; i++) d.bit(0, 0, i + 1, 0, 1);
        d.plan("p10(b+1=c);p1(b+2=c)");
        s.due("the middle", d.x.moves(1), 19);
        s.due("the first", d.x.moves(0), 10);
        s.due("the last", d.x.moves(2), 10);
        d.plan("p0-5(0=0)");
        s.due("more without it", d.x.moves(0), -5);
        d.x.ahead(2, 0);
        d.x.ahead(0, 1);
        d.plan("p7(b=2&c=3);p3(b=3&c=2)");
        // 2 0 1: none; without 0 no pair is left: 1 2 comes to 7.
        s.due("with its pairs gone", d.x.moves(0), -7);
        s.due("the others' pairs stay", d.x.moves(1), 0);
        Desk e = Desk.with(1, 1);
        for (int i = 0; i < 10; i++) e.bit(0, 0, i + 1, 0, 1);
        e.plan("p1000(b+1=c);p0-1000(0=0)");
        s.due("the first of ten", e.x.moves(0), 1000);
        s.due("the middle of ten: 9000 less 7000 and -1000", e.x.moves(5), 3000);
    }

    private static void moves() {
        s.says("MOVES: of BIT i; -1000000: no such one, of no WORK, none is told with it; without it none (it is alone): its POINTS are 0.");
        Desk d = Desk.with(8, 1);
        s.due("no BIT", d.x.moves(0), NOT_TOLD);
        for (int i = 0; i < 40; i++) d.bit(0, i == 39 ? 7 : i < 11 ? 0 : i < 13 ? 1 : i < 15 ? 2 : NONE, 0, 0, 1);
        d.plan("p5(0=0)");
        s.due("it is alone", d.x.moves(39), 0);
        s.due("of no WORK", d.x.moves(38), NOT_TOLD);
        s.due("eleven with it", d.x.moves(0), NOT_TOLD);
        s.due("two: 5 less 0", d.x.moves(11), 5);
        d.x.ahead(13, 14);
        d.x.ahead(14, 13);
        s.due("none can be with it", d.x.moves(13), NOT_TOLD);
        for (int i : new int[] {-1, 40, MIN, MAX}) s.due("BIT " + i, d.x.moves(i), NOT_TOLD);
    }

    private static void rightOrFirst() {
        s.says("CHECK of a BIT: its WORDS: numbers: right, or the first that is not so.");
        Desk d = Desk.with(0, 1);
        d.bit(0, NONE, 0, 0, 0, 63, 1, 2, 3, 4, 5, 6);
        s.due("all eight", d.numbers(0, 63, 1, 2, 3, 4, 5, 6).x.check(0, 8), NONE);
        for (int p = 0; p < 8; p++) {
            for (int other : new int[] {64, -1, 256, 1 << 31, 1 << 16}) {
                int[] numbers = {0, 63, 1, 2, 3, 4, 5, 6};
                numbers[p] ^= other;
                s.due("place " + p + " by " + other, d.numbers(numbers).x.check(0, 8), p);
            }
        }
        s.due("the first of two", d.numbers(0, 1, 1, 9).x.check(0, 4), 1);
        s.due("the ninth is not so", d.numbers(0, 63, 1, 2, 3, 4, 5, 6, 7).x.check(0, 9), 8);
    }

    private static void check() {
        s.says("CHECK of BIT i by the first n numbers of the tape (four bytes each; empty then): NONE: right; else the place of the first number that is not so (n: some are lacking); -2: no such BIT, it has not so many (the tape stays).");
        Desk d = Desk.with(0, 1);
        s.due("no BIT, n 0", d.x.check(0, 0), -2);
        for (int i = 0; i < 40; i++) d.bit(0, NONE, 0, 0, 5, 6, i);
        d.numbers(5, 6, 39, 9, 9);
        for (int i : new int[] {-1, 40, MIN, MAX}) {
            for (int n : new int[] {0, 3, 5}) s.due("BIT " + i + ", n " + n, d.x.check(i, n), -2);
        }
        for (int n : new int[] {6, -1, 1 << 30, 1 << 29, MIN, MAX}) s.due("n " + n, d.x.check(39, n), -2);
        s.due("the tape stays", d.x.count(5), 20);
        s.due("the first three are right", d.x.check(39, 3), NONE);
        s.due("empty then", d.x.count(5), 0);
        s.due("n 0 of none: all are lacking", d.x.check(39, 0), 0);
        s.due("n 0: all are lacking", d.numbers(5, 6, 39).x.check(39, 0), 0);
        s.due("empty then", d.x.count(5), 0);
        s.due("n 1: some are lacking", d.numbers(5, 6, 39).x.check(39, 1), 1);
        s.due("n 2: some are lacking", d.numbers(5, 6, 39).x.check(39, 2), 2);
        s.due("empty then", d.x.count(5), 0);
        s.due("n 4: one is too many", d.numbers(5, 6, 39, 0).x.check(39, 4), 3);
        s.due("n 5: the first that is not so", d.numbers(5, 6, 38, 0, 0).x.check(39, 5), 2);
        s.due("n 1 of none", d.x.check(39, 1), -2);
    }

    private static void count() {
        s.says("0 AUTHORS, 1 WORKS, 2 WRITERS, 3 BITS, 4 X, 5 bytes of the tape, 6, 7, 8 CLAUSES of THE PLAN, THE HABIT, THE TABLE, 9 pairs AHEAD; 10 + m CLAUSES of WRITER m's WAY, 20 + k WORDS of WORK k (0: lost).");
        Desk d = Desk.with(8, 8);
        for (int a = 1; a < 8; a++) d.x.author(1, 1);
        for (int i = 0; i < 40; i++) d.bit(0, 0, 0, 0, 1);
        d.x.seed(65535);
        d.plan("p1(0=0);".repeat(11) + "p1(0=0)");
        d.habit("h1(0=0);".repeat(10) + "h1(0=0)");
        d.table("g1(0=0);".repeat(9) + "g1(0=0)");
        for (int i = 0; i < 39; i++) d.x.ahead(i, i + 1);
        for (int i = 0; i < 21; i++) d.x.ahead(i + 1, i);
        d.way(0, "d1(0=0)");
        d.way(7, "n1(0=0);".repeat(11) + "n1(0=0)");
        d.left(0, 5);
        int[] words = new int[40];
        d.left(7, words);
        d.bytes(new int[200]);
        int[] want = {8, 8, 8, 40, 65535, 200, 12, 11, 10, 60, 1, 0, 0, 0, 0, 0, 0, 12, NONE, NONE, 1, 0, 0, 0, 0, 0, 0, 40, NONE};
        for (int what = 0; what < want.length; what++) s.due("what " + what, d.x.count(what), want[what]);
    }

    private static void countOthers() {
        s.says("20 + k WORDS of WORK k (0: lost). NONE for others.");
        Desk d = Desk.with(2, 3);
        s.due("WRITER 2", d.x.count(12), 0);
        s.due("WRITER 3", d.x.count(13), NONE);
        s.due("WORK 1: lost", d.x.count(21), 0);
        s.due("WORK 2", d.x.count(22), NONE);
        for (int what : new int[] {-1, -10, 18, 19, 28, 29, 30, 100, MIN, MAX, MIN + 20}) s.due("what " + what, d.x.count(what), NONE);
    }
}
