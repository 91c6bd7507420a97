import java.util.List;
import java.util.function.Supplier;
import java.util.function.ToLongFunction;

/** What refused calls answer, that they leave all as it was, and which of two reasons counts. */
public final class Refusals {
    private static final int NONE = QuotedBooks.NONE;
    private static final int NOT_TOLD = -1000000;
    private static final int MIN = Integer.MIN_VALUE;
    private static final int MAX = Integer.MAX_VALUE;
    private static final int[] WORDS = {10, 21, 30, 40, 51};
    private static final Sheet s = new Sheet();

    /** How an object is made, and a call that tells by its answer what is on its tape. */
    private record Stage(Supplier<Desk> make, ToLongFunction<QuotedBooks> tape, long due) { }

    private static final Stage NOTHING = new Stage(Desk::new, x -> x.count(5), 0);
    private static final Stage EMPTY_TAPE = new Stage(Refusals::some, x -> x.count(5), 0);
    private static final Stage NUMBERS = new Stage(() -> some().numbers(WORDS), x -> x.check(0, 5), NONE);
    private static final Stage PAIRS = new Stage(() -> some().bytes(pairs(10)), x -> x.left(2, 10) ? 1 : 0, 1);
    private static final Stage NO_PAIRS = new Stage(() -> some().bytes(64, 1, 5, 1), x -> x.bit(0, NONE, 0, 0, 1), -2);
    private static final Stage TEXT = new Stage(() -> some().bytes('p', '1', '(', '0', '=', '0', ')'), x -> x.plan(7), 1);
    private static final Stage FULL = new Stage(Refusals::full, x -> x.check(0, 50), 5);
    private static final Stage FULL_NO_WORDS = new Stage(() -> full().empty().bytes(64, 64), x -> x.plan(1), -1000);

    public static void main(String[] args) {
        asTheyAre();
        nothingYet();
        lastOfTheMost();
        authors();
        works();
        writers();
        seed();
        feed();
        left();
        leftOfTwoReasons();
        bit();
        bitOfTwoReasons();
        texts();
        textsOfTwoReasons();
        quote();
        quoteOfTwoReasons();
        ahead();
        gives();
        check();
        checkOfTwoReasons();
        asking();
        askingOfTwoReasons();
        askedBeforeItIsLeft();
        notRefused();
        s.end("what is refused");
    }

    private static int[] pairs(int number) {
        int[] bytes = new int[2 * number];
        for (int p = 0; p < number; p++) {
            bytes[2 * p] = 7 + p;
            bytes[2 * p + 1] = 1;
        }
        return bytes;
    }

    /** Some of each: WORKS 0 and 1 are LEFT, 2 is lost; the last gift was in 500; all TEXTS are told. */
    private static Desk some() {
        Desk d = new Desk();
        d.x.author(100, 5);
        d.x.author(150, 9);
        d.x.work(0, 4);
        d.x.work(0, 5);
        d.x.work(1, 6);
        d.x.writer(200);
        d.x.writer(300);
        d.left(0, 10, 20, 30, 40, 50, 60);
        d.left(1, 1, 2, 3);
        d.bit(0, 0, 2, 1, WORDS);
        d.bit(1, 0, 3, 5, 10, 21, 30, 40, 52);
        d.bit(1, 1, 1, 9, 1, 3);
        d.bit(0, 0, 1, 0, 60);
        d.bit(0, NONE, 0, 3, 10, 20);
        d.x.seed(77);
        d.plan("p[b-c]*3+s(0=0)");
        d.habit("hn*10+t(0=0)");
        d.table("g9(b=c);g2(0=0)");
        d.way(0, "d300(i=1);c500(0=0);n2(0=0)");
        d.x.ahead(0, 1);
        d.x.gives(0, 1, 400);
        d.x.gives(1, NONE, 500);
        return d;
    }

    /** The most of each, with 200 bytes on the tape; the first five numbers are the WORDS of BIT 0. */
    private static Desk full() {
        Desk d = new Desk();
        for (int i = 0; i < 8; i++) {
            d.x.author(100 + i, 5);
            d.x.work(i, 4);
            d.x.writer(200 + i);
        }
        d.left(0, 10, 20, 30, 40, 50, 60);
        d.bit(0, 0, 2, 1, WORDS);
        for (int i = 1; i < 40; i++) d.bit(i % 8, i < 12 ? 0 : i % 8, i % 5, i % 10, i);
        int told = 0;
        for (int a = 0; a < 12 && told < 60; a++) {
            for (int b = a + 1; b < 12 && told < 60; b++) if (d.x.ahead(a, b)) told++;
        }
        for (int g = 0; g < 60; g++) d.x.gives(g % 40, g % 8, 400 + g);
        return d.bytes(new int[200]).empty().numbers(WORDS).bytes(new int[180]);
    }

    private static void sideBySide(String what, Desk as, Desk with) {
        List<String> want = Snapshot.of(as.x);
        List<String> got = Snapshot.of(with.x);
        for (int line = 0; line < want.size(); line++) {
            if (!got.get(line).equals(want.get(line))) {
                s.fault(what + ": then " + got.get(line) + ", else " + want.get(line));
                return;
            }
        }
    }

    private static void refused(Stage stage, String what, ToLongFunction<QuotedBooks> call, long want) {
        Desk with = stage.make.get();
        s.due(what, call.applyAsLong(with.x), want);
        s.due(what + ", the tape then", stage.tape.applyAsLong(with.x), stage.due);
        with = stage.make.get();
        call.applyAsLong(with.x);
        sideBySide(what, stage.make.get(), with);
    }

    private static void asTheyAre() {
        s.says("WORKS 0 to 7: an AUTHOR, how many BOOKS it has (1 to 40)");
        Desk d = some();
        int[] want = {2, 3, 2, 5, 77, 0, 1, 1, 2, 1};
        for (int what = 0; what < want.length; what++) s.due("some: count(" + what + ")", d.x.count(what), want[what]);
        d = full();
        int[] most = {8, 8, 8, 40, 1, 200, 0, 0, 0, 60};
        for (int what = 0; what < most.length; what++) s.due("full: count(" + what + ")", d.x.count(what), most[what]);
        s.due("full: the last gift", d.x.given(19, 459), 3);
        for (Stage stage : new Stage[] {NOTHING, EMPTY_TAPE, NUMBERS, PAIRS, NO_PAIRS, TEXT, FULL, FULL_NO_WORDS}) {
            s.due("the tape", stage.tape.applyAsLong(stage.make.get().x), stage.due);
        }
    }

    /** Each call on an object in which nothing was told: all of them are refused, or find nothing. */
    private static void nothingYet() {
        s.says("No AUTHORS, WORKS, WRITERS, BITS, TEXTS; THE SEED 1.");
        refused(NOTHING, "work", x -> x.work(0, 1), NONE);
        refused(NOTHING, "left", x -> x.left(0, 1) ? 1 : 0, 0);
        refused(NOTHING, "bit", x -> x.bit(0, 0, 0, 0, 1), NONE);
        refused(NOTHING, "bit of no WORK", x -> x.bit(0, NONE, 0, 0, 1), NONE);
        refused(NOTHING, "way", x -> x.way(0, 1), NONE);
        refused(NOTHING, "plan", x -> x.plan(1), NONE);
        refused(NOTHING, "habit", x -> x.habit(1), NONE);
        refused(NOTHING, "table", x -> x.table(1), NONE);
        refused(NOTHING, "quote", x -> x.quote(0, 0, 0, 0, 0), NONE);
        refused(NOTHING, "bitIs", x -> x.bitIs(0, 0), NONE);
        refused(NOTHING, "apart", x -> x.apart(0, 0), NONE);
        refused(NOTHING, "near", x -> x.near(0, 0, 0), NONE);
        refused(NOTHING, "nearness", x -> x.nearness(0, 3), NONE);
        refused(NOTHING, "same", x -> x.same(0, 0), -1);
        refused(NOTHING, "stood", x -> x.stood(0, 0, NONE), NONE);
        refused(NOTHING, "slips", x -> x.slips(0, 0, 0), -1);
        refused(NOTHING, "slip", x -> x.slip(0, 0, 0), NONE);
        refused(NOTHING, "shared", x -> x.shared(0, 1, 0, 0), -1);
        refused(NOTHING, "groups", x -> x.groups(0, 0), NONE);
        refused(NOTHING, "from", x -> x.from(0, 0, 0), -3);
        refused(NOTHING, "there", x -> x.there(0), NONE);
        refused(NOTHING, "ahead", x -> x.ahead(0, 1) ? 1 : 0, 0);
        refused(NOTHING, "order", x -> x.order(0, NONE), NOT_TOLD);
        refused(NOTHING, "orders", x -> x.orders(0), -1);
        refused(NOTHING, "sure", x -> x.sure(0, 1), NONE);
        refused(NOTHING, "truth", x -> x.truth(1, 1, 0), -1);
        refused(NOTHING, "length", x -> x.length(0, 1, 0), -1);
        refused(NOTHING, "span", x -> x.span(0, 1, 0), NONE);
        refused(NOTHING, "nobody", x -> x.nobody(0, 1), -1);
        refused(NOTHING, "whose", x -> x.whose(0, 0), NOT_TOLD);
        refused(NOTHING, "men", x -> x.men(0, 0), NOT_TOLD);
        refused(NOTHING, "gives", x -> x.gives(0, NONE, 0) ? 1 : 0, 0);
        refused(NOTHING, "given", x -> x.given(0, 0), -2);
        refused(NOTHING, "wrong", x -> x.wrong(0), 0);
        refused(NOTHING, "moves", x -> x.moves(0), NOT_TOLD);
        refused(NOTHING, "check", x -> x.check(0, 0), -2);
        refused(NOTHING, "count of a WAY", x -> x.count(10), NONE);
        refused(NOTHING, "count of a WORK", x -> x.count(20), NONE);
    }

    private static void full(String what, ToLongFunction<QuotedBooks> call, long want) {
        refused(FULL, what, call, want);
    }

    /** With the most of each: the last of them is there, and the one behind it is not. */
    private static void lastOfTheMost() {
        s.says("WRITERS 0 to 7: a YEAR (0 to 999).");
        full("bitIs(39, 10)", x -> x.bitIs(39, 10), 39);
        full("bitIs(40, 10)", x -> x.bitIs(40, 10), NONE);
        full("apart(39, 38)", x -> x.apart(39, 38), 1);
        full("apart(39, 40)", x -> x.apart(39, 40), NONE);
        full("near(39, 0, 0)", x -> x.near(39, 0, 0), 1);
        full("near(40, 0, 0)", x -> x.near(40, 0, 0), NONE);
        full("near(39, 8, 0)", x -> x.near(39, 8, 0), NONE);
        full("nearness(7, 3)", x -> x.nearness(7, 3), 1);
        full("nearness(8, 3)", x -> x.nearness(8, 3), NONE);
        full("same(39, 0)", x -> x.same(39, 0), 1L << 39);
        full("same(40, 0)", x -> x.same(40, 0), -1);
        full("stood(39, 39, 0)", x -> x.stood(39, 39, 0), 39);
        full("stood(39, 40, 0)", x -> x.stood(39, 40, 0), NONE);
        full("slips(7, 0, 0)", x -> x.slips(7, 0, 0), 1);
        full("slips(8, 0, 0)", x -> x.slips(8, 0, 0), -1);
        full("slip(7, 0, 0)", x -> x.slip(7, 0, 0), 7);
        full("slip(8, 0, 0)", x -> x.slip(8, 0, 0), NONE);
        full("shared(6, 7, 0, 0)", x -> x.shared(6, 7, 0, 0), 1);
        full("shared(7, 8, 0, 0)", x -> x.shared(7, 8, 0, 0), -1);
        full("groups(7, 1000)", x -> x.groups(7, 1000), 128);
        full("groups(8, 1000)", x -> x.groups(8, 1000), NONE);
        full("from(7, 0, 1)", x -> x.from(7, 0, 1), 1);
        full("from(8, 0, 1)", x -> x.from(8, 0, 1), -3);
        full("order(7, 0)", x -> x.order(7, 0), 15);
        full("order(8, 0)", x -> x.order(8, 0), NOT_TOLD);
        full("orders(7)", x -> x.orders(7), 24);
        full("orders(8)", x -> x.orders(8), -1);
        full("sure(31, 39)", x -> x.sure(31, 39), 0);
        full("sure(39, 40)", x -> x.sure(39, 40), NONE);
        full("truth of BIT 39", x -> x.truth(1L << 39, 1, 1), 0);
        full("truth of BIT 40", x -> x.truth(1L << 40, 1, 1), -1);
        full("length(7, 40, 1)", x -> x.length(7, 40, 1), 9880);
        full("length(8, 40, 1)", x -> x.length(8, 40, 1), -1);
        full("span(7, 750, 1)", x -> x.span(7, 750, 1), 4);
        full("span(8, 750, 1)", x -> x.span(8, 750, 1), NONE);
        full("nobody(7, 5)", x -> x.nobody(7, 5), 18);
        full("nobody(8, 5)", x -> x.nobody(8, 5), -1);
        full("whose(39, 0)", x -> x.whose(39, 0), 0);
        full("whose(40, 0)", x -> x.whose(40, 0), NOT_TOLD);
        full("men(7, 1)", x -> x.men(7, 1), 10);
        full("men(8, 1)", x -> x.men(8, 1), NOT_TOLD);
        full("given(39, 438)", x -> x.given(39, 438), 7);
        full("given(40, 438)", x -> x.given(40, 438), -2);
        full("moves(39)", x -> x.moves(39), 0);
        full("moves(40)", x -> x.moves(40), NOT_TOLD);
        full("count(17)", x -> x.count(17), 0);
        full("count(18)", x -> x.count(18), NONE);
        full("count(27)", x -> x.count(27), 0);
        full("count(28)", x -> x.count(28), NONE);
    }

    private static void authors() {
        s.says("An AUTHOR: the number; NONE: no such ones, 8 are there.");
        for (Stage stage : new Stage[] {NOTHING, NUMBERS}) {
            for (int year : new int[] {-1, 1000, MIN, MAX}) refused(stage, "author(" + year + ", 1)", x -> x.author(year, 1), NONE);
            for (int prior : new int[] {0, 101, MIN, MAX}) refused(stage, "author(1, " + prior + ")", x -> x.author(1, prior), NONE);
        }
        refused(FULL, "a ninth", x -> x.author(1, 1), NONE);
    }

    private static void works() {
        s.says("A WORK: its number; NONE: no such ones, 8 are there.");
        refused(NOTHING, "work(0, 1)", x -> x.work(0, 1), NONE);
        for (int a : new int[] {-1, 2, MIN, MAX}) refused(NUMBERS, "work(" + a + ", 1)", x -> x.work(a, 1), NONE);
        for (int books : new int[] {0, 41, MIN, MAX}) refused(NUMBERS, "work(0, " + books + ")", x -> x.work(0, books), NONE);
        refused(FULL, "a ninth", x -> x.work(0, 1), NONE);
    }

    private static void writers() {
        s.says("A WRITER: the number; NONE: no such YEAR, 8 are there.");
        for (int year : new int[] {-1, 1000, MIN, MAX}) refused(NUMBERS, "writer(" + year + ")", x -> x.writer(year), NONE);
        refused(FULL, "a ninth", x -> x.writer(1), NONE);
    }

    private static void seed() {
        s.says("true; false: no such number.");
        for (int n : new int[] {-1, 65536, MIN, MAX}) refused(NUMBERS, "seed(" + n + ")", x -> x.seed(n) ? 1 : 0, 0);
    }

    private static void feed() {
        s.says("NONE if that would be more than 200.");
        refused(FULL, "an eleventh", x -> x.feed(1, 2, 3, 4, 5), NONE);
        refused(FULL, "an eleventh of 0", x -> x.feed(0, 0, 0, 0, 0), NONE);
    }

    private static void left() {
        s.says("false: no such ones, it is LEFT, it has not so many (the tape stays), they are not so.");
        for (int k : new int[] {-1, 3, MIN, MAX}) refused(PAIRS, "left(" + k + ", 1)", x -> x.left(k, 1) ? 1 : 0, 0);
        for (int n : new int[] {0, -1, 41, MIN, MAX}) refused(PAIRS, "left(2, " + n + ")", x -> x.left(2, n) ? 1 : 0, 0);
        for (int k = 0; k < 2; k++) {
            int left = k;
            refused(PAIRS, "left(" + k + ", 1)", x -> x.left(left, 1) ? 1 : 0, 0);
            refused(PAIRS, "left(" + k + ", 10)", x -> x.left(left, 10) ? 1 : 0, 0);
        }
        refused(PAIRS, "eleven of ten", x -> x.left(2, 11) ? 1 : 0, 0);
        refused(PAIRS, "forty of ten", x -> x.left(2, 40) ? 1 : 0, 0);
        refused(EMPTY_TAPE, "one of none", x -> x.left(2, 1) ? 1 : 0, 0);
        refused(NOTHING, "no WORK", x -> x.left(0, 1) ? 1 : 0, 0);
    }

    private static void leftOfTwoReasons() {
        s.says("Of several reasons of a call that told last in its line is looked at first, then the others as they stand.");
        refused(NO_PAIRS, "no such WORK, they are not so", x -> x.left(3, 2) ? 1 : 0, 0);
        refused(NO_PAIRS, "it is LEFT, they are not so", x -> x.left(0, 2) ? 1 : 0, 0);
        refused(NO_PAIRS, "n 0, they are not so", x -> x.left(2, 0) ? 1 : 0, 0);
        refused(NO_PAIRS, "not so many, they are not so", x -> x.left(2, 11) ? 1 : 0, 0);
        refused(NO_PAIRS, "no such WORK, not so many", x -> x.left(3, 11) ? 1 : 0, 0);
        refused(PAIRS, "it is LEFT, n 41", x -> x.left(1, 41) ? 1 : 0, 0);
    }

    private static void bit() {
        s.says("NONE: no such ones, 40 are there, it has not so many (the tape stays).");
        for (int m : new int[] {-1, 2, MIN, MAX}) refused(NUMBERS, "WRITER " + m, x -> x.bit(m, 0, 0, 0, 1), NONE);
        for (int k : new int[] {-2, 3, MIN, MAX}) refused(NUMBERS, "WORK " + k, x -> x.bit(0, k, 0, 0, 1), NONE);
        for (int book : new int[] {-1, 41, MIN, MAX}) refused(NUMBERS, "BOOK " + book, x -> x.bit(0, 0, book, 0, 1), NONE);
        for (int subject : new int[] {-1, 10, MIN, MAX}) refused(NUMBERS, "SUBJECT " + subject, x -> x.bit(0, 0, 0, subject, 1), NONE);
        for (int n : new int[] {0, -1, 9, 21, MIN, MAX}) refused(NUMBERS, "n " + n, x -> x.bit(0, 0, 0, 0, n), NONE);
        refused(EMPTY_TAPE, "one of none", x -> x.bit(0, 0, 0, 0, 1), NONE);
        refused(EMPTY_TAPE, "eight of none", x -> x.bit(0, 0, 0, 0, 8), NONE);
        refused(FULL, "40 are there", x -> x.bit(0, 0, 0, 0, 1), NONE);
        refused(NOTHING, "no WRITER", x -> x.bit(0, NONE, 0, 0, 1), NONE);
    }

    private static void bitOfTwoReasons() {
        s.says("-2: no such WORDS; NONE: no such ones, 40 are there, it has not so many (the tape stays).");
        refused(NO_PAIRS, "no such WRITER, no such WORD", x -> x.bit(2, 0, 0, 0, 1), NONE);
        refused(NO_PAIRS, "no such WORK, no such WORD", x -> x.bit(0, 3, 0, 0, 1), NONE);
        refused(NO_PAIRS, "no such BOOK, no such WORD", x -> x.bit(0, 0, 41, 0, 1), NONE);
        refused(NO_PAIRS, "no such SUBJECT, no such WORD", x -> x.bit(0, 0, 0, 10, 1), NONE);
        refused(NO_PAIRS, "nine, no such WORD", x -> x.bit(0, 0, 0, 0, 9), NONE);
        refused(FULL_NO_WORDS, "40 are there, no such WORD", x -> x.bit(0, 0, 0, 0, 1), NONE);
        refused(FULL_NO_WORDS, "40 are there, no such WRITER", x -> x.bit(8, 0, 0, 0, 1), NONE);
        refused(EMPTY_TAPE, "no such WRITER, not so many", x -> x.bit(2, 0, 0, 0, 1), NONE);
    }

    private static void texts() {
        s.says("NONE: no such ones, it has not so many (the tape stays).");
        for (int n : new int[] {0, -1, 21, 160, 161, MIN, MAX}) {
            refused(TEXT, "way(0, " + n + ")", x -> x.way(0, n), NONE);
            refused(TEXT, "plan(" + n + ")", x -> x.plan(n), NONE);
            refused(TEXT, "habit(" + n + ")", x -> x.habit(n), NONE);
            refused(TEXT, "table(" + n + ")", x -> x.table(n), NONE);
        }
        for (int m : new int[] {-1, 2, 8, MIN, MAX}) refused(TEXT, "way(" + m + ", 7)", x -> x.way(m, 7), NONE);
        refused(EMPTY_TAPE, "one of none", x -> x.plan(1), NONE);
        refused(FULL, "161 of 200", x -> x.plan(161), NONE);
        refused(FULL, "161 of 200", x -> x.habit(161), NONE);
        refused(FULL, "161 of 200", x -> x.table(161), NONE);
        refused(FULL, "161 of 200", x -> x.way(7, 161), NONE);
        refused(FULL, "WRITER 8", x -> x.way(8, 160), NONE);
    }

    private static void textsOfTwoReasons() {
        s.says("THE WAY of a WRITER by the first n bytes of the tape (1 to 160; empty then), in place of the one before: how many CLAUSES; a FAULT: -1000 times its number, less its place (the TEXT before stays); NONE: no such ones, it has not so many (the tape stays).");
        refused(TEXT, "no such WRITER, a FAULT", x -> x.way(2, 3), NONE);
        refused(TEXT, "not so many, a FAULT", x -> x.way(0, 21), NONE);
        refused(TEXT, "not so many, a FAULT", x -> x.plan(21), NONE);
        refused(FULL, "161 bytes, a FAULT", x -> x.table(161), NONE);
        refused(EMPTY_TAPE, "no such WRITER, not so many", x -> x.way(2, 1), NONE);
    }

    private static void quote() {
        s.says("NONE: no such ones, it is not LEFT, 40 are there.");
        for (int m : new int[] {-1, 2, MIN, MAX}) refused(NUMBERS, "WRITER " + m, x -> x.quote(m, 0, 0, 0, 0), NONE);
        for (int k : new int[] {-1, 2, 3, MIN, MAX}) refused(NUMBERS, "WORK " + k, x -> x.quote(0, k, 0, 0, 0), NONE);
        for (int from : new int[] {-1, 6, MIN, MAX}) refused(NUMBERS, "from " + from, x -> x.quote(0, 0, from, 5, 0), NONE);
        for (int to : new int[] {-1, 0, 6, MIN, MAX}) refused(NUMBERS, "from 1 to " + to, x -> x.quote(0, 0, 1, to, 0), NONE);
        for (int subject : new int[] {-1, 10, MIN, MAX}) refused(NUMBERS, "SUBJECT " + subject, x -> x.quote(0, 0, 0, 0, subject), NONE);
        refused(FULL, "40 are there", x -> x.quote(0, 0, 0, 0, 0), NONE);
        refused(NOTHING, "no WORK", x -> x.quote(0, 0, 0, 0, 0), NONE);
    }

    /** Without the look at reasons no WORD would be left: X would have gone on. */
    private static void quoteOfTwoReasons() {
        s.says("-2: no WORD is left (X has gone on); NONE: no such ones, it is not LEFT, 40 are there.");
        Stage drops = new Stage(() -> {
            Desk d = some();
            d.way(0, "d1000(0=0)");
            return d;
        }, x -> x.count(4), 77);
        refused(drops, "no such SUBJECT, no WORD is left", x -> x.quote(0, 0, 0, 0, 10), NONE);
        refused(drops, "a place too far, no WORD is left", x -> x.quote(0, 0, 0, 6, 0), NONE);
        refused(drops, "it is not LEFT", x -> x.quote(0, 2, 0, 0, 0), NONE);
        Stage fullDrops = new Stage(() -> {
            Desk d = full().empty();
            d.way(0, "d1000(0=0)");
            return d;
        }, x -> x.count(4), 1);
        refused(fullDrops, "40 are there, no WORD is left", x -> x.quote(0, 0, 0, 0, 0), NONE);
    }

    private static void ahead() {
        s.says("BIT x is told to come AHEAD of y: true; false: no such ones, one twice, it is told, 60 are, the WORK they have is none or not one.");
        for (int i : new int[] {-1, 5, MIN, MAX}) {
            refused(NUMBERS, "ahead(" + i + ", 0)", x -> x.ahead(i, 0) ? 1 : 0, 0);
            refused(NUMBERS, "ahead(0, " + i + ")", x -> x.ahead(0, i) ? 1 : 0, 0);
            refused(NUMBERS, "ahead(" + i + ", " + i + ")", x -> x.ahead(i, i) ? 1 : 0, 0);
        }
        refused(NUMBERS, "one twice", x -> x.ahead(1, 1) ? 1 : 0, 0);
        refused(NUMBERS, "it is told", x -> x.ahead(0, 1) ? 1 : 0, 0);
        refused(NUMBERS, "not one", x -> x.ahead(0, 2) ? 1 : 0, 0);
        refused(NUMBERS, "one has none", x -> x.ahead(4, 0) ? 1 : 0, 0);
        refused(NUMBERS, "none, and one twice", x -> x.ahead(4, 4) ? 1 : 0, 0);
        refused(FULL, "60 are", x -> x.ahead(11, 0) ? 1 : 0, 0);
        refused(FULL, "60 are, it is told", x -> x.ahead(0, 1) ? 1 : 0, 0);
        refused(NOTHING, "no BIT", x -> x.ahead(0, 1) ? 1 : 0, 0);
    }

    private static void gives() {
        s.says("true; false: no such ones, a YEAR before the one told last, 60 times.");
        for (int i : new int[] {-1, 5, MIN, MAX}) refused(NUMBERS, "BIT " + i, x -> x.gives(i, 0, 600) ? 1 : 0, 0);
        for (int k : new int[] {-2, 3, MIN, MAX}) refused(NUMBERS, "WORK " + k, x -> x.gives(0, k, 600) ? 1 : 0, 0);
        for (int year : new int[] {-1, 2001, MIN, MAX}) refused(NUMBERS, "YEAR " + year, x -> x.gives(0, 0, year) ? 1 : 0, 0);
        for (int year : new int[] {499, 400, 0}) refused(NUMBERS, "before 500: " + year, x -> x.gives(0, 0, year) ? 1 : 0, 0);
        refused(NUMBERS, "no such BIT, 2000", x -> x.gives(5, 0, 2000) ? 1 : 0, 0);
        refused(FULL, "60 times", x -> x.gives(0, 0, 2000) ? 1 : 0, 0);
        refused(FULL, "60 times, a YEAR before", x -> x.gives(0, 0, 0) ? 1 : 0, 0);
        refused(NOTHING, "no BIT", x -> x.gives(0, NONE, 0) ? 1 : 0, 0);
    }

    private static void check() {
        s.says("-2: no such BIT, it has not so many (the tape stays).");
        for (int i : new int[] {-1, 5, MIN, MAX}) {
            refused(NUMBERS, "BIT " + i, x -> x.check(i, 1), -2);
            refused(NUMBERS, "BIT " + i + ", n 0", x -> x.check(i, 0), -2);
        }
        for (int n : new int[] {6, -1, 1 << 30, MIN, MAX}) refused(NUMBERS, "n " + n, x -> x.check(0, n), -2);
        refused(FULL, "51 of 50", x -> x.check(0, 51), -2);
        refused(EMPTY_TAPE, "one of none", x -> x.check(0, 1), -2);
        refused(NOTHING, "no BIT", x -> x.check(0, 0), -2);
    }

    private static void checkOfTwoReasons() {
        s.says("else the place of the first number that is not so (n: some are lacking); -2: no such BIT, it has not so many (the tape stays).");
        refused(NUMBERS, "no such BIT, not so many", x -> x.check(5, 6), -2);
        refused(TEXT, "not so many, the first is not so", x -> x.check(0, 6), -2);
        refused(TEXT, "no such BIT, the first is not so", x -> x.check(5, 1), -2);
        refused(TEXT, "not so many, and n is what the BIT has", x -> x.check(0, -5), -2);
    }

    private static void asking() {
        s.says("A call that is refused (NONE, false) changes nothing but the tape, where it is told.");
        refused(NUMBERS, "bitIs", x -> x.bitIs(5, 0), NONE);
        refused(NUMBERS, "apart", x -> x.apart(0, 5), NONE);
        refused(NUMBERS, "near", x -> x.near(0, 2, 0), NONE);
        refused(NUMBERS, "nearness", x -> x.nearness(2, 0), NONE);
        refused(NUMBERS, "same", x -> x.same(0, 9), -1);
        refused(NUMBERS, "stood", x -> x.stood(0, 1, -2), NONE);
        refused(NUMBERS, "slips", x -> x.slips(0, 2, 0), -1);
        refused(NUMBERS, "slip", x -> x.slip(0, 2, 0), NONE);
        refused(NUMBERS, "shared", x -> x.shared(0, 0, 0, 0), -1);
        refused(NUMBERS, "groups", x -> x.groups(0, 1001), NONE);
        refused(NUMBERS, "from", x -> x.from(0, 2, 0), -3);
        refused(NUMBERS, "there", x -> x.there(2), NONE);
        refused(NUMBERS, "order", x -> x.order(0, 3), NOT_TOLD);
        refused(NUMBERS, "orders", x -> x.orders(3), -1);
        refused(NUMBERS, "sure", x -> x.sure(0, 2), NONE);
        refused(NUMBERS, "truth", x -> x.truth(16, 5, 0), -1);
        refused(NUMBERS, "length", x -> x.length(0, 41, 0), -1);
        refused(NUMBERS, "span", x -> x.span(0, 0, 0), NONE);
        refused(NUMBERS, "nobody", x -> x.nobody(0, 0), -1);
        refused(NUMBERS, "whose", x -> x.whose(5, 0), NOT_TOLD);
        refused(NUMBERS, "men", x -> x.men(2, 0), NOT_TOLD);
        refused(NUMBERS, "given", x -> x.given(0, 2001), -2);
        refused(NUMBERS, "wrong", x -> x.wrong(2001), -1);
        refused(NUMBERS, "moves", x -> x.moves(4), NOT_TOLD);
        refused(NUMBERS, "count", x -> x.count(19), NONE);
        refused(FULL, "order of more than ten", x -> x.order(0, 0), NOT_TOLD);
        refused(FULL, "men of more than ten", x -> x.men(0, 0), NOT_TOLD);
    }

    private static void askingOfTwoReasons() {
        s.says("Of several reasons of a call that told last in its line is looked at first");
        refused(NUMBERS, "no BITS of LEFT WORKS, what 4", x -> new QuotedBooks().nearness(0, 4), NONE);
        refused(NUMBERS, "no such BIT, no such place", x -> x.stood(5, 0, 9), NONE);
        refused(NUMBERS, "no such place, no such BIT", x -> x.stood(0, 5, 9), NONE);
        refused(FULL, "no PLACES, what 2", x -> x.from(1, 0, 2), -3);
        refused(FULL, "no PLACES, it is not LEFT", x -> x.from(1, 1, 0), -3);
        refused(FULL, "none is told, one twice", x -> x.sure(1, 1), NONE);
        refused(FULL, "none is told, not of one WORK", x -> x.sure(1, 13), NONE);
        refused(FULL, "none is told", x -> x.sure(1, 2), -2);
        refused(NUMBERS, "no BIT tells a BOOK, N 41", x -> x.length(2, 41, 0), -1);
        refused(NUMBERS, "no BIT tells a BOOK, what 2", x -> x.length(2, 5, 2), -1);
        refused(NUMBERS, "no BIT tells a BOOK", x -> x.length(2, 5, 0), -2);
        refused(NUMBERS, "no BIT tells a BOOK, by 0", x -> x.span(2, 0, 0), NONE);
        refused(NUMBERS, "no BIT tells a BOOK, what 2", x -> x.span(2, 5, 2), NONE);
        refused(NUMBERS, "no BIT tells a BOOK", x -> x.span(2, 5, 0), -2);
        refused(NUMBERS, "none is told, no such WORK", x -> x.orders(3), -1);
        refused(NUMBERS, "none is told", x -> x.orders(2), 0);
        Stage one = new Stage(() -> {
            Desk d = Desk.with(1, 1);
            d.bit(0, 0, 0, 0, 1);
            return d;
        }, x -> x.count(5), 0);
        refused(one, "no other AUTHOR, what 3", x -> x.whose(0, 3), NOT_TOLD);
        refused(one, "no other AUTHOR, no such BIT", x -> x.whose(1, 2), NOT_TOLD);
        refused(one, "no other AUTHOR", x -> x.whose(0, 2), NONE);
    }

    /** Asked of a lost WORK (2, of which there are BITS), which is LEFT then. */
    private static void askedBeforeItIsLeft() {
        s.says("A call that is refused (NONE, false) changes nothing");
        Stage lost = new Stage(() -> {
            Desk d = some();
            d.bit(0, 2, 1, 0, 7, 9, 9);
            return d.bytes(pairs(10));
        }, x -> x.left(2, 10) ? x.near(5, 2, 0) + 10 * x.slips(0, 2, 2) + 1000 * x.slip(0, 2, 1) : NONE, 1 + 10 * 7 + 1000 * 9);
        refused(lost, "near", x -> x.near(5, 2, 0), NONE);
        refused(lost, "slips", x -> x.slips(0, 2, 0), -1);
        refused(lost, "slip", x -> x.slip(0, 2, 1), NONE);
        refused(lost, "shared", x -> x.shared(0, 1, 2, 0), -1);
        refused(lost, "from", x -> x.from(0, 2, 0), -3);
        refused(lost, "there", x -> x.there(2), NONE);
        refused(lost, "quote", x -> x.quote(0, 2, 0, 0, 0), NONE);
        refused(lost, "groups", x -> x.groups(0, 0), 1);
        refused(lost, "nearness", x -> x.nearness(0, 3), 2);
    }

    /** What empties the tape without being taken: nothing else is changed by it. */
    private static void notRefused() {
        s.says("(the TEXT before stays)");
        ToLongFunction<QuotedBooks> emptied = x -> x.bit(0, NONE, 0, 0, 1);
        Supplier<Desk> bad = () -> some().bytes(64, 1, 5, 1);
        emptying("no such WORD, of eight", bad, emptied, x -> x.bit(1, 1, 4, 4, 8), -2);
        emptying("they are not so", bad, emptied, x -> x.left(2, 2) ? 1 : 0, 0);
        emptying("a FAULT of way", bad, emptied, x -> x.way(0, 20), -1000);
        emptying("a FAULT of plan", bad, emptied, x -> x.plan(20), -1000);
        emptying("a FAULT of habit", bad, emptied, x -> x.habit(20), -1000);
        emptying("a FAULT of table", bad, emptied, x -> x.table(20), -1000);
        emptying("a number that is not so", bad, emptied, x -> x.check(0, 5), 0);
        emptying("all are lacking", bad, emptied, x -> x.check(0, 0), 0);
        Supplier<Desk> half = () -> some().bytes(5, 1, 6, 1, 7, 0);
        emptying("the third is not so", half, x -> x.plan(1), x -> x.left(2, 3) ? 1 : 0, 0);
        Supplier<Desk> late = () -> some().bytes('p', '1', '(', '0', '=', '0', ')', ';');
        emptying("a FAULT at its end", late, emptied, x -> x.plan(8), -1008);
        emptying("a FAULT at its end", late, emptied, x -> x.plan(6), -1006);
    }

    private static void emptying(String what, Supplier<Desk> stage, ToLongFunction<QuotedBooks> other,
            ToLongFunction<QuotedBooks> call, long want) {
        Desk with = stage.get();
        s.due(what, call.applyAsLong(with.x), want);
        s.due(what + ", the tape then", with.x.count(5), 0);
        Desk as = stage.get();
        other.applyAsLong(as.x);
        s.due("the other's tape", as.x.count(5), 0);
        sideBySide(what, as, with);
    }
}
