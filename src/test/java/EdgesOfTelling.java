/** The edges that the document names for AUTHORS, WORKS, WRITERS, BITS, THE SEED, the tape, pairs and EDITORS. */
public final class EdgesOfTelling {
    private static final int NONE = QuotedBooks.NONE;
    private static final int MIN = Integer.MIN_VALUE;
    private static final int MAX = Integer.MAX_VALUE;
    private static final Sheet s = new Sheet();

    public static void main(String[] args) {
        none();
        calls();
        newObject();
        wordsOfBits();
        wordsOfWorks();
        authors();
        authorYears();
        priors();
        eightAuthors();
        works();
        booksOfWorks();
        eightWorks();
        writers();
        writerYears();
        eightWriters();
        leftByHowMany();
        leftByBooks();
        leftByBooksBefore();
        elseLost();
        leftOnce();
        bits();
        bitWritersAndWorks();
        bitBooks();
        bookNotOfItsWork();
        bitSubjects();
        bitSizes();
        fortyBits();
        seed();
        feed();
        feedHighestFirst();
        tapeOf200();
        notSoManyBytes();
        firstBytesAlone();
        sixtyPairs();
        pairsOnce();
        pairsOfOneWork();
        editorYears();
        editorYearsRise();
        sixtyTimes();
        ownMemory();
        s.end("the edges of what is told");
    }

    private static void none() {
        s.says("`NONE = -1`: There is none.");
        s.due("NONE", NONE, -1);
    }

    private static void calls() {
        s.says("An object is used for at most 512 calls after it has been made");
        Desk d = Desk.with(1, 1);
        int made = 3;
        d.left(0, 1, 2, 3);
        made += 2;
        int turn = 0;
        for (; made < 505; made += 2) {
            s.due("feed " + made, d.bytes(turn % 64).x.count(5), 20 * (1 + turn % 10));
            turn++;
            if (turn % 10 == 0) {
                d.empty();
                made++;
            }
        }
        for (; made < 511; made++) d.x.count(0);
        s.due("the 512th call", d.x.quote(0, 0, 0, 2, 5), 0);
        d = Desk.with(1, 1);
        d.left(0, 1, 2, 3);
        for (made = 5; made < 511; made++) d.x.order(0, -1);
        s.due("the 512th call", d.x.near(0, 0, 0), NONE);
    }

    private static void newObject() {
        s.says("No AUTHORS, WORKS, WRITERS, BITS, TEXTS; THE SEED 1.");
        QuotedBooks x = new QuotedBooks();
        for (int what = 0; what < 10; what++) s.due("count(" + what + ")", x.count(what), what == 4 ? 1 : 0);
        for (int m = 0; m < 8; m++) s.due("WRITER " + m, x.count(10 + m), NONE);
        for (int k = 0; k < 8; k++) s.due("WORK " + k, x.count(20 + k), NONE);
        s.due("BIT 0", x.bitIs(0, 0), NONE);
        s.due("AUTHOR 0", x.work(0, 1), NONE);
        s.due("wrong(0)", x.wrong(0), 0);
    }

    private static void wordsOfBits() {
        s.says("WORDS are numbers 0 to 63.");
        Desk d = Desk.with(0, 1);
        s.due("WORD 0", d.bit(0, NONE, 0, 0, 0), 0);
        s.due("WORD 63", d.bit(0, NONE, 0, 0, 63), 1);
        s.due("WORD 0 as told", d.x.bitIs(0, 10), 0);
        s.due("WORD 63 as told", d.x.bitIs(1, 10), 63);
        for (int word : new int[] {64, 65, 127, 128, 192, 255}) {
            s.due("WORD " + word, d.bit(0, NONE, 0, 0, word), -2);
            s.due("WORD " + word + " at the last of eight", d.bit(0, NONE, 0, 0, 1, 2, 3, 4, 5, 6, 7, word), -2);
        }
        s.due("BITS", d.x.count(3), 2);
    }

    private static void wordsOfWorks() {
        s.says("LEFT if its WORDS are told");
        Desk d = Desk.with(3, 1);
        for (int word : new int[] {64, 65, 127, 128, 255}) {
            s.due("WORD " + word, d.left(0, word), false);
            s.due("WORD " + word + " at the last place", d.left(0, 1, 2, word), false);
        }
        s.due("WORD 0", d.left(0, 0), true);
        s.due("WORD 63", d.left(1, 63), true);
        d.x.quote(0, 0, 0, 0, 0);
        d.x.quote(0, 1, 0, 0, 0);
        s.due("WORD 0 as told", d.x.bitIs(0, 10), 0);
        s.due("WORD 63 as told", d.x.bitIs(1, 10), 63);
    }

    private static void authors() {
        s.says("An AUTHOR: the number; NONE: no such ones, 8 are there.");
        QuotedBooks x = new QuotedBooks();
        s.due("first", x.author(5, 5), 0);
        s.due("second", x.author(5, 5), 1);
        s.due("a refused one", x.author(5, 0), NONE);
        s.due("third", x.author(5, 5), 2);
        s.due("AUTHORS", x.count(0), 3);
    }

    private static void authorYears() {
        s.says("AUTHORS 0 to 7: a YEAR (0 to 999)");
        Desk d = new Desk();
        for (int year : new int[] {-1, 1000, MIN, MAX}) s.due("YEAR " + year, d.x.author(year, 1), NONE);
        s.due("YEAR 0", d.x.author(0, 1), 0);
        d.x.writer(5);
        d.bit(0, NONE, 0, 0, 1);
        d.habit("hy(0=0)");
        s.due("YEAR 0 as told", d.x.whose(0, 1), 0);
        s.due("YEAR 999", d.x.author(999, 1), 1);
        s.due("YEAR 999 as told", d.x.whose(0, 1), 999);
    }

    private static void priors() {
        s.says("a PRIOR (1 to 100)");
        Desk d = new Desk();
        for (int prior : new int[] {0, -1, 101, MIN, MAX}) s.due("PRIOR " + prior, d.x.author(0, prior), NONE);
        s.due("PRIOR 1", d.x.author(0, 1), 0);
        d.x.writer(5);
        d.bit(0, NONE, 0, 0, 1);
        d.habit("hp(0=0)");
        s.due("PRIOR 1 as told", d.x.whose(0, 1), 1);
        s.due("PRIOR 100", d.x.author(0, 100), 1);
        s.due("PRIOR 100 as told", d.x.whose(0, 1), 100);
    }

    private static void eightAuthors() {
        s.says("NONE: no such ones, 8 are there.");
        QuotedBooks x = new QuotedBooks();
        for (int a = 0; a < 8; a++) s.due("author " + a, x.author(a, 1 + a), a);
        s.due("a ninth", x.author(1, 1), NONE);
        s.due("a tenth", x.author(1, 1), NONE);
        s.due("AUTHORS", x.count(0), 8);
        s.due("a WORK of AUTHOR 7", x.work(7, 1), 0);
        s.due("a WORK of AUTHOR 8", x.work(8, 1), NONE);
    }

    private static void works() {
        s.says("A WORK: its number; NONE: no such ones, 8 are there.");
        QuotedBooks x = new QuotedBooks();
        s.due("no AUTHOR is there", x.work(0, 1), NONE);
        x.author(1, 1);
        x.author(1, 1);
        for (int a : new int[] {-1, 2, MIN, MAX}) s.due("AUTHOR " + a, x.work(a, 1), NONE);
        s.due("AUTHOR 0", x.work(0, 1), 0);
        s.due("AUTHOR 1", x.work(1, 1), 1);
        s.due("WORKS", x.count(1), 2);
    }

    private static void booksOfWorks() {
        s.says("WORKS 0 to 7: an AUTHOR, how many BOOKS it has (1 to 40)");
        Desk d = new Desk();
        d.x.author(1, 1);
        for (int books : new int[] {0, -1, 41, MIN, MAX}) s.due(books + " BOOKS", d.x.work(0, books), NONE);
        s.due("one BOOK", d.x.work(0, 1), 0);
        s.due("40 BOOKS", d.x.work(0, 40), 1);
        s.due("BOOK 2 of one", d.bytes(5, 2).x.left(0, 1), false);
        s.due("BOOK 1 of one", d.bytes(5, 1).x.left(0, 1), true);
        s.due("BOOK 41 of 40", d.bytes(5, 41).x.left(1, 1), false);
        s.due("BOOK 40 of 40", d.bytes(5, 40).x.left(1, 1), true);
    }

    private static void eightWorks() {
        s.says("A WORK: its number; NONE: no such ones, 8 are there.");
        Desk d = Desk.with(8, 1);
        s.due("a ninth", d.x.work(0, 1), NONE);
        s.due("WORKS", d.x.count(1), 8);
        s.due("WORK 8", d.bit(0, 8, 0, 0, 1), NONE);
        d.empty();
        s.due("WORK 7", d.bit(0, 7, 0, 0, 1), 0);
        s.due("WORK 7 is LEFT", d.left(7, 1, 2), true);
        s.due("its WORDS", d.x.count(27), 2);
    }

    private static void writers() {
        s.says("A WRITER: the number; NONE: no such YEAR, 8 are there.");
        QuotedBooks x = new QuotedBooks();
        s.due("first", x.writer(9), 0);
        s.due("a refused one", x.writer(-1), NONE);
        s.due("second", x.writer(9), 1);
        s.due("WRITERS", x.count(2), 2);
    }

    private static void writerYears() {
        s.says("WRITERS 0 to 7: a YEAR (0 to 999).");
        Desk d = new Desk();
        for (int year : new int[] {-1, 1000, MIN, MAX}) s.due("YEAR " + year, d.x.writer(year), NONE);
        s.due("YEAR 0", d.x.writer(0), 0);
        s.due("YEAR 999", d.x.writer(999), 1);
        d.x.author(1, 1);
        d.x.work(0, 1);
        d.left(0, 7);
        d.bit(0, 0, 0, 0, 7);
        s.due("YEAR 0 as told", d.x.there(0), 0);
        d.bit(1, 0, 0, 0, 7);
        s.due("YEAR 999 as told", d.x.there(0), 999);
    }

    private static void eightWriters() {
        s.says("A WRITER: the number; NONE: no such YEAR, 8 are there.");
        Desk d = Desk.with(0, 7);
        s.due("the eighth", d.x.writer(1), 7);
        s.due("a ninth", d.x.writer(1), NONE);
        s.due("WRITERS", d.x.count(2), 8);
        s.due("a BIT of WRITER 7", d.bit(7, NONE, 0, 0, 1), 0);
        s.due("a BIT of WRITER 8", d.bit(8, NONE, 0, 0, 1), NONE);
        d.empty();
        s.due("a WAY of WRITER 7", d.way(7, "n1(0=0)"), 1);
        s.due("a WAY of WRITER 8", d.way(8, "n1(0=0)"), NONE);
        s.due("its CLAUSES", d.x.count(17), 1);
    }

    private static int[] wordsAndBooks(int number, int book) {
        int[] bytes = new int[2 * number];
        for (int p = 0; p < number; p++) {
            bytes[2 * p] = p % 64;
            bytes[2 * p + 1] = book;
        }
        return bytes;
    }

    private static void leftByHowMany() {
        s.says("WORK k is LEFT: by the first 2 n bytes of the tape (n 1 to 40: a WORD and its BOOK each; empty then): true");
        Desk d = Desk.with(3, 1);
        d.bytes(wordsAndBooks(41, 1));
        for (int n : new int[] {0, -1, 41, MIN, MAX}) {
            s.due("n " + n, d.x.left(0, n), false);
            s.due("the tape stays", d.x.count(5), 100);
        }
        s.due("n 40", d.x.left(0, 40), true);
        s.due("empty then", d.x.count(5), 0);
        s.due("forty WORDS", d.x.count(20), 40);
        d.x.quote(0, 0, 39, 39, 0);
        s.due("the last WORD", d.x.bitIs(0, 10), 39);
        s.due("n 1", d.bytes(5, 1, 64, 0).x.left(1, 1), true);
        s.due("empty then", d.x.count(5), 0);
        s.due("one WORD", d.x.count(21), 1);
        for (int k : new int[] {3, 8, -1, MIN, MAX}) s.due("WORK " + k, d.bytes(5, 1).x.left(k, 1), false);
        s.due("no such WORK: the tape stays", d.x.count(5), 100);
    }

    private static void leftByBooks() {
        s.says("up to 40 with a BOOK each (1 to its BOOKS");
        Desk d = Desk.with(2, 1);
        s.due("BOOK 0", d.bytes(5, 0).x.left(0, 1), false);
        s.due("BOOK 10 of nine", d.bytes(5, 10).x.left(0, 1), false);
        s.due("BOOK 255", d.bytes(5, 255).x.left(0, 1), false);
        s.due("the second's BOOK 10", d.bytes(5, 1, 5, 10).x.left(0, 2), false);
        s.due("they are not so: the tape is empty", d.x.count(5), 0);
        s.due("lost", d.x.count(20), 0);
        s.due("BOOK 9 of nine", d.bytes(5, 9).x.left(0, 1), true);
        s.due("BOOK 1", d.bytes(5, 1).x.left(1, 1), true);
    }

    private static void leftByBooksBefore() {
        s.says("never less than that of the WORD before");
        Desk d = Desk.with(2, 1);
        s.due("one less", d.bytes(5, 3, 5, 2).x.left(0, 2), false);
        s.due("one less at the last of many", d.bytes(5, 1, 5, 2, 5, 3, 5, 3, 5, 2).x.left(0, 5), false);
        s.due("as the one before that", d.bytes(5, 2, 5, 3, 5, 2).x.left(0, 3), false);
        s.due("the same, one more, many more", d.bytes(5, 2, 6, 2, 7, 3, 8, 9).x.left(0, 4), true);
        int[] books = {2, 2, 3, 9};
        for (int p = 0; p < 4; p++) {
            d.x.quote(0, 0, p, p, 0);
            s.due("BOOK at place " + p, d.x.bitIs(p, 2), books[p]);
        }
    }

    private static void elseLost() {
        s.says("else lost");
        Desk d = Desk.with(2, 1);
        s.due("WORDS of a lost one", d.x.count(20), 0);
        s.due("quoted", d.x.quote(0, 0, 0, 0, 0), NONE);
        s.due("near", d.bit(0, 0, 0, 0, 1), 0);
        s.due("near", d.x.near(0, 0, 0), NONE);
        s.due("of a WRITER's NEARNESS", d.x.nearness(0, 3), 0);
        s.due("there", d.x.there(0), NONE);
        d.left(0, 1);
        s.due("LEFT by now", d.x.near(0, 0, 0), 0);
        s.due("of a WRITER's NEARNESS by now", d.x.nearness(0, 3), 1);
        s.due("there by now", d.x.there(0), 100);
        s.due("the other", d.x.count(21), 0);
    }

    private static void leftOnce() {
        s.says("false: no such ones, it is LEFT, it has not so many (the tape stays), they are not so.");
        Desk d = Desk.with(2, 1);
        d.left(0, 1, 2, 3);
        d.bytes(7, 1, 8, 1);
        s.due("it is LEFT", d.x.left(0, 2), false);
        s.due("the tape stays", d.x.count(5), 20);
        s.due("its WORDS", d.x.count(20), 3);
        d.x.quote(0, 0, 0, 0, 0);
        s.due("its first WORD", d.x.bitIs(0, 10), 1);
        s.due("it has not so many: eleven", d.x.left(1, 11), false);
        s.due("the tape stays", d.x.count(5), 20);
        s.due("they are not so: ten of which eight have BOOK 0", d.x.left(1, 10), false);
        s.due("the tape is empty", d.x.count(5), 0);
        s.due("it has not so many: one of none", d.x.left(1, 1), false);
        s.due("as many as there are", d.bytes(wordsAndBooks(10, 1)).x.left(1, 10), true);
    }

    private static void bits() {
        s.says("A BIT by the first n bytes of the tape (1 to 8 WORDS; empty then), WORK NONE: none told: its number");
        Desk d = Desk.with(1, 1);
        d.bytes(1, 2, 3, 4, 5, 6, 7, 8, 9);
        for (int n : new int[] {0, -1, 9, MIN, MAX}) {
            s.due("n " + n, d.x.bit(0, 0, 0, 0, n), NONE);
            s.due("the tape stays", d.x.count(5), 20);
        }
        s.due("n 8", d.x.bit(0, 0, 0, 0, 8), 0);
        s.due("empty then", d.x.count(5), 0);
        s.due("WORK NONE", d.bytes(5).x.bit(0, NONE, 0, 0, 1), 1);
        s.due("none told", d.x.bitIs(1, 1), NONE);
    }

    private static void bitWritersAndWorks() {
        s.says("BITS 0 to 39: of a WRITER, of a WORK (or none told)");
        Desk d = Desk.with(2, 2);
        d.bytes(1);
        for (int m : new int[] {-1, 2, MIN, MAX}) s.due("WRITER " + m, d.x.bit(m, 0, 0, 0, 1), NONE);
        for (int k : new int[] {-2, 2, MIN, MAX}) s.due("WORK " + k, d.x.bit(0, k, 0, 0, 1), NONE);
        s.due("the tape stays", d.x.count(5), 20);
        s.due("the last ones", d.x.bit(1, 1, 0, 0, 1), 0);
        s.due("the first ones", d.bit(0, 0, 0, 0, 1), 1);
        s.due("WRITER", d.x.bitIs(0, 0), 1);
        s.due("WORK", d.x.bitIs(0, 1), 1);
        s.due("WRITER", d.x.bitIs(1, 0), 0);
        s.due("WORK", d.x.bitIs(1, 1), 0);
    }

    private static void bitBooks() {
        s.says("a BOOK told (0: none; to 40)");
        Desk d = Desk.with(1, 1);
        d.bytes(1);
        for (int book : new int[] {-1, 41, MIN, MAX}) s.due("BOOK " + book, d.x.bit(0, 0, book, 0, 1), NONE);
        s.due("the tape stays", d.x.count(5), 20);
        s.due("BOOK 0", d.x.bit(0, 0, 0, 0, 1), 0);
        s.due("BOOK 40", d.bit(0, 0, 40, 0, 1), 1);
        s.due("BOOK 1", d.bit(0, 0, 1, 0, 1), 2);
        s.due("none", d.x.truth(1, 5, 0), -1);
        s.due("BOOK 0 as told", d.x.bitIs(0, 2), 0);
        s.due("BOOK 40 as told", d.x.bitIs(1, 2), 40);
        s.due("1 and 40", d.x.nobody(0, 40), (1L << 39) - 2);
    }

    private static void bookNotOfItsWork() {
        s.says("(A BIT's BOOK need not be one that its WORK has.)");
        Desk d = new Desk();
        d.x.author(0, 1);
        d.x.work(0, 1);
        d.x.writer(1);
        s.due("BOOK 2 of one", d.bit(0, 0, 2, 0, 1), 0);
        s.due("BOOK 40 of one", d.bit(0, 0, 40, 0, 1), 1);
    }

    private static void bitSubjects() {
        s.says("a SUBJECT (0 to 9)");
        Desk d = Desk.with(1, 1);
        d.bytes(1);
        for (int subject : new int[] {-1, 10, MIN, MAX}) s.due("SUBJECT " + subject, d.x.bit(0, 0, 0, subject, 1), NONE);
        s.due("the tape stays", d.x.count(5), 20);
        s.due("SUBJECT 0", d.x.bit(0, 0, 0, 0, 1), 0);
        s.due("SUBJECT 9", d.bit(0, 0, 0, 9, 1), 1);
        s.due("SUBJECT 0 as told", d.x.bitIs(0, 3), 0);
        s.due("SUBJECT 9 as told", d.x.bitIs(1, 3), 9);
    }

    private static void bitSizes() {
        s.says("one to eight WORDS");
        Desk d = Desk.with(0, 1);
        s.due("one", d.bit(0, NONE, 0, 0, 11), 0);
        s.due("eight", d.bit(0, NONE, 0, 0, 11, 12, 13, 14, 15, 16, 17, 18), 1);
        s.due("nine", d.bit(0, NONE, 0, 0, 11, 12, 13, 14, 15, 16, 17, 18, 19), NONE);
        s.due("none", d.x.bit(0, NONE, 0, 0, 0), NONE);
        s.due("one", d.x.bitIs(0, 4), 1);
        s.due("no second of one", d.x.bitIs(0, 11), NONE);
        s.due("eight", d.x.bitIs(1, 4), 8);
        s.due("the eighth", d.x.bitIs(1, 17), 18);
        s.due("no ninth", d.x.bitIs(1, 18), NONE);
    }

    private static void fortyBits() {
        s.says("-2: no such WORDS; NONE: no such ones, 40 are there, it has not so many (the tape stays).");
        Desk d = Desk.with(1, 1);
        d.left(0, 1);
        for (int i = 0; i < 39; i++) s.due("bit " + i, d.bit(0, 0, 0, 0, i), i);
        s.due("no such WORDS", d.bit(0, 0, 0, 0, 64), -2);
        s.due("the fortieth", d.bit(0, 0, 0, 0, 39), 39);
        s.due("40 are there", d.bit(0, 0, 0, 0, 1), NONE);
        s.due("the tape stays", d.x.count(5), 20);
        s.due("40 are there", d.x.quote(0, 0, 0, 0, 0), NONE);
        s.due("BITS", d.x.count(3), 40);
        s.due("BIT 39", d.x.bitIs(39, 10), 39);
        s.due("BIT 40", d.x.bitIs(40, 10), NONE);
    }

    private static void seed() {
        s.says("THE SEED (0 to 65535): X, too: true; false: no such number.");
        QuotedBooks x = new QuotedBooks();
        for (int n : new int[] {-1, 65536, MIN, MAX}) {
            s.due("seed " + n, x.seed(n), false);
            s.due("X", x.count(4), 1);
        }
        s.due("seed 65535", x.seed(65535), true);
        s.due("X", x.count(4), 65535);
        s.due("seed 65536", x.seed(65536), false);
        s.due("X", x.count(4), 65535);
        s.due("seed 0", x.seed(0), true);
        s.due("X", x.count(4), 0);
        s.due("seed -1", x.seed(-1), false);
        s.due("X", x.count(4), 0);
    }

    private static void feed() {
        s.says("how many it has; NONE if that would be more than 200.");
        QuotedBooks x = new QuotedBooks();
        for (int n = 1; n <= 10; n++) s.due("feed " + n, x.feed(n, n, n, n, n), 20 * n);
        s.due("that would be 220", x.feed(1, 1, 1, 1, 1), NONE);
        s.due("bytes", x.count(5), 200);
        s.due("a FAULT empties it", x.plan(160), -1000);
        s.due("then twenty again", x.feed(1, 1, 1, 1, 1), 20);
    }

    private static void feedHighestFirst() {
        s.says("Twenty bytes come behind the tape, the highest of each int first");
        Desk d = Desk.with(0, 1);
        d.bit(0, NONE, 0, 0, 1, 2, 3, 4, 5, 6, 7, 8);
        d.x.feed(1, 2, 3, 4, 5);
        d.x.feed(6, 7, 8, 0, 0);
        s.due("eight numbers over two feeds", d.x.check(0, 8), NONE);
        d.x.feed(0x01020304, 0x05060708, 0, 0, 0);
        s.due("eight bytes", d.x.bit(0, NONE, 0, 0, 8), 1);
        s.due("as the ones told singly", d.x.apart(0, 1), 0);
        d.x.feed(MIN, 0, 0, 0, 0);
        s.due("the highest bit is the first byte's", d.x.bit(0, NONE, 0, 0, 1), -2);
        d.x.feed(0x3FFFFFFF, 0, 0, 0, 0);
        s.due("63 ahead of 255", d.x.bit(0, NONE, 0, 0, 1), 2);
    }

    private static void tapeOf200() {
        s.says("it has not so many (the tape stays).");
        Desk d = Desk.with(1, 1);
        d.bit(0, NONE, 0, 0, 1, 1, 1, 1, 1, 1, 1, 1);
        for (int f = 0; f < 10; f++) d.x.feed(1, 1, 1, 1, 1);
        s.due("51 numbers", d.x.check(0, 51), -2);
        s.due("n MAX", d.x.check(0, MAX), -2);
        s.due("n of which four times is 0", d.x.check(0, 1 << 30), -2);
        s.due("the tape stays", d.x.count(5), 200);
        s.due("50 numbers", d.x.check(0, 50), 8);
        s.due("the tape is empty", d.x.count(5), 0);
    }

    private static void notSoManyBytes() {
        s.says("NONE: no such ones, it has not so many (the tape stays).");
        Desk d = Desk.with(1, 1);
        s.due("one byte of none", d.x.bit(0, 0, 0, 0, 1), NONE);
        s.due("one byte of none", d.x.plan(1), NONE);
        d.bytes(new int[20]);
        s.due("21 of 20", d.x.habit(21), NONE);
        s.due("21 of 20", d.x.way(0, 21), NONE);
        s.due("the tape stays", d.x.count(5), 20);
        s.due("20 of 20: a FAULT", d.x.habit(20), -1000);
        s.due("the tape is empty", d.x.count(5), 0);
    }

    private static void firstBytesAlone() {
        s.says("A BIT by the first n bytes of the tape");
        Desk d = Desk.with(1, 1);
        d.bytes(1, 2, 3, 255, 255);
        s.due("three of twenty", d.x.bit(0, 0, 0, 0, 3), 0);
        s.due("the rest is gone", d.x.count(5), 0);
        d.bytes(9, 1, 64, 0);
        s.due("what comes behind doesn't matter", d.x.left(0, 1), true);
        d.bytes('p', '1', '(', '0', '=', '0', ')', '!');
        s.due("nor behind a TEXT", d.x.plan(7), 1);
        d.numbers(1, 2, 3, 4);
        s.due("nor behind numbers", d.x.check(0, 3), NONE);
    }

    private static void sixtyPairs() {
        s.says("(pairs of BITS, 60 at most)");
        Desk d = Desk.with(1, 1);
        for (int i = 0; i < 12; i++) d.bit(0, 0, 0, 0, 1);
        int pairs = 0;
        for (int a = 0; a < 12; a++) {
            for (int b = a + 1; b < 12 && pairs < 60; b++) s.due("pair " + ++pairs, d.x.ahead(a, b), true);
        }
        s.due("a 61st", d.x.ahead(11, 0), false);
        s.due("pairs", d.x.count(9), 60);
    }

    private static void pairsOnce() {
        s.says("BIT x is told to come AHEAD of y: true; false: no such ones, one twice, it is told, 60 are");
        Desk d = Desk.with(1, 1);
        s.due("no BITS", d.x.ahead(0, 1), false);
        d.bit(0, 0, 0, 0, 1);
        d.bit(0, 0, 0, 0, 1);
        for (int i : new int[] {-1, 2, MIN, MAX}) {
            s.due("BIT " + i + " first", d.x.ahead(i, 0), false);
            s.due("BIT " + i + " second", d.x.ahead(0, i), false);
        }
        s.due("one twice", d.x.ahead(0, 0), false);
        s.due("one twice", d.x.ahead(1, 1), false);
        s.due("pairs", d.x.count(9), 0);
        s.due("told", d.x.ahead(0, 1), true);
        s.due("it is told", d.x.ahead(0, 1), false);
        s.due("pairs", d.x.count(9), 1);
        s.due("the other way is another pair", d.x.ahead(1, 0), true);
        s.due("it is told", d.x.ahead(1, 0), false);
        s.due("pairs", d.x.count(9), 2);
    }

    private static void pairsOfOneWork() {
        s.says("the WORK they have is none or not one.");
        Desk d = Desk.with(8, 1);
        d.bit(0, NONE, 0, 0, 1);
        d.bit(0, NONE, 0, 0, 1);
        d.bit(0, 0, 0, 0, 1);
        d.bit(0, 7, 0, 0, 1);
        d.bit(0, 7, 0, 0, 1);
        s.due("none", d.x.ahead(0, 1), false);
        s.due("none and one", d.x.ahead(0, 2), false);
        s.due("one and none", d.x.ahead(2, 0), false);
        s.due("not one", d.x.ahead(2, 3), false);
        s.due("pairs", d.x.count(9), 0);
        s.due("one", d.x.ahead(4, 3), true);
        d.x.gives(2, 7, 0);
        s.due("what EDITORS give is not what it has", d.x.ahead(2, 3), false);
    }

    private static void editorYears() {
        s.says("EDITORS give BIT i to a WORK (NONE: none) in a YEAR (0 to 2000): true; false: no such ones");
        Desk d = Desk.with(2, 1);
        s.due("no BIT", d.x.gives(0, 0, 0), false);
        d.bit(0, 0, 0, 0, 1);
        for (int i : new int[] {-1, 1, MIN, MAX}) s.due("BIT " + i, d.x.gives(i, 0, 0), false);
        for (int k : new int[] {-2, 2, MIN, MAX}) s.due("WORK " + k, d.x.gives(0, k, 0), false);
        for (int year : new int[] {-1, 2001, MIN, MAX}) s.due("YEAR " + year, d.x.gives(0, 0, year), false);
        s.due("YEAR 0", d.x.gives(0, 1, 0), true);
        s.due("given in 0", d.x.given(0, 0), 1);
        s.due("YEAR 2000", d.x.gives(0, NONE, 2000), true);
        s.due("given in 1999", d.x.given(0, 1999), 1);
        s.due("given in 2000", d.x.given(0, 2000), NONE);
    }

    private static void editorYearsRise() {
        s.says("in a YEAR (never less than the one before; 60 times at most)");
        Desk d = Desk.with(2, 1);
        d.bit(0, 0, 0, 0, 1);
        d.bit(0, 0, 0, 0, 1);
        s.due("refused: no such WORK", d.x.gives(0, 5, 2000), false);
        s.due("500, as a refused YEAR is none before", d.x.gives(0, 1, 500), true);
        s.due("499", d.x.gives(1, 1, 499), false);
        s.due("0", d.x.gives(1, 1, 0), false);
        s.due("nothing was given", d.x.given(1, 2000), 0);
        s.due("500 again", d.x.gives(1, 1, 500), true);
        s.due("501", d.x.gives(1, 0, 501), true);
        s.due("500 by now", d.x.gives(0, 0, 500), false);
        s.due("BIT 0", d.x.given(0, 2000), 1);
    }

    private static void sixtyTimes() {
        s.says("a YEAR before the one told last, 60 times.");
        Desk d = Desk.with(2, 1);
        d.bit(0, 0, 0, 0, 1);
        for (int g = 0; g < 59; g++) s.due("gift " + g, d.x.gives(0, 0, g), true);
        s.due("a refused one doesn't count", d.x.gives(0, 0, 57), false);
        s.due("the sixtieth", d.x.gives(0, 1, 59), true);
        s.due("a 61st", d.x.gives(0, 0, 60), false);
        s.due("by the fifty-ninth", d.x.given(0, 58), 0);
        s.due("by the sixtieth", d.x.given(0, 2000), 1);
    }

    private static void ownMemory() {
        s.says("All memory is the reader's own.");
        Desk d = Desk.with(1, 1);
        Desk e = Desk.with(1, 1);
        d.x.seed(9);
        d.left(0, 1, 2);
        d.bit(0, 0, 0, 0, 5);
        d.plan("p1(0=0)");
        d.bytes(1);
        s.due("X of the other", e.x.count(4), 1);
        s.due("WORDS of the other", e.x.count(20), 0);
        s.due("BITS of the other", e.x.count(3), 0);
        s.due("THE PLAN of the other", e.x.count(6), 0);
        s.due("the other's tape", e.x.count(5), 0);
        e.bit(0, 0, 0, 0, 6);
        s.due("the one's BIT", d.x.bitIs(0, 10), 5);
        s.due("the other's BIT", e.x.bitIs(0, 10), 6);
    }
}
