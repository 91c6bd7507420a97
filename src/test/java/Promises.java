/** For each promise of the document: ordinary calls, the edges that it names, and wrong calls. */
public final class Promises {
    private static final int NONE = QuotedBooks.NONE;
    private static final int NOT_TOLD = -1000000;
    private static int wrong;
    private static int promise;

    private static void due(String what, long got, long want) {
        if (got == want) return;
        wrong++;
        System.out.println("promise " + promise + ": " + what + " answered " + got + ", due is " + want);
    }

    private static void due(String what, boolean got, boolean want) {
        due(what, got ? 1 : 0, want ? 1 : 0);
    }

    public static void main(String[] args) {
        newObject();
        author();
        work();
        writer();
        seed();
        feed();
        left();
        bit();
        way();
        faults();
        plan();
        habit();
        table();
        reckoning();
        quote();
        bitIs();
        apart();
        near();
        nearness();
        same();
        stood();
        slips();
        slip();
        shared();
        groups();
        from();
        there();
        ahead();
        order();
        orders();
        sure();
        truth();
        length();
        span();
        nobody();
        whose();
        men();
        gives();
        given();
        wrongs();
        moves();
        check();
        count();
        System.out.println(wrong == 0 ? "all promises hold" : wrong + " answers are not as due");
        System.exit(wrong == 0 ? 0 : 1);
    }

    private static void newObject() {
        promise = 1;
        QuotedBooks x = new QuotedBooks();
        due("NONE", NONE, -1);
        for (int what = 0; what < 10; what++) due("count(" + what + ")", x.count(what), what == 4 ? 1 : 0);
        due("count of a WAY", x.count(10), NONE);
        due("count of a WORK", x.count(20), NONE);
        due("wrong", x.wrong(0), 0);
        QuotedBooks y = new QuotedBooks();
        x.author(1, 1);
        due("another object's AUTHORS", y.count(0), 0);
    }

    private static void author() {
        promise = 2;
        QuotedBooks x = new QuotedBooks();
        due("YEAR -1", x.author(-1, 1), NONE);
        due("YEAR 1000", x.author(1000, 1), NONE);
        due("PRIOR 0", x.author(0, 0), NONE);
        due("PRIOR 101", x.author(0, 101), NONE);
        due("all least", x.author(0, 1), 0);
        due("all most", x.author(999, 100), 1);
        for (int a = 2; a < 8; a++) due("author " + a, x.author(5, 5), a);
        due("a ninth", x.author(5, 5), NONE);
        due("AUTHORS", x.count(0), 8);
    }

    private static void work() {
        promise = 3;
        QuotedBooks x = new QuotedBooks();
        due("no AUTHOR", x.work(0, 1), NONE);
        x.author(0, 1);
        due("AUTHOR -1", x.work(-1, 1), NONE);
        due("AUTHOR 1", x.work(1, 1), NONE);
        due("no BOOKS", x.work(0, 0), NONE);
        due("41 BOOKS", x.work(0, 41), NONE);
        due("one BOOK", x.work(0, 1), 0);
        due("40 BOOKS", x.work(0, 40), 1);
        for (int k = 2; k < 8; k++) due("work " + k, x.work(0, 3), k);
        due("a ninth", x.work(0, 3), NONE);
        due("WORKS", x.count(1), 8);
    }

    private static void writer() {
        promise = 4;
        QuotedBooks x = new QuotedBooks();
        due("YEAR -1", x.writer(-1), NONE);
        due("YEAR 1000", x.writer(1000), NONE);
        due("YEAR 0", x.writer(0), 0);
        due("YEAR 999", x.writer(999), 1);
        for (int m = 2; m < 8; m++) due("writer " + m, x.writer(3), m);
        due("a ninth", x.writer(3), NONE);
        due("WRITERS", x.count(2), 8);
    }

    private static void seed() {
        promise = 5;
        QuotedBooks x = new QuotedBooks();
        due("-1", x.seed(-1), false);
        due("65536", x.seed(65536), false);
        due("X", x.count(4), 1);
        due("65535", x.seed(65535), true);
        due("X", x.count(4), 65535);
        due("0", x.seed(0), true);
        due("X", x.count(4), 0);
    }

    private static void feed() {
        promise = 6;
        Desk d = Desk.with(0, 1);
        due("first", d.x.feed(0x01020304, 0x3F000000, 0, 0, 0), 20);
        due("bit of it", d.x.bit(0, -1, 0, 0, 6), 0);
        int[] words = {1, 2, 3, 4, 63, 0};
        for (int p = 0; p < 6; p++) due("byte " + p, d.x.bitIs(0, 10 + p), words[p]);
        for (int n = 1; n <= 10; n++) due("feed " + n, d.x.feed(-1, n, n, n, n), 20 * n);
        due("an eleventh", d.x.feed(1, 1, 1, 1, 1), NONE);
        due("bytes", d.x.count(5), 200);
        due("behind: the first is 255", d.x.bit(0, -1, 0, 0, 1), -2);
        d.x.feed(0, 0, 0, 0, 0x05000000);
        d.x.feed(0x06070000, 0, 0, 0, 0);
        due("numbers over two feeds", d.x.check(0, 6), 0);
    }

    private static void left() {
        promise = 7;
        Desk d = Desk.with(0, 0);
        d.x.author(1, 1);
        d.x.work(0, 3);
        d.x.work(0, 2);
        d.bytes(5, 1, 6, 3);
        due("it has not so many", d.x.left(0, 11), false);
        due("not so many of an int that wraps", d.x.left(0, 1 << 30), false);
        due("n below 0", d.x.left(0, -1), false);
        due("the tape stays", d.x.count(5), 20);
        due("BOOK 3 of three", d.x.left(0, 2), true);
        due("the tape is empty", d.x.count(5), 0);
        due("WORDS", d.x.count(20), 2);
        due("it is LEFT", d.bytes(5, 1).x.left(0, 1), false);
        due("WORDS still", d.x.count(20), 2);
        due("it is LEFT: the tape stays", d.x.count(5), 20);
        due("it is LEFT, and they are not so", d.x.left(0, 2), false);
        due("the tape stays", d.x.count(5), 20);
        d.empty();
        due("BOOK 3 of two", d.bytes(5, 1, 6, 3).x.left(1, 2), false);
        due("the tape is empty, as they are not so", d.x.count(5), 0);
        due("BOOK 0", d.bytes(5, 0).x.left(1, 1), false);
        due("a lesser BOOK", d.bytes(5, 2, 6, 1).x.left(1, 2), false);
        due("WORD 64", d.bytes(64, 1).x.left(1, 1), false);
        due("a byte above 127", d.bytes(200, 1).x.left(1, 1), false);
        due("still lost", d.x.count(21), 0);
        due("the tape is empty", d.x.count(5), 0);
        due("no such WORK", d.bytes(5, 1).x.left(2, 1), false);
        due("WORK -1", d.x.left(-1, 1), false);
        due("no such WORK, and they are not so", d.x.left(2, 2), false);
        due("n 0", d.x.left(1, 0), false);
        due("the tape stays", d.x.count(5), 20);
        d.empty();
        int[] long41 = new int[82];
        for (int p = 0; p < 82; p++) long41[p] = 1;
        due("n 41", d.bytes(long41).x.left(1, 41), false);
        due("the tape stays", d.x.count(5), 100);
        due("n 40", d.x.left(1, 40), true);
        due("the tape is empty", d.x.count(5), 0);
        due("forty WORDS", d.x.count(21), 40);
        Desk e = Desk.with(1, 1);
        e.bytes(9, 1, 63, 2, 0, 9).x.left(0, 3);
        e.x.quote(0, 0, 1, 2, 0);
        due("the second WORD", e.x.bitIs(0, 10), 63);
        due("the third WORD", e.x.bitIs(0, 11), 0);
        due("its BOOK", e.x.bitIs(0, 2), 2);
    }

    private static void bit() {
        promise = 8;
        Desk d = Desk.with(1, 1);
        due("WORD 63", d.bit(0, 0, 40, 9, 63, 0), 0);
        due("no WORK told", d.bit(0, -1, 0, 0, 1), 1);
        due("eight WORDS", d.bit(0, 0, 0, 0, 1, 2, 3, 4, 5, 6, 7, 8), 2);
        due("the tape is empty", d.x.count(5), 0);
        due("it has not so many", d.x.bit(0, 0, 0, 0, 1), NONE);
        d.bytes(1);
        due("it has not so many", d.x.bit(0, 0, 0, 0, 21), NONE);
        due("n below 0", d.x.bit(0, 0, 0, 0, -1), NONE);
        due("the tape stays", d.x.count(5), 20);
        due("what stayed comes first", d.bit(0, 0, 0, 0, 1, 64), 3);
        d = Desk.with(1, 1);
        due("WORD 64", d.bit(0, 0, 0, 0, 1, 64), -2);
        due("the tape is empty", d.x.count(5), 0);
        due("WORD 255", d.bit(0, 0, 0, 0, 255), -2);
        due("the tape is empty", d.x.count(5), 0);
        d.bytes(1, 2, 3, 4, 5, 6, 7, 8, 9);
        due("WRITER 1", d.x.bit(1, 0, 0, 0, 1), NONE);
        due("WRITER -1", d.x.bit(-1, 0, 0, 0, 1), NONE);
        due("WORK 1", d.x.bit(0, 1, 0, 0, 1), NONE);
        due("WORK -2", d.x.bit(0, -2, 0, 0, 1), NONE);
        due("BOOK -1", d.x.bit(0, 0, -1, 0, 1), NONE);
        due("BOOK 41", d.x.bit(0, 0, 41, 0, 1), NONE);
        due("SUBJECT -1", d.x.bit(0, 0, 0, -1, 1), NONE);
        due("SUBJECT 10", d.x.bit(0, 0, 0, 10, 1), NONE);
        due("n 0", d.x.bit(0, 0, 0, 0, 0), NONE);
        due("n 9", d.x.bit(0, 0, 0, 0, 9), NONE);
        due("the tape stays", d.x.count(5), 20);
        due("no such WRITER and no such WORD", d.empty().bit(1, 0, 0, 0, 64), NONE);
        due("the tape stays", d.x.count(5), 20);
        due("BITS", d.x.count(3), 0);
        d.empty();
        for (int i = 0; i < 40; i++) due("bit " + i, d.bit(0, 0, 0, 0, i), i);
        due("40 are there", d.bit(0, 0, 0, 0, 1), NONE);
        due("the tape stays", d.x.count(5), 20);
        due("40 are there, no such WORD", d.empty().bit(0, 0, 0, 0, 64), NONE);
        due("the tape stays", d.x.count(5), 20);
        due("BITS", d.x.count(3), 40);
    }

    private static void way() {
        promise = 9;
        Desk d = Desk.with(1, 2);
        due("no such WRITER", d.way(2, "d1(0=0)"), NONE);
        due("WRITER -1", d.x.way(-1, 7), NONE);
        due("no such WRITER, and a FAULT", d.x.way(2, 6), NONE);
        due("the tape stays", d.x.count(5), 20);
        due("for one who is there", d.x.way(1, 7), 1);
        d = Desk.with(1, 2);
        due("three heads", d.way(0, "d1(0=0);c2(0=0);n3(0=0)"), 3);
        due("CLAUSES", d.x.count(10), 3);
        due("CLAUSES of the other", d.x.count(11), 0);
        due("p is none of its letters", d.way(0, "p1(0=0)"), -1000);
        due("g is none", d.way(0, "d1(0=0);g1(0=0)"), -1008);
        due("the TEXT before stays", d.x.count(10), 3);
        due("in place of the one before", d.way(0, "n1(0=0)"), 1);
        due("CLAUSES", d.x.count(10), 1);
        d.bytes('n', '1', '(', '0', '=', '0', ')');
        due("it has not so many", d.x.way(0, 21), NONE);
        due("n below 0", d.x.way(0, -5), NONE);
        due("the tape stays", d.x.count(5), 20);
        due("the first seven", d.x.way(1, 7), 1);
        due("the tape is empty", d.x.count(5), 0);
        d.bytes('x');
        due("a FAULT", d.x.way(0, 1), -1000);
        due("the tape is empty after a FAULT", d.x.count(5), 0);
        due("n 0", d.bytes('n').x.way(0, 0), NONE);
        due("the tape stays", d.x.count(5), 20);
        String long160 = "n" + "1+".repeat(76) + "11(0=0)";
        due("160 bytes", d.empty().way(0, long160), 1);
        due("161 bytes", d.way(0, "n1" + long160.substring(1)), NONE);
        due("the tape stays", d.x.count(5), 180);
    }

    private static void faults() {
        promise = 10;
        String[] texts = {
            "", "p", "p1", "p1(", "p1(1", "p1(1=", "p1(1=1", "p1(1=1)", "p1(1=1);", "p1(1=1)p", "p1(1=1) ", " p1(1=1)",
            "p (1=1)", "p(1=1)", "p+1(1=1)", "p-1(1=1)", "p1+(1=1)", "p1*(1=1)", "p1**1(1=1)", "p12345(1=1)",
            "p123456(1=1)", "p00000(1=1)", "p000000(1=1)", "p1234567(1=1)", "p1(1=123456)", "pa(1=1)", "pb(1=1)",
            "pd(1=1)", "pg(1=1)", "ph(1=1)", "pA(1=1)", "p1(!1=1)", "p1(!!1=1)", "p1(!(1=1))", "p1((1=1)=1)", "p1([1]=1)",
            "p1([1=1])", "p1((1)=1)", "p1(1==1)", "p1(1=1=1)", "p1(1<=1)", "p1(1=1&1=1)", "p1(1=1|1=1)", "p1(1=1&&1=1)",
            "p1(1=1&|1=1)", "p1(&1=1)", "p1(1=1&)", "p1(1=1|)", "p1()", "p()", "p[1](1=1)", "p[1(1=1)", "p1](1=1)",
            "p(1)(1=1)", "p1((1=1)", "p1(1=1))", "p1(1!1)", "p1(1!=1)", "pbb(1=1)", "p1b(1=1)", "pb1(1=1)", "p[][1](1=1)",
            "p1(1=1);;p1(1=1)", "q1(1=1)", "p1(1=1);q1(1=1)", "p1:(1=1)",
        };
        int[] answers = {
            NONE, -1001, -1002, -1003, -1004, -1005, -1006, 1, -1008, -1007, -1007, -1000,
            -1001, -1001, -1001, -1001, -1003, -1003, -1003, 1,
            -2006, 1, -2006, -2006, -2010, -1001, 1,
            -1001, -1001, -1001, -1001, 1, 1, 1, -1008, 1,
            -1005, -1005, -1005, -1006, -1005, 1, 1, -1007,
            -1007, -1003, -1007, -1007, -1003, -1001, 1, -1003, -1002,
            -1001, -1008, -1007, -1004, -1004, -1002, -1002, -1002, -1002,
            -1008, -1000, -1008, -1002,
        };
        Desk d = new Desk();
        for (int t = 0; t < texts.length; t++) due("plan \"" + texts[t] + "\"", d.plan(texts[t]), answers[t]);
        for (char letter = 'a'; letter <= 'z'; letter++) {
            boolean may = "wilbxykmcstznp".indexOf(letter) >= 0;
            due("letter " + letter, d.plan("p" + letter + "(" + letter + "=0)"), may ? 1 : -1001);
        }
        due("six [", d.plan("p[[[[[[1]]]]]](1=1)"), 1);
        due("seven [", d.plan("p[[[[[[[1]]]]]]](1=1)"), -5007);
        due("the ( of the CLAUSE counts", d.plan("p1((((((1=1))))))"), 1);
        due("a seventh (", d.plan("p1(((((((1=1)))))))"), -5008);
        due("six of all kinds", d.plan("p1(!(!([1]=1)))"), 1);
        due("a seventh of all kinds", d.plan("p1(!(!([[1]]=1)))"), -5008);
        due("a ! is open till its PIECE ends", d.plan("p1(!!!!!1=1&!!!!!1=1)"), 1);
        due("and through its E's", d.plan("p1(!!!!!1=[1])"), -5010);
        due("a seventh that can't stand there", d.plan("p[[[[[[("), -1007);
        due("( [ that are shut again", d.plan("p1((1=1)&(1=1)&(1=1)&(1=1)&(1=1)&(1=1)&(1=1)&(1=1))"), 1);
        String twelve = "p1(1=1)" + ";p1(1=1)".repeat(11);
        due("twelve CLAUSES", d.plan(twelve), 12);
        due("a 13th", d.plan(twelve + ";p1(1=1)"), -4096);
        due("a 13th by its letter alone", d.plan(twelve + ";p"), -4096);
        due("a 13th whose letter can't stand there", d.plan(twelve + ";q1(1=1)"), -1096);
        due("the end in place of a 13th", d.plan(twelve + ";"), -1096);
        due("the first FAULT from the left", d.plan("p1234567(1=1);q"), -2006);
        d.bytes('p', 200, '(', '1', '=', '1', ')');
        due("a byte above 127", d.x.plan(7), -1001);
    }

    private static void plan() {
        promise = 10;
        Desk d = new Desk();
        due("a TEXT", d.plan("p1(0=0);p2(0=0)"), 2);
        due("CLAUSES of THE PLAN", d.x.count(6), 2);
        due("a FAULT", d.plan("h1(0=0)"), -1000);
        due("the TEXT before stays", d.x.count(6), 2);
        d.bytes('p');
        due("it has not so many", d.x.plan(21), NONE);
        due("n below 0", d.x.plan(-1), NONE);
        due("n 0", d.x.plan(0), NONE);
        due("the tape stays", d.x.count(5), 20);
        due("HABIT and TABLE", d.x.count(7) + d.x.count(8), 0);
        String long160 = "p" + "1+".repeat(76) + "11(0=0)";
        due("160 bytes", d.empty().plan(long160), 1);
        due("161 bytes", d.plan("p1" + long160.substring(1)), NONE);
        due("the tape stays", d.x.count(5), 180);
        due("a FAULT", d.x.plan(160), -1160);
        due("the tape is empty after a FAULT", d.x.count(5), 0);

        promise = 27;
        Desk e = Desk.with(1, 2);
        e.bit(0, 0, 5, 7, 1, 2, 3);
        e.bit(1, 0, 6, 9, 1);
        due("b, c", pointsOf(e, "p[b*10+c](0=0)"), 65);
        due("s, t", pointsOf(e, "p[s*10+t](0=0)"), 97);
        due("y, z", pointsOf(e, "p[y*2+z](y>z)"), 500);
        due("l, i", pointsOf(e, "p[l*10+i](0=0)"), 31);
        due("letters that are not its own", pointsOf(e, "p1+w+x+k+m+n+p(0=0)"), 1);
        due("most", pointsOf(e, "p1001(0=0)"), 1000);
        due("least", pointsOf(e, "p0-1001(0=0)"), -1000);
    }

    private static int pointsOf(Desk d, String text) {
        due("plan " + text, d.plan(text), 1);
        return d.x.order(0, -1);
    }

    private static void habit() {
        promise = 11;
        Desk d = new Desk();
        due("a TEXT", d.habit("h1(0=0);h2(0=0);h3(0=0)"), 3);
        due("CLAUSES of THE HABIT", d.x.count(7), 3);
        due("a FAULT", d.habit("p1(0=0)"), -1000);
        due("the TEXT before stays", d.x.count(7), 3);
        d.bytes('h');
        due("it has not so many", d.x.habit(21), NONE);
        due("n below 0", d.x.habit(-1), NONE);
        due("n 0", d.x.habit(0), NONE);
        due("the tape stays", d.x.count(5), 20);
        due("PLAN and TABLE", d.x.count(6) + d.x.count(8), 0);
        String long160 = "h" + "1+".repeat(76) + "11(0=0)";
        due("160 bytes", d.empty().habit(long160), 1);
        due("161 bytes", d.habit("h1" + long160.substring(1)), NONE);
        due("the tape stays", d.x.count(5), 180);
        due("a FAULT", d.x.habit(160), -1160);
        due("the tape is empty after a FAULT", d.x.count(5), 0);
    }

    private static void table() {
        promise = 12;
        Desk d = new Desk();
        due("a TEXT", d.table("g1(0=0)"), 1);
        due("CLAUSES of THE TABLE", d.x.count(8), 1);
        due("a FAULT", d.table("g1(0=0);d1(0=0)"), -1008);
        due("the TEXT before stays", d.x.count(8), 1);
        d.bytes('g');
        due("it has not so many", d.x.table(21), NONE);
        due("n below 0", d.x.table(-1), NONE);
        due("n 0", d.x.table(0), NONE);
        due("the tape stays", d.x.count(5), 20);
        due("PLAN and HABIT", d.x.count(6) + d.x.count(7), 0);
        String long160 = "g" + "1+".repeat(76) + "11(0=0)";
        due("160 bytes", d.empty().table(long160), 1);
        due("161 bytes", d.table("g1" + long160.substring(1)), NONE);
        due("the tape stays", d.x.count(5), 180);
        due("a FAULT", d.x.table(160), -1160);
        due("the tape is empty after a FAULT", d.x.count(5), 0);
    }

    /** What a TEXT comes to, by THE PLAN over two BITS with BOOKS 3 and 5. */
    private static void reckoning() {
        promise = 10;
        String[] texts = {
            "p2+3*4(0=0)", "p[2+3]*4(0=0)", "p20-5-3(0=0)", "p100/7/2(0=0)", "p100%7*3(0=0)", "p7-10(0=0)",
            "p[0-7]/2(0=0)", "p[0-7]%3(0=0)", "p99999*99999/10000/100(0=0)", "p1/0(0=0)", "p5+[1/0](0=0)",
            "p0*[1%0](0=0)", "p1(1/0=0)", "p1(!1/0=0)", "p1(1/0=0|1=1)", "p1(1=1|1/0=0)", "p1(1=2&1/0=0)",
            "p1(!(1=2&1/0=0))", "p1(!(1/0=0|1=1))", "p1((1/0=0)|1=1)", "p1(1/0=0);p2(0=0)", "p1/0(0=0);p2(0=0)",
            "p1(1=2);p2(1=1);p3(1=1)", "p1(1=2)", "p1(1<2&2<3|1=2)", "p1(1=2&1=1|1=1)", "p1(1=1|1=1&1=2)",
            "p1((1=1|1=1)&1=2)", "p1(!1=2&1=1)", "p1(!1=1|1=1)", "p1(2>1)", "p1(1>2)", "p1(1<1)", "p1(1>1)",
            "p[99999*99999*99999]%1000(0=0)", "p[0-2*[32768*32768]]/[0-1]/30000/100(0=0)",
            "p[0-2*[32768*32768]]%[0-1]+4(0=0)", "p1(1=1&1=1&1=2|1=2|3=3)", "p1(1=2|1=2&1/0=0|3=3)",
        };
        int[] answers = {
            14, 20, 12, 7, 6, -3,
            -3, -1, 1000, 0, 0,
            0, 0, 0, 0, 1, 0,
            1, 0, 0, 2, 0,
            2, 0, 1, 1, 1,
            0, 1, 1, 1, 0, 0, 0,
            (99999 * 99999 * 99999) % 1000, Integer.MIN_VALUE / 3000000,
            4, 1, 1,
        };
        Desk d = Desk.with(1, 1);
        d.bit(0, 0, 3, 0, 1);
        d.bit(0, 0, 5, 0, 1);
        d.x.ahead(0, 1);
        for (int t = 0; t < texts.length; t++) {
            d.plan(texts[t]);
            due(texts[t], d.x.order(0, -1), answers[t]);
        }
        d.plan("pb*10+c(b<c)");
        due("the letters", d.x.order(0, -1), 35);
    }

    private static void quote() {
        promise = 13;
        Desk d = Desk.with(2, 2);
        due("it is not LEFT", d.x.quote(0, 0, 0, 0, 0), NONE);
        int[] words = new int[40];
        int[] bytes = new int[80];
        for (int p = 0; p < 40; p++) {
            words[p] = p + 24;
            bytes[2 * p] = words[p];
            bytes[2 * p + 1] = 1 + p / 5;
        }
        d.bytes(bytes).x.left(0, 40);
        due("no such WRITER", d.x.quote(2, 0, 0, 0, 0), NONE);
        due("no such WORK", d.x.quote(0, 2, 0, 0, 0), NONE);
        due("from -1", d.x.quote(0, 0, -1, 0, 0), NONE);
        due("to 40", d.x.quote(0, 0, 39, 40, 0), NONE);
        due("to before from", d.x.quote(0, 0, 5, 4, 0), NONE);
        due("13 WORDS", d.x.quote(0, 0, 0, 12, 0), NONE);
        due("to far off", d.x.quote(0, 0, 0, Integer.MAX_VALUE, 0), NONE);
        due("SUBJECT 10", d.x.quote(0, 0, 0, 0, 10), NONE);
        due("SUBJECT -1", d.x.quote(0, 0, 0, 0, -1), NONE);
        due("X stays", d.x.count(4), 1);

        due("without a WAY", d.x.quote(0, 0, 9, 20, 4), 0);
        int x = 1;
        for (int p = 0; p < 12; p++) x = (25173 * x + 13849) % 65536;
        due("LUCK is drawn for all twelve", d.x.count(4), x);
        due("eight are kept", d.x.bitIs(0, 4), 8);
        for (int p = 0; p < 8; p++) due("as it is", d.x.bitIs(0, 10 + p), words[9 + p]);
        due("BOOK of the first", d.x.bitIs(0, 2), 2);
        due("SUBJECT", d.x.bitIs(0, 3), 4);
        due("WRITER", d.x.bitIs(0, 0), 0);
        due("WORK", d.x.bitIs(0, 1), 0);

        d.way(0, "d1000(i<9)");
        due("those that are kept behind the drops", d.x.quote(0, 0, 0, 11, 0), 1);
        due("three", d.x.bitIs(1, 4), 3);
        due("the tenth", d.x.bitIs(1, 10), words[9]);
        d.way(0, "c1000(0=0)");
        d.x.quote(0, 0, 39, 39, 0);
        due("63 and 1 is 0", d.x.bitIs(2, 10), 0);
        d.way(0, "d1000(0=0)");
        due("no WORD is left", d.x.quote(0, 0, 0, 0, 0), -2);
        due("BITS", d.x.count(3), 3);
        d.x.seed(1);
        d.x.quote(0, 0, 0, 0, 0);
        due("X has gone on", d.x.count(4), (25173 + 13849) % 65536);

        int luck = 39022 % 1000;
        wordBy(d, "d" + luck + "(0=0)", words[0]);
        wordBy(d, "d" + (luck + 1) + "(0=0)", -2);
        wordBy(d, "c" + luck + "(0=0)", words[0]);
        wordBy(d, "c" + (luck + 1) + "(0=0)", words[0] + 1);
        wordBy(d, "d" + (luck - 10) + "(0=0);c10(0=0)", words[0]);
        wordBy(d, "d" + (luck - 10) + "(0=0);c11(0=0)", words[0] + 1);
        wordBy(d, "c1000(x=" + luck + ")", words[0] + 1);
        wordBy(d, "d0-5(0=0);c5000(0=0)", words[0] + 1);
        bookBy(d, 0, 0, "n9(0=0)", 10);
        bookBy(d, 0, 0, "n10(0=0)", 10);
        bookBy(d, 0, 39, "n0-3(0=0)", 5);
        bookBy(d, 0, 39, "n0-9(0=0)", 1);
        bookBy(d, 0, 39, "n0-10(0=0)", 1);
        bookBy(d, 0, 7, "nw-24(0=0)", 9);
        bookBy(d, 0, 7, "nb(0=0)", 4);
        bookBy(d, 0, 7, "nl(0=0)", 4);
        bookBy(d, 0, 7, "ni+5(0=0)", 7);
        bookBy(d, 1, 7, "ny/100(0=0)", 4);
        bookBy(d, 1, 7, "nm(0=0)", 3);
        bookBy(d, 1, 7, "n1+k(0=0)", 3);
        bookBy(d, 1, 7, "nx-" + (luck - 4) + "(x=" + luck + ")", 6);
        bookBy(d, 1, 7, "n1+c+s+t+z+n+p(0=0)", 3);

        // A seed whose first LUCK is 0.
        int lucky = 0;
        while ((25173 * lucky + 13849) % 65536 % 1000 != 0) lucky++;
        String[] texts = {"d0-5(0=0)", "d0(0=0)", "d1(0=0)", "c0-5(0=0)", "c1(0=0)", "d1(0=1)"};
        int[] want = {words[0], words[0], -2, words[0], words[0] + 1, words[0]};
        for (int t = 0; t < texts.length; t++) {
            d.way(0, texts[t]);
            d.x.seed(lucky);
            int i = d.x.quote(0, 0, 0, 0, 0);
            due("LUCK 0 by " + texts[t], i < 0 ? i : d.x.bitIs(i, 10), want[t]);
        }

        Desk e = Desk.with(0, 1);
        e.x.work(0, 40);
        e.bytes(7, 35).x.left(0, 1);
        e.way(0, "n0-10(0=0)");
        e.x.quote(0, 0, 0, 0, 0);
        due("nine less at most", e.x.bitIs(0, 2), 26);
        e = Desk.with(0, 1);
        e.x.work(0, 40);
        e.bytes(7, 35).x.left(0, 1);
        e.way(0, "n9(0=0)");
        e.x.quote(0, 0, 0, 0, 0);
        due("above 40: 40", e.x.bitIs(0, 2), 40);
        for (int i = 1; i < 40; i++) due("quote " + i, e.x.quote(0, 0, 0, 0, 0), i);
        int before = e.x.count(4);
        due("40 are there", e.x.quote(0, 0, 0, 0, 0), NONE);
        due("X stays", e.x.count(4), before);
    }

    private static void wordBy(Desk d, String text, int want) {
        d.way(0, text);
        d.x.seed(1);
        int i = d.x.quote(0, 0, 0, 0, 0);
        due(text, i < 0 ? i : d.x.bitIs(i, 10), want);
    }

    /** Quotes two WORDS (if there are), and looks at the BOOK. */
    private static void bookBy(Desk d, int writer, int place, String text, int want) {
        d.way(writer, text);
        d.x.seed(1);
        int i = d.x.quote(writer, 0, place, Math.min(39, place + 1), 0);
        due(text, d.x.bitIs(i, 2), want);
    }

    private static void bitIs() {
        promise = 14;
        Desk d = Desk.with(1, 2);
        d.bit(1, 0, 3, 4, 5, 6);
        d.bit(0, -1, 0, 9, 1, 2, 3, 4, 5, 6, 7, 8);
        int[] want = {1, 0, 3, 4, 2, -1, -1, -1, -1, -1, 5, 6, -1};
        for (int what = 0; what < want.length; what++) due("what " + what, d.x.bitIs(0, what), want[what]);
        due("none told", d.x.bitIs(1, 1), NONE);
        due("the eighth", d.x.bitIs(1, 17), 8);
        due("a ninth", d.x.bitIs(1, 18), NONE);
        due("what -1", d.x.bitIs(1, -1), NONE);
        due("no such BIT", d.x.bitIs(2, 0), NONE);
        due("BIT -1", d.x.bitIs(-1, 0), NONE);
        due("what far off", d.x.bitIs(0, Integer.MAX_VALUE), NONE);
        due("what far off", d.x.bitIs(0, Integer.MIN_VALUE), NONE);
    }

    private static void apart() {
        promise = 15;
        Desk d = Desk.with(0, 1);
        d.bit(0, -1, 0, 0, 1, 2, 3, 4);
        d.bit(0, -1, 0, 0, 2, 3, 4, 5);
        d.bit(0, -1, 0, 0, 4, 3, 2, 1);
        d.bit(0, -1, 0, 0, 9);
        d.bit(0, -1, 0, 0, 10, 11, 12, 13, 14, 15, 16, 17);
        due("itself", d.x.apart(0, 0), 0);
        due("a drop and an insertion", d.x.apart(0, 1), 2);
        due("the other way", d.x.apart(1, 0), 2);
        due("turned round", d.x.apart(0, 2), 4);
        due("a change and three drops", d.x.apart(0, 3), 4);
        due("all other ones", d.x.apart(3, 4), 8);
        due("no such one", d.x.apart(0, 5), NONE);
        due("no such one", d.x.apart(-1, 0), NONE);
    }

    private static void near() {
        promise = 16;
        Desk d = Desk.with(2, 1);
        d.left(0, 1, 2, 3, 1, 2, 4, 4);
        d.bit(0, -1, 0, 0, 1, 2, 4);
        d.bit(0, -1, 0, 0, 1, 2);
        d.bit(0, -1, 0, 0, 9, 9);
        d.bit(0, -1, 0, 0, 2, 9, 4, 4);
        d.bit(0, -1, 0, 0, 3, 2, 4);
        nearIs(d, 0, 0, 3, 5, 1000);
        nearIs(d, 1, 0, 0, 1, 1000);
        // Nothing is alike: two WORDS of the first begin are as FAR as one of it, and longer.
        nearIs(d, 2, 2, 0, 1, 0);
        nearIs(d, 3, 1, 4, 6, 750);
        // From 2 on all four are as FAR as from 3 on the last three: the first begin counts.
        nearIs(d, 4, 1, 2, 5, 666);
        due("it is not LEFT", d.x.near(0, 1, 0), NONE);
        due("no such WORK", d.x.near(0, 2, 0), NONE);
        due("no such BIT", d.x.near(5, 0, 0), NONE);
        due("what 4", d.x.near(0, 0, 4), NONE);
        due("what -1", d.x.near(0, 0, -1), NONE);
        d.left(1, 1, 2, 4);
        due("LEFT by now", d.x.near(0, 1, 0), 0);
        // Three WORDS dropped out of seven are as few changes as there are: the longest counts.
        d = Desk.with(1, 1);
        d.left(0, 1, 9, 2, 9, 3, 9, 4);
        d.bit(0, -1, 0, 0, 1, 2, 3, 4);
        nearIs(d, 0, 3, 0, 6, 250);
    }

    private static void nearIs(Desk d, int i, int far, int first, int last, int thousandths) {
        due("FAR of " + i, d.x.near(i, 0, 0), far);
        due("first of " + i, d.x.near(i, 0, 1), first);
        due("last of " + i, d.x.near(i, 0, 2), last);
        due("NEARNESS of " + i, d.x.near(i, 0, 3), thousandths);
    }

    private static void nearness() {
        promise = 17;
        Desk d = Desk.with(2, 2);
        d.left(0, 1, 2, 3);
        due("no BITS", d.x.nearness(0, 3), 0);
        for (int what = 0; what < 3; what++) due("there is none", d.x.nearness(0, what), -2);
        d.bit(0, 1, 0, 0, 1);
        d.bit(0, -1, 0, 0, 1);
        due("BITS of lost WORKS don't count", d.x.nearness(0, 3), 0);
        d.bit(0, 0, 0, 0, 1, 2, 9);
        d.bit(0, 0, 0, 0, 1, 9, 9);
        d.bit(1, 0, 0, 0, 9);
        d.bit(0, 0, 0, 0, 1, 2, 3);
        due("least", d.x.nearness(0, 0), 333);
        due("greatest", d.x.nearness(0, 1), 1000);
        due("through how many", d.x.nearness(0, 2), (666 + 333 + 1000) / 3);
        due("BITS", d.x.nearness(0, 3), 3);
        due("the other's", d.x.nearness(1, 1), 0);
        due("what 4", d.x.nearness(0, 4), NONE);
        due("what -1", d.x.nearness(0, -1), NONE);
        due("no such WRITER", d.x.nearness(2, 0), NONE);
    }

    private static void same() {
        promise = 18;
        Desk d = Desk.with(0, 1);
        due("no such BIT", d.x.same(0, 0), NONE);
        d.bit(0, -1, 0, 0, 1, 2, 3);
        d.bit(0, -1, 0, 0, 1, 2);
        d.bit(0, -1, 0, 0, 9, 9, 9);
        d.bit(0, -1, 0, 0, 1, 2, 3);
        due("0", d.x.same(0, 0), 9);
        due("1", d.x.same(0, 1), 11);
        due("3", d.x.same(0, 3), 15);
        due("8", d.x.same(2, 8), 15);
        due("9", d.x.same(0, 9), NONE);
        due("-1", d.x.same(0, -1), NONE);
        due("BIT 4", d.x.same(4, 0), NONE);
        for (int i = 4; i < 40; i++) d.bit(0, -1, 0, 0, 1, 2, 3);
        due("bit 39", d.x.same(39, 0), (1L << 40) - 1 - 2 - 4);
    }

    private static void stood() {
        promise = 19;
        Desk d = Desk.with(0, 1);
        d.bit(0, -1, 0, 0, 5, 1, 2);
        d.bit(0, -1, 0, 0, 1, 2, 5);
        d.bit(0, -1, 0, 0, 5, 1);
        d.bit(0, -1, 0, 0, 1, 5);
        d.bit(0, -1, 0, 0, 9);
        d.bit(0, -1, 0, 0, 1, 3, 2, 4, 1);
        d.bit(0, -1, 0, 0, 2, 1, 4, 3, 1);
        due("how many", d.x.stood(0, 1, -1), 2);
        due("first", d.x.stood(0, 1, 0), 1);
        due("second", d.x.stood(0, 1, 1), 2);
        due("no such place", d.x.stood(0, 1, 2), -2);
        due("far off", d.x.stood(0, 1, Integer.MAX_VALUE), -2);
        due("of like ones the least", d.x.stood(2, 3, 0), 1);
        due("nothing", d.x.stood(0, 4, -1), 0);
        due("nothing at 0", d.x.stood(0, 4, 0), -2);
        int[] least = {1, 3, 1};
        due("three of five", d.x.stood(5, 6, -1), 3);
        for (int p = 0; p < 3; p++) due("the least row", d.x.stood(5, 6, p), least[p]);
        stoodIs(d, new int[] {1, 2, 1, 3}, new int[] {1, 3, 2}, 1, 2);
        stoodIs(d, new int[] {1, 2, 3}, new int[] {1, 2, 1, 3}, 1, 2, 3);
        stoodIs(d, new int[] {1, 2, 1, 3}, new int[] {1, 2, 3}, 1, 2, 3);
        stoodIs(d, new int[] {7, 1, 7, 2, 7}, new int[] {2, 7, 1, 7, 7}, 7, 1, 7, 7);
        stoodIs(d, new int[] {1, 2, 3, 4, 5, 6, 7, 8}, new int[] {1, 2, 3, 4, 5, 6, 7, 8}, 1, 2, 3, 4, 5, 6, 7, 8);
        stoodIs(d, new int[] {8, 7, 6, 5, 4, 3, 2, 1}, new int[] {1, 2, 3, 4, 5, 6, 7, 8}, 1);
        due("what -2", d.x.stood(0, 1, -2), NONE);
        due("no such BIT", d.x.stood(0, d.x.count(3), -1), NONE);
        due("no such BIT", d.x.stood(-1, 0, -1), NONE);
    }

    private static void stoodIs(Desk d, int[] one, int[] other, int... want) {
        int x = d.bit(0, -1, 0, 0, one);
        int y = d.bit(0, -1, 0, 0, other);
        due("how many of " + x, d.x.stood(x, y, -1), want.length);
        for (int p = 0; p < want.length; p++) due("place " + p + " of " + x, d.x.stood(x, y, p), want[p]);
    }

    /** WORK 0: WORDS 10, 20 .. 60; WRITERS of the years 100, 200 .. */
    private static Desk scribes(int writers) {
        Desk d = Desk.with(2, writers);
        d.left(0, 10, 20, 30, 40, 50, 60);
        return d;
    }

    private static void slips() {
        promise = 20;
        Desk d = scribes(2);
        for (int what = 0; what < 4; what++) due("no BIT", d.x.slips(0, 0, what), 0);
        d.bit(0, 0, 0, 0, 10, 21, 30);
        d.bit(0, 0, 0, 0, 40, 60);
        due("a BIT with a drop is not told", d.x.slips(0, 0, 2), 7);
        due("its SLIP", d.x.slips(0, 0, 3), 2);
        d.bit(0, 0, 0, 0, 20, 31, 41);
        d.bit(1, 0, 0, 0, 60);
        d.bit(0, -1, 0, 0, 50, 60);
        d.bit(0, 1, 0, 0, 50, 60);
        due("how many", d.x.slips(0, 0, 0), 2);
        due("PLACES", d.x.slips(0, 0, 1), 4);
        due("PLACES as bits", d.x.slips(0, 0, 2), 15);
        due("SLIPS as bits: none at 2, which the first BIT has as it is", d.x.slips(0, 0, 3), 10);
        d.bit(0, 0, 0, 0, 20, 30, 40);
        due("a later BIT mends none", d.x.slips(0, 0, 3), 10);
        due("the other's PLACES", d.x.slips(1, 0, 2), 32);
        due("what 4", d.x.slips(0, 0, 4), NONE);
        due("what -1", d.x.slips(0, 0, -1), NONE);
        due("not LEFT", d.x.slips(0, 1, 0), NONE);
        due("no such WORK", d.x.slips(0, 2, 0), NONE);
        due("no such WRITER", d.x.slips(2, 0, 0), NONE);

        Desk e = Desk.with(2, 1);
        e.left(0, 1, 2, 3, 4);
        e.bit(0, 0, 0, 0, 2, 1, 2, 3, 4);
        due("not as long as the stretch", e.x.slips(0, 0, 1), 0);
        // As long as the stretch, but a drop and an insertion are fewer than the WORDS that are other ones.
        e.left(1, 1, 9, 2, 3, 4, 6);
        e.bit(0, 1, 0, 0, 1, 2, 3, 4, 5, 6);
        due("its stretch", e.x.near(1, 1, 2), 5);
        due("not WORD by WORD", e.x.slips(0, 1, 1), 0);
        e.bit(0, 1, 0, 0, 1, 9, 5);
        due("what is not told has no place", e.x.slips(0, 1, 3), 4);
        Desk f = Desk.with(1, 1);
        int[] words = new int[40];
        for (int p = 0; p < 40; p++) words[p] = p;
        f.left(0, words);
        f.bit(0, 0, 0, 0, 36, 37, 38, 63);
        due("the last places", f.x.slips(0, 0, 2), 15L << 36);
        due("a SLIP at the last place", f.x.slips(0, 0, 3), 1L << 39);
    }

    private static void slip() {
        promise = 21;
        Desk d = scribes(2);
        d.bit(0, 0, 0, 0, 10, 21, 30);
        d.bit(0, 0, 0, 0, 10, 22, 30);
        d.bit(0, 0, 0, 0, 10, 20, 30);
        due("the first BIT of the place", d.x.slip(0, 0, 1), 21);
        d.bit(0, 0, 0, 0, 40, 50);
        d.bit(0, 0, 0, 0, 40, 51);
        due("the first BIT has it as it is", d.x.slip(0, 0, 4), NONE);
        d.bit(1, 0, 0, 0, 40, 51);
        due("first of another WRITER", d.x.slip(1, 0, 4), 51);
        due("none there", d.x.slip(0, 0, 0), NONE);
        due("no PLACE of his", d.x.slip(0, 0, 5), NONE);
        due("no such place", d.x.slip(0, 0, 6), NONE);
        due("place -1", d.x.slip(0, 0, -1), NONE);
        due("place 65", d.x.slip(0, 0, 65), NONE);
        due("the other WRITER", d.x.slip(1, 0, 1), NONE);
        due("no such WRITER", d.x.slip(2, 0, 1), NONE);
        due("not LEFT", d.x.slip(0, 1, 1), NONE);
        due("no such WORK", d.x.slip(0, 9, 1), NONE);
    }

    private static void sharedIs(Desk d, int x, int y, long... want) {
        for (int what = 0; what < 6; what++) due("shared " + x + " " + y + ", " + what, d.x.shared(x, y, 0, what), want[what]);
    }

    private static void shared() {
        promise = 22;
        Desk d = scribes(4);
        d.bit(0, 0, 0, 0, 10, 21, 31, 40, 50);
        d.bit(1, 0, 0, 0, 20, 31, 41, 50, 60);
        d.bit(2, 0, 0, 0, 20, 32, 40, 50);
        sharedIs(d, 0, 1, 4, 2, 2, 1, 5, 6);
        sharedIs(d, 1, 0, 4, 2, 2, 1, 5, 6);
        sharedIs(d, 0, 2, 4, 2, 1, 0, 1, 1);
        sharedIs(d, 0, 3, 0, 0, 0, 0, 1, 1);
        d.bit(3, 0, 0, 0, 10, 21, 31, 40, 50);
        sharedIs(d, 0, 3, 5, 2, 2, 2, 1, 10);
        due("one twice", d.x.shared(1, 1, 0, 0), NONE);
        due("what 6", d.x.shared(0, 1, 0, 6), NONE);
        due("what -1", d.x.shared(0, 1, 0, -1), NONE);
        due("not LEFT", d.x.shared(0, 1, 1, 0), NONE);
        due("no such WRITER", d.x.shared(0, 4, 0, 0), NONE);
        due("no such WORK", d.x.shared(0, 1, 2, 0), NONE);

        // Twenty of forty places, all shared: one through C(40, 20).
        Desk e = Desk.with(1, 2);
        int[] words = new int[40];
        for (int p = 0; p < 40; p++) words[p] = p;
        e.left(0, words);
        for (int m = 0; m < 2; m++) {
            for (int start = 0; start < 40; start += 8) {
                int[] bit = new int[8];
                for (int p = 0; p < 8; p++) bit[p] = p % 2 == 0 ? start + p : 63;
                e.bit(m, 0, 0, 0, bit);
            }
        }
        due("n", e.x.shared(0, 1, 0, 0), 40);
        due("c", e.x.shared(0, 1, 0, 3), 20);
        due("above", e.x.shared(0, 1, 0, 4), 1);
        due("below", e.x.shared(0, 1, 0, 5), 137846528820L);

        // The first BIT of a place counts: 1 has none at place 1, and 0's word at place 2 is the first one.
        Desk f = scribes(2);
        f.bit(1, 0, 0, 0, 20);
        f.bit(1, 0, 0, 0, 10, 21, 31);
        f.bit(0, 0, 0, 0, 10, 21, 31);
        f.bit(0, 0, 0, 0, 10, 20, 30);
        f.bit(0, 0, 0, 0, 20, 32, 40);
        sharedIs(f, 0, 1, 3, 2, 1, 1, 2, 3);
        sharedIs(f, 1, 0, 3, 1, 2, 1, 2, 3);
    }

    private static void groups() {
        promise = 23;
        Desk d = scribes(5);
        d.bit(0, 0, 0, 0, 11, 20, 30);
        d.bit(1, 0, 0, 0, 11, 20, 30, 40, 51, 60);
        d.bit(2, 0, 0, 0, 40, 51, 60);
        d.bit(3, 0, 0, 0, 12, 20, 30);
        due("0 by a third, and so on", d.x.groups(0, 334), 7);
        due("2 likewise", d.x.groups(2, 334), 7);
        due("below the ODDS", d.x.groups(0, 333), 1);
        due("another WORD", d.x.groups(3, 1000), 8);
        due("without BITS", d.x.groups(4, 1000), 16);
        due("thousandths 0", d.x.groups(0, 0), 1);
        due("-1", d.x.groups(0, -1), NONE);
        due("1001", d.x.groups(0, 1001), NONE);
        due("no such WRITER", d.x.groups(5, 5), NONE);
        d.left(1, 1, 2);
        d.bit(4, 1, 0, 0, 1, 3);
        d.bit(3, 1, 0, 0, 1, 3);
        due("by another WORK", d.x.groups(4, 500), 24);
        due("just not above", d.x.groups(4, 499), 16);

        Desk e = scribes(2);
        e.bit(0, 0, 0, 0, 11, 20, 30);
        e.bit(1, 0, 0, 0, 10);
        e.bit(1, 0, 0, 0, 11, 20, 30);
        due("the first BIT has no SLIP at the place", e.x.groups(0, 1000), 1);
    }

    private static void from() {
        promise = 24;
        Desk d = scribes(5);
        d.x.writer(100);
        due("no PLACES", d.x.from(0, 0, 0), -2);
        due("no PLACES, and what 2", d.x.from(0, 0, 2), -3);
        d.bit(0, 0, 0, 0, 11, 21, 30, 40);
        due("himself", d.x.from(0, 0, 0), NONE);
        due("all his SLIPS", d.x.from(0, 0, 1), 2);
        d.bit(1, 0, 0, 0, 11, 21, 30);
        due("from the one before", d.x.from(1, 0, 0), 0);
        due("cost", d.x.from(1, 0, 1), 1);
        d.bit(2, 0, 0, 0, 11, 21, 30);
        due("of like ones the lowest", d.x.from(2, 0, 0), 0);
        d.bit(3, 0, 0, 0, 11, 20, 30);
        // From 0: 1, and 2 for the SLIP that he has not; himself: 1.
        due("himself", d.x.from(3, 0, 0), NONE);
        due("himself", d.x.from(3, 0, 1), 1);
        d.bit(4, 0, 0, 0, 11, 22, 31);
        due("of 3: 1, and two of his own; himself 3", d.x.from(4, 0, 1), 3);
        due("of like ones himself", d.x.from(4, 0, 0), NONE);
        due("a WRITER of the same YEAR", d.x.from(5, 0, 0), -2);
        d.bit(5, 0, 0, 0, 11, 21, 30, 40);
        due("of the same YEAR is not before", d.x.from(5, 0, 0), NONE);
        due("not LEFT", d.x.from(0, 1, 0), -3);
        due("no such WORK", d.x.from(0, 2, 0), -3);
        due("no such WRITER", d.x.from(6, 0, 0), -3);
        due("what -1", d.x.from(0, 0, -1), -3);

        Desk e = scribes(2);
        e.bit(0, 0, 0, 0, 11, 21, 30);
        e.bit(1, 0, 0, 0, 11, 21, 30, 40);
        due("who has not all PLACES", e.x.from(1, 0, 0), NONE);
        Desk f = scribes(2);
        f.bit(1, 0, 0, 0, 11, 21, 31, 41, 50, 60);
        f.bit(0, 0, 0, 0, 11, 21, 31, 41, 51, 60);
        due("2 for the one at which he has none", f.x.from(1, 0, 1), 3);
        due("from 0", f.x.from(1, 0, 0), 0);
        Desk g = scribes(2);
        g.bit(0, 0, 0, 0, 11, 21, 31);
        g.bit(1, 0, 0, 0, 20, 30);
        g.bit(1, 0, 0, 0, 11, 21, 31);
        due("of his places 1 and 2 the first BIT counts", g.x.from(1, 0, 0), NONE);
        due("one SLIP is left him", g.x.from(1, 0, 1), 1);
    }

    private static void there() {
        promise = 25;
        Desk d = scribes(4);
        due("nobody", d.x.there(0), NONE);
        d.bit(1, 0, 0, 0, 11, 21, 30);
        due("WRITER 1", d.x.there(0), 200);
        d.bit(2, 0, 0, 0, 11, 21, 30);
        due("2 had it from him", d.x.there(0), 200);
        d.bit(3, 0, 0, 0, 10);
        due("without a SLIP: himself", d.x.there(0), 400);
        due("not LEFT", d.x.there(1), NONE);
        due("no such WORK", d.x.there(2), NONE);
        due("WORK -1", d.x.there(-1), NONE);
        Desk e = scribes(2);
        e.bit(0, 0, 0, 0, 11, 21, 30);
        e.bit(1, 0, 0, 0, 10, 20);
        e.bit(1, 0, 0, 0, 11, 21, 30);
        due("as his first BIT has it without a SLIP", e.x.there(0), 200);
    }

    private static void ahead() {
        promise = 26;
        Desk d = Desk.with(2, 1);
        for (int i = 0; i < 9; i++) d.bit(0, 0, 0, 0, 1);
        d.bit(0, 1, 0, 0, 1);
        d.bit(0, -1, 0, 0, 1);
        d.bit(0, -1, 0, 0, 1);
        due("one twice", d.x.ahead(1, 1), false);
        due("no such one", d.x.ahead(0, 12), false);
        due("no such one", d.x.ahead(-1, 0), false);
        due("not of one WORK", d.x.ahead(0, 9), false);
        due("of none", d.x.ahead(10, 11), false);
        due("of none", d.x.ahead(10, 0), false);
        due("pairs", d.x.count(9), 0);
        due("told", d.x.ahead(0, 1), true);
        due("it is told", d.x.ahead(0, 1), false);
        due("the other way", d.x.ahead(1, 0), true);
        int pairs = 2;
        for (int a = 0; a < 9; a++) {
            for (int b = 0; b < 9 && pairs < 60; b++) {
                if (a == b || a + b == 1) continue;
                due("pair " + pairs, d.x.ahead(a, b), true);
                pairs++;
            }
        }
        due("60 are", d.x.ahead(8, 7), false);
        due("pairs", d.x.count(9), 60);
    }

    private static void order() {
        promise = 27;
        Desk d = Desk.with(3, 1);
        due("no BIT", d.x.order(0, -1), NOT_TOLD);
        int[] books = {5, 2, 4, 1, 3};
        for (int b : books) d.bit(0, 0, b, 0, 1);
        due("without a PLAN", d.x.order(0, -1), 0);
        for (int p = 0; p < 5; p++) due("the least row", d.x.order(0, p), p);
        d.plan("p7(b+1=c)");
        due("POINTS", d.x.order(0, -1), 28);
        int[] row = {3, 1, 4, 2, 0};
        for (int p = 0; p < 5; p++) due("by the PLAN", d.x.order(0, p), row[p]);
        due("place 5", d.x.order(0, 5), NOT_TOLD);
        due("what -2", d.x.order(0, -2), NOT_TOLD);
        due("no such WORK", d.x.order(3, -1), NOT_TOLD);
        due("WORK -1", d.x.order(-1, -1), NOT_TOLD);
        d.x.ahead(0, 3);
        int[] then = {0, 3, 1, 4, 2};
        due("POINTS", d.x.order(0, -1), 21);
        for (int p = 0; p < 5; p++) due("with a pair", d.x.order(0, p), then[p]);
        d.plan("p0-7(0=0)");
        due("below 0", d.x.order(0, -1), -28);
        d.x.ahead(3, 0);
        due("none can be", d.x.order(0, -1), NOT_TOLD);
        due("none can be", d.x.order(0, 0), NOT_TOLD);
        for (int i = 0; i < 10; i++) d.bit(0, 1, 10 - i, 0, 1);
        d.plan("p1000(b+1=c)");
        due("ten", d.x.order(1, -1), 9000);
        for (int p = 0; p < 10; p++) due("ten", d.x.order(1, p), 14 - p);
        d.bit(0, 1, 0, 0, 1);
        due("eleven", d.x.order(1, -1), NOT_TOLD);
        d.bit(0, 2, 0, 0, 1);
        due("one", d.x.order(2, -1), 0);
        due("one", d.x.order(2, 0), 16);
    }

    private static void orders() {
        promise = 28;
        Desk d = Desk.with(2, 1);
        due("no BIT", d.x.orders(0), 0);
        due("no such WORK", d.x.orders(2), -1);
        due("WORK -1", d.x.orders(-1), -1);
        long rows = 1;
        for (int i = 1; i <= 10; i++) {
            d.bit(0, 0, i, 0, 1);
            rows *= i;
            due("all rows of " + i, d.x.orders(0), rows);
        }
        d.x.ahead(0, 1);
        due("half of them", d.x.orders(0), rows / 2);
        d.plan("p1(b+1=c)");
        due("by the PLAN", d.x.orders(0), 1);
        d.plan("p1(b=1&c=2)");
        due("9! with the two together", d.x.orders(0), rows / 10);
        d.x.ahead(1, 0);
        due("none can be", d.x.orders(0), 0);
        d.bit(0, 0, 1, 0, 1);
        due("eleven", d.x.orders(0), 0);
    }

    private static void sure() {
        promise = 29;
        Desk d = Desk.with(2, 1);
        for (int i = 0; i < 3; i++) d.bit(0, 0, i + 1, 0, 1);
        d.bit(0, 1, 0, 0, 1);
        d.bit(0, -1, 0, 0, 1);
        d.bit(0, -1, 0, 0, 1);
        due("any row", d.x.sure(0, 1), 0);
        due("any row", d.x.sure(1, 0), 0);
        d.plan("p1(b<c)");
        due("in all", d.x.sure(0, 2), 1);
        due("in none", d.x.sure(2, 0), 0);
        d.plan("p5(b=1&c=2)");
        due("in all", d.x.sure(0, 1), 1);
        due("in some", d.x.sure(0, 2), 0);
        due("in some", d.x.sure(2, 0), 0);
        d.x.ahead(2, 0);
        due("by the pair", d.x.sure(2, 0), 1);
        due("and so on", d.x.sure(2, 1), 1);
        due("one twice", d.x.sure(1, 1), NONE);
        due("not of one WORK", d.x.sure(0, 3), NONE);
        due("of none", d.x.sure(4, 5), NONE);
        due("no such BIT", d.x.sure(0, 6), NONE);
        due("no such BIT", d.x.sure(-1, 0), NONE);
        d.x.ahead(0, 2);
        due("none can be", d.x.sure(0, 1), -2);
        for (int i = 0; i < 10; i++) d.bit(0, 1, 0, 0, 1);
        due("eleven", d.x.sure(3, 6), -2);
        due("eleven, one twice", d.x.sure(3, 3), NONE);
    }

    private static void truth() {
        promise = 30;
        Desk d = Desk.with(1, 1);
        for (int i = 0; i < 7; i++) d.bit(0, 0, i + 1, 0, 1);
        d.bit(0, -1, 0, 0, 1);
        d.bit(0, -1, 40, 0, 1);
        due("without a TABLE", d.x.truth(1, 3, 0), 0);
        d.table("g9(b=c);g2(c<b);g1(0=0)");
        due("BOOK 1", d.x.truth(3, 3, 1), 18);
        due("BOOK 2", d.x.truth(3, 3, 2), 9);
        due("BOOK 3", d.x.truth(3, 3, 3), 1);
        due("all together", d.x.truth(3, 3, 0), 28);
        d.table("g100+b(0=0)");
        due("six, and above 100: 100", d.x.truth(63, 40, 40), 1000000000000L);
        due("all forty", d.x.truth(63, 40, 0), 40000000000000L);
        d.table("g0-1(0=0)");
        due("below 0: 0", d.x.truth(1, 1, 1), 0);
        d.table("gn+c*b+w+x+y+k(0=0)");
        due("n, c, b", d.x.truth(2, 5, 3), 11);
        due("of no WORK", d.x.truth(256, 1, 1), 41);
        due("seven", d.x.truth(127, 3, 0), NONE);
        due("none", d.x.truth(0, 3, 0), NONE);
        due("without a BOOK", d.x.truth(128, 3, 0), NONE);
        due("no such BIT", d.x.truth(512, 3, 0), NONE);
        due("no such BIT at 40", d.x.truth(1L << 40 | 1, 3, 0), NONE);
        due("no such BIT at 63", d.x.truth(Long.MIN_VALUE, 3, 0), NONE);
        due("BOOKS 0", d.x.truth(1, 0, 0), NONE);
        due("BOOKS 41", d.x.truth(1, 41, 0), NONE);
        due("what above", d.x.truth(1, 3, 4), NONE);
        due("what -1", d.x.truth(1, 3, -1), NONE);
    }

    private static void length() {
        promise = 31;
        Desk d = Desk.with(2, 1);
        d.bit(0, 0, 0, 0, 1);
        due("no BIT tells", d.x.length(0, 5, 0), -2);
        d.bit(0, 0, 5, 0, 1);
        d.bit(0, 0, 2, 0, 1);
        d.bit(0, 0, 5, 0, 1);
        d.bit(0, 1, 9, 0, 1);
        due("above", d.x.length(0, 8, 0), 1);
        due("below", d.x.length(0, 8, 1), 7);
        due("N is m: above", d.x.length(0, 5, 0), 2);
        due("N is m: below", d.x.length(0, 5, 1), 5);
        due("below m", d.x.length(0, 4, 0), 0);
        due("below m", d.x.length(0, 4, 1), 1);
        due("N 0", d.x.length(0, 0, 0), NONE);
        due("N 41", d.x.length(0, 41, 0), NONE);
        due("what 2", d.x.length(0, 5, 2), NONE);
        due("what -1", d.x.length(0, 5, -1), NONE);
        due("no such WORK", d.x.length(2, 5, 0), NONE);
        due("no BIT, and N 41", Desk.with(1, 0).x.length(0, 41, 0), NONE);
        Desk e = Desk.with(1, 1);
        for (int b = 1; b < 20; b++) e.bit(0, 0, b, 0, 1);
        e.bit(0, 0, 30, 0, 1);
        // C(29, 19) through C(40, 20).
        due("above", e.x.length(0, 40, 0), 20030010L / gcd(20030010L, 137846528820L));
        due("below", e.x.length(0, 40, 1), 137846528820L / gcd(20030010L, 137846528820L));
    }

    private static long gcd(long a, long b) {
        return b == 0 ? a : gcd(b, a % b);
    }

    private static void span() {
        promise = 32;
        Desk d = Desk.with(2, 1);
        due("no BIT tells", d.x.span(0, 5, 0), -2);
        d.bit(0, 0, 5, 0, 1);
        due("a fifth", d.x.span(0, 200, 0), 5);
        due("a fifth", d.x.span(0, 200, 1), 5);
        due("more", d.x.span(0, 201, 0), -2);
        due("a tenth", d.x.span(0, 100, 1), 10);
        due("to 40", d.x.span(0, 1, 1), 40);
        due("from m", d.x.span(0, 1, 0), 5);
        d.bit(0, 0, 1, 0, 1);
        due("with another BOOK", d.x.span(0, 400, 0), 5);
        due("with another BOOK", d.x.span(0, 401, 1), -2);
        due("thousandths 0", d.x.span(0, 0, 0), NONE);
        due("1001", d.x.span(0, 1001, 0), NONE);
        due("what 2", d.x.span(0, 5, 2), NONE);
        due("what -1", d.x.span(0, 5, -1), NONE);
        due("no such WORK", d.x.span(2, 5, 0), NONE);
        due("no BIT, and what 2", d.x.span(1, 5, 2), NONE);
        Desk e = Desk.with(1, 1);
        e.bit(0, 0, 1, 0, 1);
        due("1000", e.x.span(0, 1000, 1), 1);
    }

    private static void nobody() {
        promise = 33;
        Desk d = Desk.with(2, 1);
        due("nothing told", d.x.nobody(0, 40), (1L << 40) - 1);
        d.bit(0, 0, 1, 0, 1);
        d.bit(0, 0, 40, 0, 1);
        d.bit(0, 0, 0, 0, 1);
        d.bit(0, 1, 2, 0, 1);
        d.bit(0, -1, 3, 0, 1);
        due("40", d.x.nobody(0, 40), (1L << 39) - 2);
        due("1", d.x.nobody(0, 1), 0);
        due("3", d.x.nobody(0, 3), 6);
        due("N 0", d.x.nobody(0, 0), NONE);
        due("N 41", d.x.nobody(0, 41), NONE);
        due("no such WORK", d.x.nobody(2, 3), NONE);
    }

    private static void whose() {
        promise = 34;
        Desk none = new Desk();
        none.x.writer(1);
        none.bit(0, -1, 0, 0, 1);
        due("no AUTHOR", none.x.whose(0, 0), NOT_TOLD);
        Desk d = new Desk();
        d.x.author(50, 7);
        d.x.work(0, 9);
        d.x.writer(100);
        d.left(0, 1, 1, 2);
        d.bit(0, -1, 0, 0, 1, 3, 1);
        d.habit("hn*10+t(0=0)");
        due("alone", d.x.whose(0, 0), 0);
        due("POINTS", d.x.whose(0, 1), 20 + 3 + 3 + 20 + 3);
        due("no other", d.x.whose(0, 2), NONE);
        d.x.author(60, 9);
        due("ahead of one without WORDS", d.x.whose(0, 2), 49);
        d.x.work(1, 9);
        d.bit(0, 1, 0, 0, 3, 3, 3, 3, 3, 3);
        due("by BITS of a lost WORK", d.x.whose(0, 0), 1);
        due("POINTS", d.x.whose(0, 1), 6 + 60 + 6 + 6);
        due("ahead", d.x.whose(0, 2), 78 - 49);
        due("that BIT aside", d.x.whose(1, 1), 3 * 6);
        due("whose that is", d.x.whose(1, 0), 0);
        d.habit("hp+y+i*100+w*0(0=0)");
        due("p, y, i", d.x.whose(0, 1), 3 * 69 + 300);
        d.habit("hw(0=0)");
        due("of like ones the lowest", d.x.whose(0, 0), 0);
        due("w", d.x.whose(0, 1), 5);
        due("like ones", d.x.whose(0, 2), 0);
        d.x.author(70, 11);
        d.habit("hp*100(0=0)");
        due("most", d.x.whose(0, 1), 3000);
        d.habit("h0-p(0=0)");
        due("below 0", d.x.whose(0, 1), -21);
        due("the next of three", d.x.whose(0, 2), 6);
        d.habit("h5+b+c+k+l+m+s+x+z(0=0)");
        due("letters that are not its own", d.x.whose(0, 1), 15);
        due("what 3", d.x.whose(0, 3), NOT_TOLD);
        due("what -1", d.x.whose(0, -1), NOT_TOLD);
        due("no such BIT", d.x.whose(2, 0), NOT_TOLD);
        d.x.gives(0, 1, 5);
        due("EDITORS don't matter", d.x.whose(0, 1), 15);
    }

    private static void men() {
        promise = 35;
        Desk d = Desk.with(2, 1);
        d.x.author(5, 5);
        d.x.work(1, 5);
        due("no BIT", d.x.men(0, 0), NOT_TOLD);
        d.bit(0, -1, 0, 0, 1);
        d.bit(0, 0, 0, 0, 1, 2, 2);
        due("one BIT", d.x.men(0, 0), 0);
        due("one BIT", d.x.men(0, 1), 0);
        d.bit(0, 1, 0, 0, 2, 2, 1);
        due("one man", d.x.men(0, 0), 0);
        due("4 and two WORDS", d.x.men(0, 1), 6);
        d.bit(0, 0, 0, 9, 2);
        due("the second", d.x.men(0, 0), 8);
        due("6, 4 and 4", d.x.men(0, 1), 14);
        d.bit(0, 0, 0, 8, 3);
        due("two and two", d.x.men(0, 0), 24);
        due("what it comes to", d.x.men(0, 1), 14 + 3 + 4 + 4);
        due("of the other AUTHOR", d.x.men(1, 0), NOT_TOLD);
        due("no such AUTHOR", d.x.men(2, 0), NOT_TOLD);
        due("what 2", d.x.men(0, 2), NOT_TOLD);
        due("what -1", d.x.men(0, -1), NOT_TOLD);
        // SUBJECTS four apart, no WORD in common: any cut is alike.
        Desk e = Desk.with(1, 1);
        e.bit(0, 0, 0, 0, 1);
        e.bit(0, 0, 0, 4, 2);
        due("of like ones the least set", e.x.men(0, 0), 0);
        Desk f = Desk.with(1, 1);
        f.bit(0, 0, 0, 0, 1);
        f.bit(0, 0, 0, 5, 2);
        due("apart", f.x.men(0, 0), 2);
        due("apart", f.x.men(0, 1), 1);
        for (int i = 2; i < 10; i++) f.bit(0, 0, 0, 5, 2);
        due("ten", f.x.men(0, 0), 1022);
        due("ten", f.x.men(0, 1), 9 + 36 * 5);
        f.bit(0, 0, 0, 0, 1);
        due("eleven", f.x.men(0, 0), NOT_TOLD);
    }

    private static void gives() {
        promise = 36;
        Desk d = Desk.with(2, 1);
        d.bit(0, 0, 0, 0, 1);
        due("no such BIT", d.x.gives(1, 0, 0), false);
        due("no such WORK", d.x.gives(0, 2, 0), false);
        due("WORK -2", d.x.gives(0, -2, 0), false);
        due("YEAR -1", d.x.gives(0, 0, -1), false);
        due("YEAR 2001", d.x.gives(0, 0, 2001), false);
        due("YEAR 10", d.x.gives(0, 1, 10), true);
        due("the same YEAR", d.x.gives(0, -1, 10), true);
        due("a YEAR before", d.x.gives(0, 1, 9), false);
        due("the one given last", d.x.given(0, 10), NONE);
        for (int g = 2; g < 60; g++) due("gift " + g, d.x.gives(0, 1, 2000), true);
        due("60 times", d.x.gives(0, 0, 2000), false);
        due("the last", d.x.given(0, 2000), 1);
    }

    private static void given() {
        promise = 37;
        Desk d = Desk.with(2, 1);
        d.bit(0, 0, 0, 0, 1);
        d.bit(0, -1, 0, 0, 1);
        d.x.gives(0, 1, 10);
        d.x.gives(1, 0, 10);
        d.x.gives(0, -1, 20);
        d.x.gives(0, 0, 20);
        d.x.gives(0, 1, 30);
        int[][] want = {{0, 0}, {9, 0}, {10, 1}, {19, 1}, {20, 0}, {29, 0}, {30, 1}, {2000, 1}};
        for (int[] w : want) due("in " + w[0], d.x.given(0, w[0]), w[1]);
        due("none", d.x.given(1, 9), NONE);
        due("the other", d.x.given(1, 10), 0);
        due("no such BIT", d.x.given(2, 5), -2);
        due("YEAR -1", d.x.given(0, -1), -2);
        due("YEAR 2001", d.x.given(0, 2001), -2);
        due("what was told first stays", d.x.bitIs(0, 1), 0);
    }

    private static void wrongs() {
        promise = 38;
        Desk d = new Desk();
        d.x.author(100, 1);
        d.x.author(101, 1);
        d.x.work(0, 5);
        d.x.work(1, 5);
        d.x.writer(100);
        d.bit(0, 0, 5, 0, 1);
        d.bit(0, 0, 6, 0, 1);
        d.bit(0, 1, 5, 0, 1);
        d.bit(0, -1, 40, 0, 1);
        due("as told first", d.x.wrong(0), 6);
        d.x.gives(1, -1, 10);
        d.x.gives(2, 0, 20);
        d.x.gives(3, 0, 30);
        due("in 9", d.x.wrong(9), 6);
        due("in 10", d.x.wrong(10), 4);
        due("in 20", d.x.wrong(20), 0);
        due("in 2000", d.x.wrong(2000), 8);
        due("YEAR -1", d.x.wrong(-1), -1);
        due("YEAR 2001", d.x.wrong(2001), -1);
        for (int i = 4; i < 40; i++) d.bit(0, 1, 0, 0, 1);
        due("bit 39", d.x.wrong(0), 6 | ((1L << 36) - 1) << 4);
    }

    private static void moves() {
        promise = 39;
        Desk d = Desk.with(2, 1);
        d.bit(0, 0, 1, 0, 1);
        due("alone", d.x.moves(0), 0);
        d.bit(0, 0, 2, 0, 1);
        d.bit(0, 0, 3, 0, 1);
        d.plan("p5(b+1=c);p0-3(0=0)");
        due("the middle", d.x.moves(1), 13);
        due("the end", d.x.moves(2), 5);
        d.x.ahead(2, 0);
        d.x.ahead(0, 1);
        // 2 0 1: -3 + 5; without 0: 1 2; without 1: 2 0.
        due("the one of two pairs", d.x.moves(0), 2 - 5);
        due("the last", d.x.moves(1), 2 + 3);
        d.bit(0, -1, 3, 0, 1);
        due("of no WORK", d.x.moves(3), NOT_TOLD);
        due("no such BIT", d.x.moves(4), NOT_TOLD);
        due("BIT -1", d.x.moves(-1), NOT_TOLD);
        d.x.ahead(1, 2);
        due("none can be with it", d.x.moves(1), NOT_TOLD);
        for (int i = 0; i < 10; i++) d.bit(0, 1, i, 0, 1);
        due("ten", d.x.moves(13), 5);
        d.bit(0, 1, 20, 0, 1);
        due("eleven with it", d.x.moves(14), NOT_TOLD);
    }

    private static void check() {
        promise = 40;
        Desk d = Desk.with(0, 1);
        d.bit(0, -1, 0, 0, 1, 2, 63);
        due("right", d.numbers(1, 2, 63).x.check(0, 3), NONE);
        due("the tape is empty", d.x.count(5), 0);
        due("the first is not so", d.numbers(2, 2, 63).x.check(0, 3), 0);
        due("the last", d.numbers(1, 2, 62).x.check(0, 3), 2);
        due("above a byte", d.numbers(1, 256 + 2, 63).x.check(0, 3), 1);
        due("below 0", d.numbers(1, -2, 63).x.check(0, 3), 1);
        for (int shift = 8; shift < 32; shift++) {
            due("with bit " + shift, d.numbers(1, 2, 63 | 1 << shift).x.check(0, 3), 2);
        }
        due("some are lacking", d.numbers(1, 2).x.check(0, 2), 2);
        due("all are lacking", d.numbers(1).x.check(0, 0), 0);
        due("the tape is empty", d.x.count(5), 0);
        due("one too many", d.numbers(1, 2, 63, 0).x.check(0, 4), 3);
        due("no such BIT", d.numbers(1, 2, 63).x.check(1, 1), -2);
        due("BIT -1", d.x.check(-1, 1), -2);
        due("no such BIT, n 0", d.x.check(1, 0), -2);
        due("it has not so many", d.x.check(0, 6), -2);
        due("not so many of an int that wraps", d.x.check(0, 1 << 30), -2);
        due("n below 0", d.x.check(0, -1), -2);
        due("the tape stays", d.x.count(5), 20);
        due("five numbers", d.x.check(0, 5), 3);
    }

    private static void count() {
        promise = 41;
        Desk d = Desk.with(2, 3);
        d.x.author(3, 3);
        d.left(1, 5, 6, 7);
        d.bit(0, 0, 1, 0, 1);
        d.bit(0, 0, 1, 0, 1);
        d.bit(0, 0, 1, 0, 1);
        d.bit(0, 0, 1, 0, 1);
        d.x.seed(77);
        d.plan("p1(0=0)");
        d.habit("h1(0=0);h1(0=0)");
        d.table("g1(0=0);g1(0=0);g1(0=0)");
        d.way(2, "d0(0=0);c0(0=0);n0(0=0);n1(0=0)");
        d.x.ahead(0, 1);
        d.x.ahead(1, 2);
        d.bytes(new int[21]);
        int[] want = {2, 2, 3, 4, 77, 40, 1, 2, 3, 2, 0, 0, 4, -1, -1, -1, -1, -1, -1, -1, 0, 3, -1};
        for (int what = 0; what < want.length; what++) due("what " + what, d.x.count(what), want[what]);
        due("what -1", d.x.count(-1), NONE);
        due("what 28", d.x.count(28), NONE);
        due("far off", d.x.count(Integer.MAX_VALUE), NONE);
        due("far off", d.x.count(Integer.MIN_VALUE), NONE);
    }
}
