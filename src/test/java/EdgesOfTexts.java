/** The edges that the document names for TEXTS: how they are read, their FAULTS, and what they come to. */
public final class EdgesOfTexts {
    private static final int NONE = QuotedBooks.NONE;
    private static final int MIN = Integer.MIN_VALUE;
    private static final int MAX = Integer.MAX_VALUE;
    private static final String LETTERS = "bciklmnpstwxyz";
    private static final String[] HEADS = {"dcn", "p", "h", "g"};
    private static final Sheet s = new Sheet();

    public static void main(String[] args) {
        howManyBytes();
        noBlanks();
        noneAtFirst();
        twelveClauses();
        signBetweenTwo();
        firstWhoseCHolds();
        headsOfEach();
        bounds();
        likewise();
        inPlaceOfTheOneBefore();
        faultLeavesTheText();
        boundsOfWay();
        boundsOfPlan();
        boundsOfHabit();
        boundsOfTable();
        oneMustHold();
        allMust();
        pieces();
        fromTheLeftOn();
        digits();
        lettersOfWay();
        lettersOfPlan();
        lettersOfHabit();
        lettersOfTable();
        lettersThatMayStand();
        lettersThatAreZero();
        thirtyTwoBits();
        dividedByZeroInE();
        dividedByZeroInC();
        asMuchAsMatters();
        theEnd();
        whatCantStand();
        sixthDigit();
        thirteenth();
        seventhOpen();
        openTillThePieceEnds();
        eStandsAhead();
        firstFromTheLeft();
        s.end("the edges of TEXTS");
    }

    /** Reads a TEXT as 0 the WAY of WRITER 0, 1 THE PLAN, 2 THE HABIT, 3 THE TABLE. */
    private static int read(Desk d, int kind, String text) {
        switch (kind) {
            case 0: return d.way(0, text);
            case 1: return d.plan(text);
            case 2: return d.habit(text);
            default: return d.table(text);
        }
    }

    private static int readBytes(Desk d, int kind, int n) {
        switch (kind) {
            case 0: return d.x.way(0, n);
            case 1: return d.x.plan(n);
            case 2: return d.x.habit(n);
            default: return d.x.table(n);
        }
    }

    private static int clauses(Desk d, int kind) {
        return d.x.count(kind == 0 ? 10 : 5 + kind);
    }

    private static String long160(char head) {
        return head + "1+".repeat(76) + "11(0=0)";
    }

    /** Two BITS of which the second one must come behind the first: THE ORDER's POINTS are p's. */
    private static Desk pair() {
        Desk d = Desk.with(1, 2);
        d.bit(0, 0, 3, 2, 1);
        d.bit(1, 0, 5, 7, 1, 2, 3);
        d.x.ahead(0, 1);
        return d;
    }

    private static void pointsAre(Desk d, String text, int want) {
        int read = d.plan(text);
        if (read < 1) s.fault(text + " answered " + read);
        s.due(text, d.x.order(0, NONE), want);
    }

    private static void howManyBytes() {
        s.says("TEXTS: at most 160 bytes");
        for (int kind = 0; kind < 4; kind++) {
            Desk d = Desk.with(1, 1);
            char head = HEADS[kind].charAt(0);
            String text = long160(head);
            s.due("how many bytes", text.length(), 160);
            d.bytes(new int[180]);
            for (int n : new int[] {0, -1, 161, MIN, MAX}) {
                s.due("kind " + kind + ", n " + n, readBytes(d, kind, n), NONE);
                s.due("the tape stays", d.x.count(5), 180);
            }
            s.due("n 1 is read: a FAULT", readBytes(d, kind, 1), -1000);
            s.due("the tape is empty", d.x.count(5), 0);
            s.due("161 bytes", read(d, kind, head + "1" + text.substring(1)), NONE);
            d.empty();
            s.due("160 bytes", read(d, kind, text), 1);
            s.due("CLAUSES", clauses(d, kind), 1);
        }
    }

    private static void noBlanks() {
        s.says("no blanks (none at first)");
        Desk d = Desk.with(1, 1);
        String text = "p1+b(!(1<c|2=2)&[3]>4);p2(0=0)";
        s.due("without one", d.plan(text), 2);
        for (int place = 0; place <= text.length(); place++) {
            String blank = text.substring(0, place) + " " + text.substring(place);
            s.due("a blank at " + place, d.plan(blank), -1000 - place);
        }
    }

    private static void noneAtFirst() {
        s.says("(none at first)");
        Desk d = pair();
        d.left(0, 10, 20);
        for (int what = 6; what < 9; what++) s.due("CLAUSES", d.x.count(what), 0);
        s.due("CLAUSES of WRITER 0", d.x.count(10), 0);
        s.due("CLAUSES of WRITER 1", d.x.count(11), 0);
        s.due("THE PLAN: 0", d.x.order(0, NONE), 0);
        s.due("THE HABIT: 0", d.x.whose(0, 1), 0);
        s.due("THE TABLE: 0", d.x.truth(1, 3, 3), 0);
        s.due("THE WAY", d.x.quote(0, 0, 0, 1, 0), 2);
        s.due("nothing is dropped", d.x.bitIs(2, 4), 2);
        s.due("nothing is changed", d.x.bitIs(2, 10), 10);
        s.due("the BOOK as it is", d.x.bitIs(2, 2), 1);
    }

    private static String clausesOf(char head, int number) {
        StringBuilder text = new StringBuilder();
        for (int c = 0; c < number; c++) text.append(c == 0 ? "" : ";").append(head).append(c).append("(0=0)");
        return text.toString();
    }

    private static void twelveClauses() {
        s.says("CLAUSES (12 at most)");
        for (int kind = 0; kind < 4; kind++) {
            Desk d = Desk.with(1, 1);
            for (char head : HEADS[kind].toCharArray()) {
                for (int number : new int[] {1, 2, 11, 12}) {
                    s.due(head + ", " + number, read(d, kind, clausesOf(head, number)), number);
                    s.due("CLAUSES", clauses(d, kind), number);
                }
                String text = clausesOf(head, 13);
                s.due("13", read(d, kind, text), -4000 - text.lastIndexOf(head));
                s.due("CLAUSES still", clauses(d, kind), 12);
            }
        }
        Desk d = pair();
        StringBuilder text = new StringBuilder();
        for (int c = 1; c < 12; c++) text.append("p").append(c).append("(0=1);");
        pointsAre(d, text + "p77(0=0)", 77);
    }

    private static void signBetweenTwo() {
        s.says("with a ; (59) between two");
        Desk d = Desk.with(1, 1);
        s.due("one", d.plan("p1(0=0);p2(0=0)"), 2);
        for (char sign : new char[] {58, 60, 44, 0, 187}) s.due("sign " + (int) sign, d.plan("p1(0=0)" + sign + "p2(0=0)"), -1007);
        s.due("none", d.plan("p1(0=0)p2(0=0)"), -1007);
        s.due("two", d.plan("p1(0=0);;p2(0=0)"), -1008);
        s.due("one ahead", d.plan(";p1(0=0)"), -1000);
        s.due("one behind", d.plan("p1(0=0);"), -1008);
    }

    private static void firstWhoseCHolds() {
        s.says("of the first one of a letter whose C holds the E");
        Desk d = pair();
        pointsAre(d, "p1(0=0);p2(0=0)", 1);
        pointsAre(d, "p1(0=1);p2(0=0)", 2);
        pointsAre(d, "p1(0=1);p2(0=1);p3(0=0);p4(0=0)", 3);
        pointsAre(d, "p1(0=1);p2(0=1)", 0);
        d.left(0, 10);
        d.way(0, "n1(0=0);c1000(0=0);d0(0=0);n2(0=0);d1000(0=0)");
        s.due("a letter's own first one", d.x.quote(0, 0, 0, 0, 0), 2);
        s.due("n", d.x.bitIs(2, 2), 2);
        s.due("c", d.x.bitIs(2, 10), 11);
    }

    private static void headsOfEach() {
        s.says("a letter, E, and (C)");
        for (int kind = 0; kind < 4; kind++) {
            Desk d = Desk.with(0, 1);
            for (int sign = 0; sign < 256; sign++) {
                boolean may = sign != 0 && HEADS[kind].indexOf(sign) >= 0;
                if (sign >= 32 && sign < 128 || sign % 16 == 0) {
                    s.due("kind " + kind + ", sign " + sign, read(d, kind, (char) sign + "1(0=0)"), may ? 1 : -1000);
                }
            }
            char head = HEADS[kind].charAt(0);
            s.due("without an E", read(d, kind, head + "(0=0)"), -1001);
            s.due("without a C", read(d, kind, head + "1"), -1002);
            s.due("an empty C", read(d, kind, head + "1()"), -1003);
        }
    }

    private static void bounds() {
        s.says("(below its bounds: the least; above: the most; none: 0)");
        Desk d = pair();
        pointsAre(d, "p1000(0=0)", 1000);
        pointsAre(d, "p1001(0=0)", 1000);
        pointsAre(d, "p0-1000(0=0)", -1000);
        pointsAre(d, "p0-1001(0=0)", -1000);
        pointsAre(d, "p1001(0=1)", 0);
        pointsAre(d, "p1001(0=0);p5(0=0)", 1000);
        d.table("g0-5(0=0)");
        s.due("the least is 0", d.x.truth(1, 1, 1), 0);
        d.habit("h5(0=1)");
        s.due("none", d.x.whose(0, 1), 0);
    }

    private static void likewise() {
        String[] quotes = {"THE WAY of a WRITER by the first n bytes of the tape (1 to 160; empty then)", "THE PLAN likewise.",
            "THE HABIT likewise.", "THE TABLE likewise."};
        for (int kind = 0; kind < 4; kind++) {
            s.says(quotes[kind]);
            Desk d = Desk.with(1, 1);
            char head = HEADS[kind].charAt(0);
            s.due("none at first", clauses(d, kind), 0);
            s.due("two CLAUSES", read(d, kind, head + "1(0=0);" + head + "2(0=0)"), 2);
            s.due("empty then", d.x.count(5), 0);
            s.due("a FAULT", read(d, kind, head + "1(0=0);" + head), -1009);
            s.due("empty then", d.x.count(5), 0);
            s.due("the TEXT before stays", clauses(d, kind), 2);
            s.due("it has not so many: one of none", readBytes(d, kind, 1), NONE);
            d.bytes(head, '1', '(', '0', '=', '0', ')');
            s.due("it has not so many: 21 of 20", readBytes(d, kind, 21), NONE);
            s.due("n 0", readBytes(d, kind, 0), NONE);
            s.due("the tape stays", d.x.count(5), 20);
            s.due("20 of 20: a FAULT behind the first seven", readBytes(d, kind, 20), -1007);
            d.bytes(head, '1', '(', '0', '=', '0', ')');
            s.due("in place of the one before", readBytes(d, kind, 7), 1);
            for (int other = 0; other < 4; other++) s.due("CLAUSES of " + other, clauses(d, other), other == kind ? 1 : 0);
        }
    }

    private static void inPlaceOfTheOneBefore() {
        s.says("in place of the one before: how many CLAUSES");
        Desk d = pair();
        pointsAre(d, "p1(0=1);p2(0=1);p3(0=0)", 3);
        pointsAre(d, "p4(0=1)", 0);
        s.due("CLAUSES", d.x.count(6), 1);
        s.due("WRITER 0's", d.way(0, "d1(0=0);c1(0=0)"), 2);
        s.due("WRITER 1's", d.way(1, "n1(0=0)"), 1);
        s.due("CLAUSES of WRITER 0", d.x.count(10), 2);
        s.due("WRITER 0's anew", d.way(0, "d1(0=0);c1(0=0);n1(0=0)"), 3);
        s.due("CLAUSES of WRITER 0", d.x.count(10), 3);
        s.due("CLAUSES of WRITER 1", d.x.count(11), 1);
    }

    private static void faultLeavesTheText() {
        s.says("a FAULT: -1000 times its number, less its place (the TEXT before stays)");
        for (int kind = 0; kind < 4; kind++) {
            Desk d = Desk.with(1, 1);
            char head = HEADS[kind].charAt(0);
            s.due("place 0", read(d, kind, "+"), -1000);
            s.due("none before", clauses(d, kind), 0);
            s.due("one", read(d, kind, head + "1(0=0)"), 1);
            s.due("the last place of 160", read(d, kind, long160(head).substring(0, 159) + "("), -1159);
            s.due("the tape is empty", d.x.count(5), 0);
            s.due("behind 160 bytes", read(d, kind, head + "1+".repeat(76) + "111(0=0"), -1160);
            s.due("the one before", clauses(d, kind), 1);
        }
        Desk d = pair();
        pointsAre(d, "p7(0=0)", 7);
        s.due("a FAULT at the very end", d.plan("p8(0=0);p9(0=0"), -1014);
        s.due("the TEXT before stays", d.x.order(0, NONE), 7);
        s.due("CLAUSES", d.x.count(6), 1);
    }

    /** A SEED after which the first LUCK is as asked. */
    private static int seedFor(int luck) {
        for (int seed = 0; seed < 65536; seed++) {
            if ((25173 * seed + 13849) % 65536 % 1000 == luck) return seed;
        }
        throw new IllegalStateException("no such LUCK");
    }

    /** The WORD (10 as it is) that comes out of a WAY by LUCK; -2: dropped. */
    private static int wordBy(Desk d, String text, int luck) {
        if (d.way(0, text) < 1) s.fault(text + " is not read");
        d.x.seed(seedFor(luck));
        int i = d.x.quote(0, 0, 0, 0, 0);
        return i < 0 ? i : d.x.bitIs(i, 10);
    }

    private static int bookBy(Desk d, String text) {
        if (d.way(0, text) < 1) s.fault(text + " is not read");
        int i = d.x.quote(0, 0, 0, 0, 0);
        return i < 0 ? i : d.x.bitIs(i, 2);
    }

    private static void boundsOfWay() {
        s.says("d thousandths by which a WORD is dropped, c by which it is changed (0 to 1000 each), n how much the BOOK's number slips (-9 to 9)");
        Desk d = Desk.with(0, 1);
        d.x.work(0, 40);
        d.bytes(10, 20).x.left(0, 1);
        s.due("d 1000, LUCK 999", wordBy(d, "d1000(0=0)", 999), -2);
        s.due("d 999, LUCK 999", wordBy(d, "d999(0=0)", 999), 10);
        s.due("d 99999, LUCK 999", wordBy(d, "d99999(0=0)", 999), -2);
        s.due("d 0, LUCK 0", wordBy(d, "d0(0=0)", 0), 10);
        s.due("d 1, LUCK 0", wordBy(d, "d1(0=0)", 0), -2);
        s.due("d -1 is 0: LUCK 4 is below 0 and 5", wordBy(d, "d0-1(0=0);c5(0=0)", 4), 11);
        s.due("d -1 is 0: LUCK 5 is not", wordBy(d, "d0-1(0=0);c5(0=0)", 5), 10);
        s.due("c 1000, LUCK 999", wordBy(d, "c1000(0=0)", 999), 11);
        s.due("c 999, LUCK 999", wordBy(d, "c999(0=0)", 999), 10);
        s.due("c 0, LUCK 0", wordBy(d, "c0(0=0)", 0), 10);
        s.due("c 1, LUCK 0", wordBy(d, "c1(0=0)", 0), 11);
        s.due("c -1, LUCK 0", wordBy(d, "c0-1(0=0)", 0), 10);
        s.due("c above 1000 is 1000, and 1", wordBy(d, "c65535*32767+32767+65535(0=0);d1(0=0)", 999), 11);
        String[] slips = {"n9(0=0)", "n10(0=0)", "n99999(0=0)", "n8(0=0)", "n0-9(0=0)", "n0-10(0=0)", "n0-99999(0=0)", "n0-8(0=0)", "n0(0=0)"};
        int[] books = {29, 29, 29, 28, 11, 11, 11, 12, 20};
        for (int t = 0; t < slips.length; t++) s.due(slips[t], bookBy(d, slips[t]), books[t]);
        s.due("none: 0", bookBy(d, "n5(0=1)"), 20);
        s.due("none: 0", wordBy(d, "d1000(0=1);c1000(0=1)", 0), 10);
    }

    private static void boundsOfPlan() {
        s.says("p POINTS of a BIT that comes right behind another one (-1000 to 1000)");
        Desk d = pair();
        pointsAre(d, "p1000(0=0)", 1000);
        pointsAre(d, "p1001(0=0)", 1000);
        pointsAre(d, "p999(0=0)", 999);
        pointsAre(d, "p0-1000(0=0)", -1000);
        pointsAre(d, "p0-1001(0=0)", -1000);
        pointsAre(d, "p0-999(0=0)", -999);
        pointsAre(d, "p32768*65535+32767(0=0)", 1000);
        pointsAre(d, "p32768*65536(0=0)", -1000);
        pointsAre(d, "p1000(0=1)", 0);
    }

    private static void boundsOfHabit() {
        s.says("h POINTS of a WORD for an AUTHOR (-1000 to 1000)");
        Desk d = pair();
        String[] texts = {"h1000(0=0)", "h1001(0=0)", "h999(0=0)", "h0-1000(0=0)", "h0-1001(0=0)", "h0-999(0=0)", "h1000(0=1)"};
        int[] want = {1000, 1000, 999, -1000, -1000, -999, 0};
        for (int t = 0; t < texts.length; t++) {
            d.habit(texts[t]);
            s.due(texts[t], d.x.whose(0, 1), want[t]);
            s.due(texts[t] + " of three WORDS", d.x.whose(1, 1), 3 * want[t]);
        }
    }

    private static void boundsOfTable() {
        s.says("g by how much a told BOOK speaks for a true one (0 to 100)");
        Desk d = pair();
        String[] texts = {"g100(0=0)", "g101(0=0)", "g99(0=0)", "g0(0=0)", "g0-1(0=0)", "g1(0=0)", "g100(0=1)"};
        int[] want = {100, 100, 99, 0, 0, 1, 0};
        for (int t = 0; t < texts.length; t++) {
            d.table(texts[t]);
            s.due(texts[t], d.x.truth(1, 40, 40), want[t]);
            s.due(texts[t] + " of two BITS", d.x.truth(3, 40, 1), want[t] * want[t]);
        }
    }

    private static void oneMustHold() {
        s.says("PARTS with a | between two, one of which must hold");
        Desk d = pair();
        pointsAre(d, "p1(0=0)", 1);
        pointsAre(d, "p1(0=1|0=0)", 1);
        pointsAre(d, "p1(0=0|0=1)", 1);
        pointsAre(d, "p1(0=1|0=1)", 0);
        pointsAre(d, "p1(0=1|0=1|0=1|0=1|0=0)", 1);
        pointsAre(d, "p1(0=0|0=0|0=0)", 1);
        s.due("none behind it", d.plan("p1(0=0|)"), -1007);
        s.due("none ahead of it", d.plan("p1(|0=0)"), -1003);
    }

    private static void allMust() {
        s.says("PIECES with an & between two, all of which must");
        Desk d = pair();
        pointsAre(d, "p1(0=0&0=0)", 1);
        pointsAre(d, "p1(0=0&0=1)", 0);
        pointsAre(d, "p1(0=1&0=0)", 0);
        pointsAre(d, "p1(0=0&0=0&0=0&0=1)", 0);
        pointsAre(d, "p1(0=0&0=1|0=0)", 1);
        pointsAre(d, "p1(0=0|0=0&0=1)", 1);
        pointsAre(d, "p1((0=0|0=0)&0=1)", 0);
        s.due("none behind it", d.plan("p1(0=0&)"), -1007);
        s.due("none ahead of it", d.plan("p1(&0=0)"), -1003);
    }

    private static void pieces() {
        s.says("a PIECE: !PIECE, (C), or E, one of < > =, and E");
        Desk d = pair();
        pointsAre(d, "p1(!0=1)", 1);
        pointsAre(d, "p1(!0=0)", 0);
        pointsAre(d, "p1(!!0=0)", 1);
        pointsAre(d, "p1(!0=1&0=1)", 0);
        pointsAre(d, "p1(!0=0|0=0)", 1);
        pointsAre(d, "p1(!(0=0|0=0))", 0);
        pointsAre(d, "p1(2<3)", 1);
        pointsAre(d, "p1(3<3)", 0);
        pointsAre(d, "p1(4<3)", 0);
        pointsAre(d, "p1(2>3)", 0);
        pointsAre(d, "p1(3>3)", 0);
        pointsAre(d, "p1(4>3)", 1);
        pointsAre(d, "p1(2=3)", 0);
        pointsAre(d, "p1(3=3)", 1);
        pointsAre(d, "p1(4=3)", 0);
        pointsAre(d, "p1(0-1<0)", 1);
        s.due("no E alone", d.plan("p1(1)"), -1004);
        s.due("no two signs", d.plan("p1(1=1=1)"), -1006);
    }

    private static void fromTheLeftOn() {
        s.says("a TERM: FACTORS with one of * / % between two; from the left on");
        Desk d = pair();
        pointsAre(d, "p10-4-3(0=0)", 3);
        pointsAre(d, "p10-4+3(0=0)", 9);
        pointsAre(d, "p100/7/2(0=0)", 7);
        pointsAre(d, "p100/7*7(0=0)", 98);
        pointsAre(d, "p100%7*3(0=0)", 6);
        pointsAre(d, "p7*100%9(0=0)", 7);
        pointsAre(d, "p10-2*3(0=0)", 4);
        pointsAre(d, "p[10-2]*3(0=0)", 24);
        pointsAre(d, "p[0-7]/2(0=0)", -3);
        pointsAre(d, "p[0-7]%2(0=0)", -1);
        pointsAre(d, "p7%[0-2](0=0)", 1);
    }

    private static void digits() {
        s.says("a number of one to five digits");
        Desk d = pair();
        pointsAre(d, "p0(0=0)", 0);
        pointsAre(d, "p9(0=0)", 9);
        pointsAre(d, "p00042(0=0)", 42);
        pointsAre(d, "p99999/1000(0=0)", 99);
        pointsAre(d, "p99999-99000(0=0)", 999);
        pointsAre(d, "p1(99999=99999)", 1);
        for (char sign : new char[] {47, 58}) s.due("sign " + (int) sign, d.plan("p1" + sign + "(0=0)"), sign == 47 ? -1003 : -1002);
        s.due("a digit behind a letter", d.plan("pb1(0=0)"), -1002);
        s.due("a letter behind a digit", d.plan("p1b(0=0)"), -1002);
    }

    private static void lettersOfWay() {
        s.says("THE WAY: w the WORD, i its place in the stretch (0 on), l how many WORDS that has, b its BOOK, x LUCK, y the WRITER's YEAR, k the WORK, m the WRITER");
        Desk d = Desk.with(7, 7);
        d.x.work(0, 40);
        d.x.writer(999);
        int[] bytes = new int[24];
        for (int p = 0; p < 12; p++) {
            bytes[2 * p] = p == 0 ? 0 : p == 11 ? 63 : 30;
            bytes[2 * p + 1] = p < 11 ? 1 : 40;
        }
        d.bytes(bytes).x.left(7, 12);
        String[] texts = {"w=0", "w=63", "w<30", "w>30", "i=0", "i=11", "i>10", "i<1", "l=12", "b=1", "b=40", "y=999", "k=7", "m=7"};
        int[] kept = {1, 1, 1, 1, 1, 1, 1, 1, 8, 8, 1, 8, 8, 8};
        int[] first = {0, 63, 0, 63, 0, 63, 63, 0, 0, 0, 63, 0, 0, 0};
        for (int t = 0; t < texts.length; t++) {
            s.due(texts[t], d.way(7, "d1000(!" + texts[t] + ")"), 1);
            int bit = d.x.quote(7, 7, 0, 11, 0);
            s.due(texts[t] + ": WORDS", d.x.bitIs(bit, 4), kept[t]);
            s.due(texts[t] + ": the first", d.x.bitIs(bit, 10), first[t]);
        }
        for (int luck : new int[] {0, 999}) {
            d.way(7, "d1000(!x=" + luck + ")");
            d.x.seed(seedFor(luck));
            s.due("x " + luck, d.x.quote(7, 7, 0, 0, 0) >= 0, true);
        }
        d.way(7, "d1000(!l=1)");
        s.due("l 1", d.x.quote(7, 7, 5, 5, 0) >= 0, true);
        d.way(0, "d1000(!m=0|!y=100)");
        s.due("m 0, y 100", d.x.quote(0, 7, 5, 5, 0) >= 0, true);
    }

    private static void lettersOfPlan() {
        s.says("THE PLAN: b, c the BOOKS of the one and of the next, s, t their SUBJECTS, y, z YEARS of their WRITERS, l, i how many WORDS they have");
        Desk d = Desk.with(1, 0);
        d.x.writer(0);
        d.x.writer(999);
        d.bit(0, 0, 0, 0, 1);
        d.bit(1, 0, 40, 9, 1, 2, 3, 4, 5, 6, 7, 8);
        d.x.ahead(0, 1);
        String[] least = {"b=0", "s=0", "y=0", "l=1"};
        String[] most = {"c=40", "t=9", "z=999", "i=8"};
        for (int t = 0; t < 4; t++) {
            pointsAre(d, "p1(" + least[t] + ")", 1);
            pointsAre(d, "p1(" + most[t] + ")", 1);
        }
        Desk e = Desk.with(1, 0);
        e.x.writer(0);
        e.x.writer(999);
        e.bit(0, 0, 0, 0, 1);
        e.bit(1, 0, 40, 9, 1, 2, 3, 4, 5, 6, 7, 8);
        e.x.ahead(1, 0);
        for (String text : new String[] {"b=40", "c=0", "s=9", "t=0", "y=999", "z=0", "l=8", "i=1"}) pointsAre(e, "p1(" + text + ")", 1);
    }

    private static void lettersOfHabit() {
        s.says("THE HABIT: w the WORD, n how often the AUTHOR has it, t how many WORDS he has in all, p his PRIOR, i its place, y his YEAR");
        Desk d = new Desk();
        d.x.author(999, 100);
        d.x.writer(1);
        d.bit(0, NONE, 0, 0, 0, 63, 0, 0, 0, 0, 0, 63);
        String[] texts = {"hw(0=0)", "hn(0=0)", "ht(0=0)", "hp(0=0)", "hi(0=0)", "hy(0=0)", "h1(i=0)", "h1(i=7)", "h1(i>7)"};
        int[] want = {126, 0, 0, 800, 28, 7992, 1, 1, 0};
        for (int t = 0; t < texts.length; t++) {
            d.habit(texts[t]);
            s.due(texts[t], d.x.whose(0, 1), want[t]);
        }
        d.x.work(0, 9);
        int[] words = new int[40];
        for (int p = 0; p < 40; p++) words[p] = p == 39 ? 63 : 0;
        d.left(0, words);
        d.bit(0, 0, 0, 0, 63);
        d.habit("hn(0=0)");
        s.due("39 times 0, two times 63", d.x.whose(0, 1), 6 * 39 + 2 * 2);
        d.habit("ht(0=0)");
        s.due("41 in all", d.x.whose(0, 1), 8 * 41);
        Desk e = new Desk();
        e.x.author(0, 1);
        e.x.writer(1);
        e.bit(0, NONE, 0, 0, 5);
        e.habit("h1(y=0&p=1)");
        s.due("YEAR 0, PRIOR 1", e.x.whose(0, 1), 1);
    }

    private static void lettersOfTable() {
        s.says("THE TABLE: b the told BOOK, c the true one, n how many BOOKS there are.");
        Desk d = Desk.with(1, 1);
        d.bit(0, 0, 1, 0, 1);
        d.bit(0, 0, 40, 0, 1);
        d.table("gb(0=0)");
        s.due("b 1", d.x.truth(1, 1, 1), 1);
        s.due("b 40", d.x.truth(2, 1, 1), 40);
        d.table("gc(0=0)");
        s.due("c 1", d.x.truth(2, 40, 1), 1);
        s.due("c 40", d.x.truth(1, 40, 40), 40);
        s.due("all together", d.x.truth(1, 40, 0), 820);
        d.table("gn(0=0)");
        s.due("n 1", d.x.truth(2, 1, 1), 1);
        s.due("n 40", d.x.truth(1, 40, 1), 40);
    }

    private static void lettersThatMayStand() {
        s.says("all letters of all four may stand in each.)");
        for (int kind = 0; kind < 4; kind++) {
            Desk d = Desk.with(0, 1);
            char head = HEADS[kind].charAt(0);
            for (char letter = 'A'; letter <= 'z'; letter++) {
                if (letter > 'Z' && letter < 'a') continue;
                boolean may = LETTERS.indexOf(letter) >= 0;
                s.due("kind " + kind + ", " + letter + " in an E", read(d, kind, head + "" + letter + "(0=0)"), may ? 1 : -1001);
                s.due("kind " + kind + ", " + letter + " in a C", read(d, kind, head + "1(" + letter + "=0)"), may ? 1 : -1003);
            }
        }
    }

    private static void lettersThatAreZero() {
        s.says("(Letters that are not its own are 0;");
        Desk d = pair();
        for (char letter : "wxkmnp".toCharArray()) pointsAre(d, "p1(" + letter + "=0)", 1);
        for (char letter : "bcklmsxz".toCharArray()) {
            d.habit("h1(" + letter + "=0)");
            s.due("THE HABIT, " + letter, d.x.whose(1, 1), 3);
        }
        for (char letter : "iklmpstwxyz".toCharArray()) {
            d.table("g1(" + letter + "=0)");
            s.due("THE TABLE, " + letter, d.x.truth(2, 9, 9), 1);
        }
        d.left(0, 7, 8, 9);
        for (char letter : "cnpstz".toCharArray()) {
            d.way(1, "n5(" + letter + "=0)");
            int bit = d.x.quote(1, 0, 1, 2, 5);
            s.due("THE WAY, " + letter, d.x.bitIs(bit, 2), 6);
        }
    }

    private static void thirtyTwoBits() {
        s.says("All is reckoned with 32 bits, as the machine does");
        Desk d = pair();
        // 32768 * 65535 + 32767 is the greatest; one more is the least.
        pointsAre(d, "p1(32768*65535+32767>0)", 1);
        pointsAre(d, "p1(32768*65535+32768<0)", 1);
        pointsAre(d, "p1(32768*65536=0-32768*65535-32768)", 1);
        pointsAre(d, "p1(0-32768*65536=32768*65536)", 1);
        pointsAre(d, "p1(32768*65536-1=32768*65535+32767)", 1);
        pointsAre(d, "p1(65536*65536=0)", 1);
        pointsAre(d, "p1(46341*46341<0)", 1);
        pointsAre(d, "p1(46340*46340>0)", 1);
        pointsAre(d, "p32768*65536/[0-1]/32768/100(0=0)", -655);
        pointsAre(d, "p32768*65536%[0-1]+3(0=0)", 3);
        pointsAre(d, "p1(32768*65536/[0-1]=32768*65536)", 1);
    }

    private static void dividedByZeroInE() {
        s.says("what is divided by 0 is REFUSED");
        Desk d = pair();
        for (String text : new String[] {"p1/0(0=0)", "p1%0(0=0)", "p0/0(0=0)", "p5+1/0(0=0)", "p1/0+5(0=0)", "p5+[1/[2-2]](0=0)",
                "p[5%w]*0+7(0=0)", "p7-0*[1/0](0=0)"}) {
            pointsAre(d, text, 0);
        }
        pointsAre(d, "p1/0(0=0);p2(0=0)", 0);
        pointsAre(d, "p1/0(0=1);p2(0=0)", 2);
        pointsAre(d, "p1/1(0=0)", 1);
        pointsAre(d, "p0/1+6(0=0)", 6);
        pointsAre(d, "p5%[0-1]+6(0=0)", 6);
        d.left(0, 7);
        d.way(0, "n9/0(0=0);c1000/0(0=0);d1000%0(0=0)");
        int bit = d.x.quote(0, 0, 0, 0, 0);
        s.due("c and d are 0", d.x.bitIs(bit, 10), 7);
        s.due("n is 0", d.x.bitIs(bit, 2), 1);
    }

    private static void dividedByZeroInC() {
        s.says("then the C as a whole does not hold (through any !, ( ) and |), an E is 0.");
        Desk d = pair();
        for (String text : new String[] {"1/0=0", "1%0=0", "0=1/0", "!1/0=0", "!!1/0=0", "(1/0=0)", "!(1/0=0)", "1/0=0|0=0", "(1/0=0)|0=0",
                "!(1/0=0)|0=0", "!(0=0&1/0=0)|0=0", "((1/0=0|0=0))|0=0", "0=0&1/0=0|0=0", "0=1|1/0=0|0=0", "0=[1+1/0]*0|0=0"}) {
            pointsAre(d, "p1(" + text + ")", 0);
            pointsAre(d, "p1(" + text + ");p2(0=0)", 2);
        }
    }

    private static void asMuchAsMatters() {
        s.says("Of a C as much is asked, from the left, as matters.");
        Desk d = pair();
        pointsAre(d, "p1(0=0|1/0=0)", 1);
        pointsAre(d, "p1(!(0=1&1/0=0))", 1);
        pointsAre(d, "p1(0=1&1/0=0|0=0)", 1);
        pointsAre(d, "p1(0=1&0=0&1/0=0|0=0)", 1);
        pointsAre(d, "p1(0=1&(1/0=0|0=0)|0=0)", 1);
        pointsAre(d, "p1((0=0|1/0=0)&0=0)", 1);
        pointsAre(d, "p1((0=0|1/0=0)&1/0=0)", 0);
        pointsAre(d, "p1(0=0&0=0|1/0=0)", 1);
        pointsAre(d, "p1(0=1|0=0|1/0=0)", 1);
        pointsAre(d, "p1(!0=1|1/0=0)", 1);
        pointsAre(d, "p1(!0=0&1/0=0|0=0)", 1);
        pointsAre(d, "p1(0=1|1/0=0)", 0);
        pointsAre(d, "p1(0=0&1/0=0)", 0);
    }

    private static void theEnd() {
        s.says("FAULTS, the first from the left: 1 what can't stand there (the end, too)");
        Desk d = Desk.with(0, 1);
        String text = "p1+b*[2-c](!(1<c|2=2)&3>4);p[2](0=0)";
        s.due("all of it", d.plan(text), 2);
        for (int end = 1; end < text.length(); end++) {
            boolean stands = text.charAt(end) == ';';
            s.due("the end at " + end, d.plan(text.substring(0, end)), stands ? 1 : -1000 - end);
        }
        s.due("the end right behind 99999", d.plan("p99999"), -1006);
        d.bytes('p', '1', '(', '0', '=', '0', ')');
        s.due("the end is told by n", d.x.plan(6), -1006);
    }

    private static void whatCantStand() {
        s.says("1 what can't stand there (the end, too);");
        Desk d = Desk.with(0, 1);
        String[] texts = {
            "P1(0=0)", "p-1(0=0)", "p+1(0=0)", "p(1)(0=0)", "p1+(0=0)", "p1+*1(0=0)", "p1)(0=0)", "p1[2](0=0)", "p[1)(0=0)", "p[](0=0)",
            "p[1](0=0]", "p1(0=0))", "p1((0=0)", "p1((0=0)=0)", "p1([0=0])", "p1(0!0)", "p1(!)", "p1(0=!0)", "p1(0<=0)", "p1(0=0&)",
            "p1(0=0|)", "p1(0=0!0=0)", "p1(0=0;0=0)", "p1(0=0);1", "p1.(0=0)", "p1(0=)", "p1(=0)", "p1{0=0}",
        };
        int[] places = {0, 1, 1, 1, 3, 3, 2, 2, 3, 2, 8, 7, 8, 8, 5, 4, 4, 5, 5, 7, 7, 6, 6, 8, 2, 5, 3, 2};
        for (int t = 0; t < texts.length; t++) s.due(texts[t], d.plan(texts[t]), -1000 - places[t]);
        for (int sign : new int[] {0, 10, 32, 127, 128, 176, 255}) {
            s.due("sign " + sign, d.plan("p" + (char) sign + "(0=0)"), -1001);
        }
    }

    private static void sixthDigit() {
        s.says("2 a sixth digit, at it;");
        for (int kind = 0; kind < 4; kind++) {
            Desk d = Desk.with(0, 1);
            char head = HEADS[kind].charAt(0);
            s.due("five", read(d, kind, head + "12345(0=0)"), 1);
            s.due("six", read(d, kind, head + "123456(0=0)"), -2006);
            s.due("six of 0", read(d, kind, head + "000000(0=0)"), -2006);
            s.due("ten", read(d, kind, head + "1234567890(0=0)"), -2006);
            s.due("in a C", read(d, kind, head + "1(0=123456)"), -2010);
            s.due("in [ ]", read(d, kind, head + "[123456](0=0)"), -2007);
            s.due("five, a sign, and five", read(d, kind, head + "12345+12345(12345=12345)"), 1);
            s.due("a sixth at the end", read(d, kind, head + "123456"), -2006);
        }
    }

    private static void thirteenth() {
        s.says("4 a 13th CLAUSE, at its letter (if that can stand there)");
        for (int kind = 0; kind < 4; kind++) {
            Desk d = Desk.with(0, 1);
            char head = HEADS[kind].charAt(0);
            String twelve = (head + "1(0=0);").repeat(12);
            s.due("its letter alone", read(d, kind, twelve + head), -4096);
            s.due("and what can't stand behind", read(d, kind, twelve + head + "+"), -4096);
            for (char no : "qaz;(".toCharArray()) s.due("no letter of it", read(d, kind, twelve + no), -1096);
            s.due("the end", read(d, kind, twelve), -1096);
            s.due("twelve", read(d, kind, twelve.substring(0, 95)), 12);
        }
        Desk d = Desk.with(0, 1);
        s.due("another of its letters", d.way(0, "d1(0=0);".repeat(12) + "n1(0=0)"), -4096);
        s.due("a letter of another TEXT", d.way(0, "d1(0=0);".repeat(12) + "p1(0=0)"), -1096);
    }

    private static void seventhOpen() {
        s.says("5 a seventh of ( [ ! that are open in one another, at it (the ( of the CLAUSE counts");
        for (int kind = 0; kind < 4; kind++) {
            Desk d = Desk.with(0, 1);
            char head = HEADS[kind].charAt(0);
            for (int deep = 1; deep <= 8; deep++) {
                String round = "(".repeat(deep) + "0=0" + ")".repeat(deep);
                s.due(deep + " (", read(d, kind, head + "1" + round), deep < 7 ? 1 : -5008);
                String not = "(" + "!".repeat(deep - 1) + "0=0)";
                s.due(deep - 1 + " ! in one (", read(d, kind, head + "1" + not), deep < 7 ? 1 : -5008);
                String square = "(" + "[".repeat(deep - 1) + "0" + "]".repeat(deep - 1) + "=0)";
                s.due(deep - 1 + " [ in one (", read(d, kind, head + "1" + square), deep < 7 ? 1 : -5008);
                String behind = "(0=" + "[".repeat(deep - 1) + "0" + "]".repeat(deep - 1) + ")";
                s.due(deep - 1 + " [ behind the =", read(d, kind, head + "1" + behind), deep < 7 ? 1 : -5010);
            }
            s.due("of all kinds: six", read(d, kind, head + "1(!(!([0]=0)))"), 1);
            s.due("of all kinds: a seventh", read(d, kind, head + "1(!(!([[0]]=0)))"), -5008);
            s.due("a seventh that stands at the end", read(d, kind, head + "1((((((("), -5008);
        }
        Desk d = pair();
        pointsAre(d, "p[[[[[[7]]]]]]((((((3=3))))))", 7);
        pointsAre(d, "p7(!!!!!3=3)", 0);
    }

    private static void openTillThePieceEnds() {
        s.says("a ! is open till its PIECE ends");
        Desk d = Desk.with(0, 1);
        s.due("in its E's", d.plan("p1(!!!!![0]=0)"), -5008);
        s.due("behind its =", d.plan("p1(!!!!!0=[0])"), -5010);
        s.due("not behind an &", d.plan("p1(!!!!!0=0&!!!!!0=0)"), 1);
        s.due("nor behind a |", d.plan("p1(!!!!!0=0|[[[[[0]]]]]=0)"), 1);
        s.due("nor in the next CLAUSE", d.plan("p1(!!!!!0=0);p[[[[[[1]]]]]](!!!!!0=0)"), 2);
        s.due("( ) and [ ] that are shut", d.plan("p1((0=0)&((((0=0))))&[0]+[[[[[0]]]]]=[0])"), 1);
        s.due("the ( of a !'s PIECE", d.plan("p1(!(!(!(0=0))))"), -5008);
    }

    private static void eStandsAhead() {
        s.says("the E of a CLAUSE stands ahead of it)");
        Desk d = Desk.with(0, 1);
        s.due("six [", d.plan("p[[[[[[1]]]]]](0=0)"), 1);
        s.due("seven [", d.plan("p[[[[[[[1]]]]]]](0=0)"), -5007);
        s.due("six [ two times", d.plan("p[[[[[[1]]]]]]+[[[[[[1]]]]]](0=0)"), 1);
        s.due("in the second CLAUSE", d.plan("p1(0=0);p[[[[[[[1"), -5015);
    }

    private static void firstFromTheLeft() {
        s.says("FAULTS, the first from the left");
        Desk d = Desk.with(0, 1);
        s.due("2 ahead of 1", d.plan("p123456x+"), -2006);
        s.due("1 ahead of 2", d.plan("p+123456"), -1001);
        s.due("5 ahead of 2", d.plan("p[[[[[[[123456"), -5007);
        s.due("2 ahead of 5", d.plan("p123456+[[[[[[["), -2006);
        s.due("1 ahead of 4", d.plan("p1(0=0);".repeat(11) + "p1(0=0)p"), -1095);
        s.due("4 ahead of 2", d.plan("p1(0=0);".repeat(12) + "p123456"), -4096);
        s.due("what is a seventh but can't stand there", d.plan("p[[[[[[("), -1007);
        s.due("what is a sixth digit of no number", d.plan("p12345(123456=0)"), -2012);
    }
}
