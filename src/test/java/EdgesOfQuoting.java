/** The edges that the document names for what is QUOTED, how FAR and NEAR BITS are, and WHAT STOOD THERE. */
public final class EdgesOfQuoting {
    private static final int NONE = QuotedBooks.NONE;
    private static final int MIN = Integer.MIN_VALUE;
    private static final int MAX = Integer.MAX_VALUE;
    private static final Sheet s = new Sheet();

    public static void main(String[] args) {
        twelveWords();
        places();
        quotedOfWhat();
        goesOn();
        luck();
        droppedBelow();
        changedBelow();
        oneAndModulo();
        eightKept();
        noneLeft();
        bookOfTheFirst();
        bookBelowAndAbove();
        bitIs();
        bitIsOthers();
        far();
        apart();
        oneWordAtLeast();
        firstBegin();
        thenLongest();
        nearness();
        near();
        nearnessOfWriter();
        noneOfZeroToTwo();
        sameNotMore();
        sameEdges();
        mostInOneOrder();
        likeRows();
        stood();
        s.end("the edges of what is quoted");
    }

    /** WORK 0 of 40 BOOKS with as many WORDS: WORD and BOOK at place p are p and p + 1; WRITERS as asked. */
    private static Desk forty(int writers) {
        Desk d = Desk.with(0, writers);
        d.x.work(0, 40);
        int[] bytes = new int[80];
        for (int p = 0; p < 40; p++) {
            bytes[2 * p] = p;
            bytes[2 * p + 1] = p + 1;
        }
        d.bytes(bytes).x.left(0, 40);
        return d;
    }

    private static int next(int x) {
        return (int) ((25173L * x + 13849) % 65536);
    }

    private static int seedFor(int luck) {
        for (int seed = 0; seed < 65536; seed++) if (next(seed) % 1000 == luck) return seed;
        throw new IllegalStateException("no such LUCK");
    }

    private static void twelveWords() {
        s.says("a WRITER quotes a stretch (up to 12 WORDS) of a WORK that is LEFT");
        Desk d = forty(1);
        s.due("13 WORDS", d.x.quote(0, 0, 0, 12, 0), NONE);
        s.due("13 at the end", d.x.quote(0, 0, 27, 39, 0), NONE);
        s.due("all forty", d.x.quote(0, 0, 0, 39, 0), NONE);
        s.due("X stays", d.x.count(4), 1);
        s.due("12 WORDS", d.x.quote(0, 0, 0, 11, 0), 0);
        s.due("12 at the end", d.x.quote(0, 0, 28, 39, 0), 1);
        s.due("one", d.x.quote(0, 0, 39, 39, 0), 2);
        s.due("its WORD", d.x.bitIs(2, 10), 39);
    }

    private static void places() {
        s.says("QUOTED: WORDS from one place of a WORK to another one (0 on, both, 12 at most)");
        Desk d = forty(1);
        for (int from : new int[] {-1, MIN, 40, MAX}) s.due("from " + from, d.x.quote(0, 0, from, 5, 0), NONE);
        for (int to : new int[] {-1, 4, MIN, MAX}) s.due("from 5 to " + to, d.x.quote(0, 0, 5, to, 0), NONE);
        s.due("from 39 to 40", d.x.quote(0, 0, 39, 40, 0), NONE);
        s.due("from 40 to 40", d.x.quote(0, 0, 40, 40, 0), NONE);
        s.due("from MIN to MAX", d.x.quote(0, 0, MIN, MAX, 0), NONE);
        s.due("from MAX to MIN", d.x.quote(0, 0, MAX, MIN, 0), NONE);
        s.due("from 0 to 0", d.x.quote(0, 0, 0, 0, 0), 0);
        s.due("from 5 to 6", d.x.quote(0, 0, 5, 6, 0), 1);
        s.due("both", d.x.bitIs(1, 4), 2);
        s.due("the first", d.x.bitIs(1, 10), 5);
        s.due("the last", d.x.bitIs(1, 11), 6);
    }

    private static void quotedOfWhat() {
        s.says("with a SUBJECT: the BIT; -2: no WORD is left (X has gone on); NONE: no such ones, it is not LEFT, 40 are there.");
        Desk d = forty(1);
        d.x.work(0, 3);
        for (int m : new int[] {-1, 1, MIN, MAX}) s.due("WRITER " + m, d.x.quote(m, 0, 0, 0, 0), NONE);
        for (int k : new int[] {-1, 2, MIN, MAX}) s.due("WORK " + k, d.x.quote(0, k, 0, 0, 0), NONE);
        for (int subject : new int[] {-1, 10, MIN, MAX}) s.due("SUBJECT " + subject, d.x.quote(0, 0, 0, 0, subject), NONE);
        s.due("it is not LEFT", d.x.quote(0, 1, 0, 0, 0), NONE);
        s.due("X stays", d.x.count(4), 1);
        s.due("SUBJECT 0", d.x.quote(0, 0, 0, 0, 0), 0);
        s.due("SUBJECT 9", d.x.quote(0, 0, 0, 0, 9), 1);
        s.due("SUBJECT 0", d.x.bitIs(0, 3), 0);
        s.due("SUBJECT 9", d.x.bitIs(1, 3), 9);
        s.due("WRITER", d.x.bitIs(0, 0), 0);
        s.due("WORK", d.x.bitIs(0, 1), 0);
        for (int i = 2; i < 40; i++) s.due("quote " + i, d.x.quote(0, 0, 0, 0, 0), i);
        int x = d.x.count(4);
        s.due("40 are there", d.x.quote(0, 0, 0, 0, 0), NONE);
        s.due("X stays", d.x.count(4), x);
        d.way(0, "d1000(0=0)");
        s.due("40 are there, and no WORD is left", d.x.quote(0, 0, 0, 0, 0), NONE);
        s.due("X stays", d.x.count(4), x);
    }

    private static void goesOn() {
        s.says("for each WORD X = (25173 X + 13849) modulo 65536 (X is THE SEED at first, 1)");
        Desk d = forty(1);
        int x = 1;
        for (int words = 1; words <= 12; words++) {
            d.x.quote(0, 0, 0, words - 1, 0);
            for (int w = 0; w < words; w++) x = next(x);
            s.due("X behind " + words, d.x.count(4), x);
        }
        int[] seeds = {0, 1, 2, 65535, 65534, 32768};
        int[] want = {13849, 39022, 64195, 54212, 29039, 46617};
        for (int t = 0; t < seeds.length; t++) {
            d.x.seed(seeds[t]);
            d.x.quote(0, 0, 0, 0, 0);
            s.due("X behind " + seeds[t], d.x.count(4), want[t]);
        }
    }

    private static void luck() {
        s.says("LUCK is X modulo 1000");
        Desk d = forty(1);
        for (int luck : new int[] {0, 1, 500, 999}) {
            d.way(0, "d1000(!x=" + luck + ")");
            d.x.seed(seedFor(luck));
            s.due("LUCK " + luck, d.x.quote(0, 0, 0, 0, 0) >= 0, true);
        }
        d.way(0, "d1000(x>999|x<0)");
        s.due("none above 999, none below 0", d.x.quote(0, 0, 0, 7, 0), 4);
        s.due("none is dropped", d.x.bitIs(4, 4), 8);
    }

    /** The WORD (place 10's, 10 as it is) that comes out of a WAY by LUCK; -2: dropped. */
    private static void comesOut(Desk d, String text, int luck, int want) {
        if (d.way(0, text) < 1) s.fault(text + " is not read");
        d.x.seed(seedFor(luck));
        int i = d.x.quote(0, 0, 10, 10, 0);
        s.due(text + " by LUCK " + luck, i < 0 ? i : d.x.bitIs(i, 10), want);
    }

    private static void droppedBelow() {
        s.says("dropped if LUCK is below d");
        Desk d = forty(1);
        comesOut(d, "d500(0=0)", 499, -2);
        comesOut(d, "d500(0=0)", 500, 10);
        comesOut(d, "d500(0=0)", 501, 10);
        comesOut(d, "d1(0=0)", 0, -2);
        comesOut(d, "d0(0=0)", 0, 10);
        comesOut(d, "d999(0=0)", 998, -2);
        comesOut(d, "d999(0=0)", 999, 10);
        comesOut(d, "d1000(0=0)", 999, -2);
    }

    private static void changedBelow() {
        s.says("else changed (to WORD and 1, modulo 64) if it is below d and c; else as it is");
        Desk d = forty(1);
        comesOut(d, "d100(0=0);c200(0=0)", 99, -2);
        comesOut(d, "d100(0=0);c200(0=0)", 100, 11);
        comesOut(d, "d100(0=0);c200(0=0)", 299, 11);
        comesOut(d, "d100(0=0);c200(0=0)", 300, 10);
        comesOut(d, "c1(0=0)", 0, 11);
        comesOut(d, "c1(0=0)", 1, 10);
        comesOut(d, "d500(0=0);c500(0=0)", 999, 11);
        comesOut(d, "d500(0=0);c499(0=0)", 999, 10);
        comesOut(d, "d500(0=0)", 500, 10);
    }

    private static void oneAndModulo() {
        s.says("changed (to WORD and 1, modulo 64)");
        Desk d = Desk.with(1, 1);
        d.left(0, 0, 62, 63);
        d.way(0, "c1000(0=0)");
        d.x.quote(0, 0, 0, 2, 0);
        s.due("0", d.x.bitIs(0, 10), 1);
        s.due("62", d.x.bitIs(0, 11), 63);
        s.due("63", d.x.bitIs(0, 12), 0);
    }

    private static void eightKept() {
        s.says("eight WORDS are kept at most, those behind are let go (LUCK is drawn for them, too)");
        Desk d = forty(1);
        for (int words = 7; words <= 12; words++) {
            int x = d.x.count(4);
            for (int w = 0; w < words; w++) x = next(x);
            int i = d.x.quote(0, 0, 4, 3 + words, 0);
            s.due(words + " WORDS", d.x.bitIs(i, 4), Math.min(8, words));
            s.due("the last", d.x.bitIs(i, 9 + Math.min(8, words)), 3 + Math.min(8, words));
            s.due("X", d.x.count(4), x);
        }
        d.way(0, "d1000(i<4)");
        int i = d.x.quote(0, 0, 4, 15, 0);
        s.due("behind four drops the other eight", d.x.bitIs(i, 4), 8);
        s.due("the first", d.x.bitIs(i, 10), 8);
        s.due("the last", d.x.bitIs(i, 17), 15);
        d.way(0, "d1000(i>0&i<4)");
        i = d.x.quote(0, 0, 4, 15, 0);
        s.due("nine are left: eight are kept", d.x.bitIs(i, 4), 8);
        s.due("the last", d.x.bitIs(i, 17), 14);
    }

    private static void noneLeft() {
        s.says("That is a BIT of that WORK (none if no WORD is left)");
        Desk d = forty(1);
        d.way(0, "d1000(0=0)");
        s.due("one WORD", d.x.quote(0, 0, 0, 0, 0), -2);
        s.due("X has gone on", d.x.count(4), next(1));
        s.due("twelve", d.x.quote(0, 0, 0, 11, 0), -2);
        s.due("BITS", d.x.count(3), 0);
        d.way(0, "d1000(i<11)");
        s.due("one is left", d.x.quote(0, 0, 0, 11, 0), 0);
        s.due("the last one", d.x.bitIs(0, 10), 11);
        s.due("of one", d.x.bitIs(0, 4), 1);
    }

    private static void bookOfTheFirst() {
        s.says("its BOOK: that of the stretch's first WORD and n (as for that one, its LUCK too;");
        Desk d = forty(1);
        d.x.quote(0, 0, 20, 25, 0);
        s.due("of the first", d.x.bitIs(0, 2), 21);
        d.way(0, "d1000(i=0)");
        d.x.quote(0, 0, 20, 25, 0);
        s.due("also if that is dropped", d.x.bitIs(1, 2), 21);
        d.way(0, "n5(i=0&w=20&b=21&l=6);n9(0=0)");
        d.x.quote(0, 0, 20, 25, 0);
        s.due("n as for that one", d.x.bitIs(2, 2), 26);
        d.x.seed(1);
        d.way(0, "n7(x=" + next(1) % 1000 + ");n0-9(0=0)");
        d.x.quote(0, 0, 20, 25, 0);
        s.due("its LUCK too", d.x.bitIs(3, 2), 28);
    }

    private static void bookBelowAndAbove() {
        s.says("below 1: 1; above 40: 40)");
        Desk d = forty(1);
        int[] places = {0, 0, 0, 0, 8, 9, 10, 39, 39, 39, 39, 31, 30, 29};
        int[] slips = {-1, -9, 0, 1, -9, -9, -9, 1, 9, 0, -1, 9, 9, 9};
        int[] books = {1, 1, 1, 2, 1, 1, 2, 40, 40, 40, 39, 40, 40, 39};
        for (int t = 0; t < places.length; t++) {
            d.way(0, "n" + (slips[t] < 0 ? "0-" + -slips[t] : "" + slips[t]) + "(0=0)");
            d.x.quote(0, 0, places[t], places[t], 0);
            s.due("BOOK " + (places[t] + 1) + " and " + slips[t], d.x.bitIs(t, 2), books[t]);
        }
    }

    private static void bitIs() {
        s.says("Of BIT i, what 0 WRITER, 1 WORK (NONE: none told), 2 BOOK, 3 SUBJECT, 4 how many WORDS, 10 + p the WORD at place p.");
        Desk d = Desk.with(8, 8);
        d.bit(7, 7, 40, 9, 63, 0, 1, 2, 3, 4, 5, 62);
        d.bit(0, NONE, 0, 0, 0);
        int[] want = {7, 7, 40, 9, 8};
        int[] least = {0, NONE, 0, 0, 1};
        int[] words = {63, 0, 1, 2, 3, 4, 5, 62};
        for (int what = 0; what < 5; what++) {
            s.due("the most, what " + what, d.x.bitIs(0, what), want[what]);
            s.due("the least, what " + what, d.x.bitIs(1, what), least[what]);
        }
        for (int p = 0; p < 8; p++) s.due("place " + p, d.x.bitIs(0, 10 + p), words[p]);
        s.due("place 0 of one", d.x.bitIs(1, 10), 0);
    }

    private static void bitIsOthers() {
        s.says("NONE for others.");
        Desk d = Desk.with(1, 1);
        s.due("no BIT", d.x.bitIs(0, 0), NONE);
        d.bit(0, 0, 1, 1, 1, 1, 1);
        for (int what : new int[] {-1, 5, 6, 7, 8, 9, 13, 14, 17, 18, MIN, MAX, MIN + 10}) s.due("what " + what, d.x.bitIs(0, what), NONE);
        for (int i : new int[] {-1, 1, 40, MIN, MAX}) {
            for (int what : new int[] {0, 2, 4, 10}) s.due("BIT " + i + ", what " + what, d.x.bitIs(i, what), NONE);
        }
        s.due("place 2, the last", d.x.bitIs(0, 12), 1);
    }

    private static int bitOf(Desk d, int... words) {
        return d.bit(0, NONE, 0, 0, words);
    }

    private static void far() {
        s.says("FAR is a row of WORDS from another one: the fewest changes, drops and insertions of WORDS that make the one of the other.");
        Desk d = Desk.with(0, 1);
        int a = bitOf(d, 1, 2, 3, 4, 5, 6, 7, 8);
        int[][] others = {
            {1, 2, 3, 4, 5, 6, 7, 8}, {1, 2, 3, 9, 5, 6, 7, 8}, {1, 2, 3, 5, 6, 7, 8}, {2, 3, 4, 5, 6, 7, 8}, {1, 2, 3, 4, 5, 6, 7},
            {2, 1, 3, 4, 5, 6, 7, 8}, {2, 3, 4, 5, 6, 7, 8, 9}, {8}, {9}, {9, 10, 11, 12, 13, 14, 15, 16}, {8, 7, 6, 5, 4, 3, 2, 1}, {4, 5},
        };
        int[] want = {0, 1, 1, 1, 1, 2, 2, 7, 8, 8, 8, 6};
        for (int t = 0; t < others.length; t++) {
            int b = bitOf(d, others[t]);
            s.due("BIT " + b, d.x.apart(a, b), want[t]);
            s.due("the other way, BIT " + b, d.x.apart(b, a), want[t]);
        }
    }

    private static void apart() {
        s.says("How FAR two BITS are from one another; NONE: no such ones.");
        Desk d = Desk.with(0, 1);
        s.due("no BIT", d.x.apart(0, 0), NONE);
        bitOf(d, 1);
        s.due("one twice", d.x.apart(0, 0), 0);
        for (int i : new int[] {-1, 1, MIN, MAX}) {
            s.due("BIT " + i + " first", d.x.apart(i, 0), NONE);
            s.due("BIT " + i + " second", d.x.apart(0, i), NONE);
            s.due("BIT " + i + " twice", d.x.apart(i, i), NONE);
        }
        for (int i = 1; i < 40; i++) bitOf(d, i);
        s.due("BITS 0 and 39", d.x.apart(0, 39), 1);
        s.due("BITS 39 and 39", d.x.apart(39, 39), 0);
        s.due("BITS 39 and 40", d.x.apart(39, 40), NONE);
    }

    private static void nearIs(Desk d, int i, int k, int far, int first, int last, int thousandths) {
        s.due("FAR of " + i, d.x.near(i, k, 0), far);
        s.due("first of " + i, d.x.near(i, k, 1), first);
        s.due("last of " + i, d.x.near(i, k, 2), last);
        s.due("NEARNESS of " + i, d.x.near(i, k, 3), thousandths);
    }

    private static void oneWordAtLeast() {
        s.says("A BIT is NEAR a WORK that is LEFT by the least that it is FAR from some stretch of it (one WORD at least)");
        Desk d = Desk.with(2, 1);
        d.left(0, 5);
        nearIs(d, bitOf(d, 9), 0, 1, 0, 0, 0);
        nearIs(d, bitOf(d, 5), 0, 0, 0, 0, 1000);
        nearIs(d, bitOf(d, 9, 9, 9, 9, 9, 9, 9, 9), 0, 8, 0, 0, 0);
        nearIs(d, bitOf(d, 9, 9, 9, 9, 9, 9, 9, 5), 0, 7, 0, 0, 125);
        int[] words = new int[40];
        for (int p = 0; p < 40; p++) words[p] = p;
        d.left(1, words);
        nearIs(d, bitOf(d, 39), 1, 0, 39, 39, 1000);
        nearIs(d, bitOf(d, 0), 1, 0, 0, 0, 1000);
        nearIs(d, bitOf(d, 32, 33, 34, 35, 36, 37, 38, 39), 1, 0, 32, 39, 1000);
        nearIs(d, bitOf(d, 39, 63), 1, 1, 39, 39, 500);
        nearIs(d, bitOf(d, 38, 63), 1, 1, 38, 39, 500);
    }

    private static void firstBegin() {
        s.says("of like ones the first begin, then the longest.");
        Desk d = Desk.with(2, 1);
        d.left(0, 1, 2, 1, 2, 1, 2);
        nearIs(d, bitOf(d, 1, 2), 0, 0, 0, 1, 1000);
        nearIs(d, bitOf(d, 2, 1), 0, 0, 1, 2, 1000);
        d.left(1, 7, 3, 9, 3, 7, 3, 3);
        nearIs(d, bitOf(d, 3, 3), 1, 0, 5, 6, 1000);
        // A stretch that begins earlier with one WORD more is as FAR: the first begin, not the exact one.
        nearIs(d, bitOf(d, 9, 3, 8), 1, 1, 2, 4, 666);
        nearIs(d, bitOf(d, 3, 8, 7), 1, 1, 3, 4, 666);
    }

    private static void thenLongest() {
        s.says("then the longest.");
        Desk d = Desk.with(3, 1);
        d.left(0, 1, 2, 3, 4, 5, 6);
        // 1 9: as FAR from 1, from 1 2; the longest. 9 alone: from each WORD.
        nearIs(d, bitOf(d, 1, 9), 0, 1, 0, 1, 500);
        nearIs(d, bitOf(d, 9), 0, 1, 0, 0, 0);
        nearIs(d, bitOf(d, 9, 9, 9), 0, 3, 0, 2, 0);
        nearIs(d, bitOf(d, 1, 3, 5), 0, 2, 0, 4, 333);
        // All eight of one WORD are in a stretch of sixteen, eight insertions apart, at the first begin.
        int[] words = new int[40];
        for (int p = 0; p < 40; p++) words[p] = p % 2 == 0 && p < 16 ? 1 + p / 2 : 30;
        d.left(1, words);
        nearIs(d, bitOf(d, 1, 2, 3, 4, 5, 6, 7, 8), 1, 7, 0, 14, 125);
        int[] apart = new int[40];
        for (int p = 0; p < 40; p++) apart[p] = p == 0 || p == 15 ? 7 : 30;
        d.left(2, apart);
        nearIs(d, bitOf(d, 7, 1, 2, 3, 4, 5, 6, 7), 2, 7, 0, 7, 125);
        Desk e = Desk.with(1, 1);
        e.left(0, 1, 9, 2, 9, 3);
        // 1 2 is one insertion from 1 9 2 and one change from 1 9, one drop from 1.
        nearIs(e, bitOf(e, 1, 2), 0, 1, 0, 2, 500);
    }

    private static void nearness() {
        s.says("NEARNESS: 1000 times (WORDS of the BIT less that, not below 0) through its WORDS, rounded down.");
        Desk d = Desk.with(1, 1);
        d.left(0, 1, 2, 3, 4, 5, 6, 7, 8);
        int[][] bits = {{1, 2, 3}, {1, 2, 30}, {1, 30, 31}, {30, 31, 32}, {1, 2, 3, 4, 5, 6, 7, 30}, {1, 2, 3, 4, 5, 6, 30}, {30, 2, 31, 4, 32, 6, 33}};
        int[] want = {1000, 666, 333, 0, 875, 857, 428};
        for (int t = 0; t < bits.length; t++) s.due("BIT " + t, d.x.near(bitOf(d, bits[t]), 0, 3), want[t]);
    }

    private static void near() {
        s.says("NEAR: of BIT i to WORK k, what 0 how FAR, 1 the first place of the stretch, 2 the last, 3 NEARNESS; NONE: no such ones, it is not LEFT.");
        Desk d = Desk.with(8, 1);
        s.due("no BIT", d.x.near(0, 0, 0), NONE);
        d.left(0, 1, 2, 3);
        d.left(7, 2, 3, 4);
        s.due("no BIT yet", d.x.near(0, 0, 0), NONE);
        d.bit(0, 7, 0, 0, 2, 3);
        nearIs(d, 0, 0, 0, 1, 2, 1000);
        nearIs(d, 0, 7, 0, 0, 1, 1000);
        for (int what = 0; what < 4; what++) {
            s.due("it is not LEFT", d.x.near(0, 1, what), NONE);
            for (int i : new int[] {-1, 1, MIN, MAX}) s.due("BIT " + i, d.x.near(i, 0, what), NONE);
            for (int k : new int[] {-1, 8, MIN, MAX}) s.due("WORK " + k, d.x.near(0, k, what), NONE);
        }
        for (int what : new int[] {-1, 4, MIN, MAX}) s.due("what " + what, d.x.near(0, 0, what), NONE);
        d.bit(0, NONE, 0, 0, 3, 4);
        nearIs(d, 1, 7, 0, 1, 2, 1000);
        for (int i = 2; i < 40; i++) d.bit(0, NONE, 0, 0, i == 39 ? 4 : 9);
        nearIs(d, 39, 7, 0, 2, 2, 1000);
    }

    private static void nearnessOfWriter() {
        s.says("A WRITER's NEARNESS: over his BITS of WORKS that are LEFT: least, greatest, all together through how many (rounded down).");
        Desk d = Desk.with(3, 8);
        d.left(0, 1, 2, 3);
        d.left(1, 4, 5, 6);
        d.bit(7, 0, 0, 0, 1, 2, 9);
        s.due("one: least", d.x.nearness(7, 0), 666);
        s.due("one: greatest", d.x.nearness(7, 1), 666);
        s.due("one: through one", d.x.nearness(7, 2), 666);
        d.bit(7, 1, 0, 0, 4, 5, 9);
        d.bit(7, 1, 0, 0, 9, 5, 9);
        d.bit(7, 2, 0, 0, 1);
        d.bit(7, NONE, 0, 0, 1);
        d.bit(0, 0, 0, 0, 1);
        s.due("least", d.x.nearness(7, 0), 333);
        s.due("greatest", d.x.nearness(7, 1), 666);
        s.due("through how many, rounded down", d.x.nearness(7, 2), 555);
        s.due("how many", d.x.nearness(7, 3), 3);
        d.bit(7, 1, 0, 0, 1, 2, 3);
        s.due("to its own WORK alone: 0", d.x.nearness(7, 0), 0);
        s.due("through four", d.x.nearness(7, 2), 416);
        s.due("the other: 1000", d.x.nearness(0, 0), 1000);
        s.due("the other: 1000", d.x.nearness(0, 1), 1000);
        d.left(2, 1);
        s.due("LEFT by now", d.x.nearness(7, 3), 5);
        s.due("greatest by now", d.x.nearness(7, 1), 1000);
        Desk none = Desk.with(1, 1);
        none.left(0, 1);
        none.bit(0, 0, 0, 0, 2);
        none.bit(0, 0, 0, 0, 3, 4);
        for (int what = 0; what < 3; what++) s.due("nothing is near, what " + what, none.x.nearness(0, what), 0);
        Desk e = Desk.with(1, 1);
        e.left(0, 1);
        for (int i = 0; i < 40; i++) e.bit(0, 0, 0, 0, i == 39 ? 2 : 1);
        s.due("39 of 40", e.x.nearness(0, 2), 975);
        s.due("all forty", e.x.nearness(0, 3), 40);
        s.due("the last one", e.x.nearness(0, 0), 0);
    }

    private static void noneOfZeroToTwo() {
        s.says("what 0 the least, 1 the greatest, 2 through how many, 3 how many BITS; -2: there is none (of 0 to 2); NONE: no such ones.");
        Desk d = Desk.with(2, 2);
        d.left(0, 1);
        for (int what = 0; what < 3; what++) s.due("there is none", d.x.nearness(0, what), -2);
        s.due("how many BITS", d.x.nearness(0, 3), 0);
        d.bit(0, 1, 0, 0, 1);
        d.bit(0, NONE, 0, 0, 1);
        d.bit(1, 0, 0, 0, 1);
        for (int what = 0; what < 3; what++) s.due("there is none", d.x.nearness(0, what), -2);
        s.due("how many BITS", d.x.nearness(0, 3), 0);
        for (int what : new int[] {-1, 4, MIN, MAX}) {
            s.due("what " + what + ", and there is none", d.x.nearness(0, what), NONE);
            s.due("what " + what, d.x.nearness(1, what), NONE);
        }
        for (int m : new int[] {-1, 2, MIN, MAX}) {
            s.due("WRITER " + m, d.x.nearness(m, 0), NONE);
            s.due("WRITER " + m, d.x.nearness(m, 3), NONE);
        }
        s.due("there is one", d.x.nearness(1, 0), 1000);
    }

    private static void sameNotMore() {
        s.says("SAME: two BITS that are FAR from one another by not more than so much.");
        Desk d = Desk.with(0, 1);
        bitOf(d, 1, 2, 3, 4, 5, 6, 7, 8);
        for (int others = 1; others <= 8; others++) {
            int[] words = new int[8];
            for (int p = 0; p < 8; p++) words[p] = p < others ? 40 + p : p + 1;
            bitOf(d, words);
        }
        for (int far = 0; far <= 8; far++) s.due("by " + far, d.x.same(0, far), (1L << far + 1) - 1);
        s.due("one of the middle by 0", d.x.same(4, 0), 16);
        s.due("one of the middle by 1", d.x.same(4, 1), 8 + 16 + 32);
    }

    private static void sameEdges() {
        s.says("SAME: BITS (as bits 0 to 39) that are FAR from BIT i by not more than so much (0 to 8), it too; -1: no such ones.");
        Desk d = Desk.with(0, 1);
        s.due("no BIT", d.x.same(0, 0), -1);
        bitOf(d, 1);
        s.due("it too", d.x.same(0, 0), 1);
        for (int far : new int[] {-1, 9, MIN, MAX}) s.due("by " + far, d.x.same(0, far), -1);
        for (int i : new int[] {-1, 1, MIN, MAX}) s.due("BIT " + i, d.x.same(i, 0), -1);
        for (int i = 1; i < 40; i++) bitOf(d, i == 31 || i == 32 || i == 39 ? 1 : 2);
        s.due("bits 0, 31, 32 and 39", d.x.same(39, 0), 1L | 1L << 31 | 1L << 32 | 1L << 39);
        s.due("all forty", d.x.same(0, 1), (1L << 40) - 1);
        s.due("BIT 40", d.x.same(40, 0), -1);
    }

    private static void stoodIs(Desk d, int[] one, int[] other, int... want) {
        int x = bitOf(d, one);
        int y = bitOf(d, other);
        s.due("how many of " + x + " and " + y, d.x.stood(x, y, NONE), want.length);
        for (int p = 0; p < want.length; p++) s.due("place " + p + " of " + x, d.x.stood(x, y, p), want[p]);
        s.due("how many of " + y + " and " + x, d.x.stood(y, x, NONE), want.length);
        for (int p = 0; p < want.length; p++) s.due("place " + p + " of " + y, d.x.stood(y, x, p), want[p]);
        s.due("no such place of " + x, d.x.stood(x, y, want.length), -2);
    }

    private static void mostInOneOrder() {
        s.says("WHAT STOOD THERE, of two BITS: the most WORDS that both have in one order");
        Desk d = Desk.with(0, 1);
        stoodIs(d, new int[] {1, 2}, new int[] {1, 0, 2}, 1, 2);
        stoodIs(d, new int[] {7, 0}, new int[] {7, 3, 0}, 7, 0);
        stoodIs(d, new int[] {5, 0}, new int[] {6, 5}, 5);
        stoodIs(d, new int[] {1}, new int[] {2});
        stoodIs(d, new int[] {1}, new int[] {1}, 1);
        stoodIs(d, new int[] {1, 2, 3, 4, 5, 6, 7, 8}, new int[] {1, 2, 3, 4, 5, 6, 7, 8}, 1, 2, 3, 4, 5, 6, 7, 8);
        stoodIs(d, new int[] {9, 1, 9, 2, 9, 3, 9, 4}, new int[] {1, 8, 2, 8, 3, 8, 4, 8}, 1, 2, 3, 4);
        stoodIs(d, new int[] {0, 0, 0}, new int[] {0, 0}, 0, 0);
        stoodIs(d, new int[] {63, 1, 2, 3}, new int[] {1, 2, 3, 63}, 1, 2, 3);
        stoodIs(d, new int[] {1, 2, 3, 4, 5, 6, 7, 8}, new int[] {9, 10, 11, 12, 13, 14, 15, 16});
    }

    private static void likeRows() {
        s.says("(of like rows the least one, WORD by WORD).");
        Desk d = Desk.with(0, 1);
        stoodIs(d, new int[] {2, 1}, new int[] {1, 2}, 1);
        stoodIs(d, new int[] {0, 63}, new int[] {63, 0}, 0);
        stoodIs(d, new int[] {5, 9, 1, 4}, new int[] {1, 4, 5, 9}, 1, 4);
        stoodIs(d, new int[] {5, 1, 9}, new int[] {5, 9, 1}, 5, 1);
        stoodIs(d, new int[] {2, 1, 3, 2}, new int[] {1, 2, 3, 1, 2}, 1, 3, 2);
        stoodIs(d, new int[] {3, 1, 3, 2}, new int[] {1, 2, 3, 2, 1}, 1, 3, 2);
    }

    private static void stood() {
        s.says("WHAT STOOD THERE, of BITS x and y, what NONE how many WORDS, else the WORD at place what; -2: no such place; NONE: no such ones (what below NONE, too).");
        Desk d = Desk.with(0, 1);
        s.due("no BIT", d.x.stood(0, 0, NONE), NONE);
        bitOf(d, 1, 2, 3);
        bitOf(d, 4);
        s.due("one twice: all its WORDS", d.x.stood(0, 0, NONE), 3);
        s.due("the last", d.x.stood(0, 0, 2), 3);
        for (int what : new int[] {3, 4, 8, MAX}) s.due("no place " + what, d.x.stood(0, 0, what), -2);
        s.due("nothing in both", d.x.stood(0, 1, NONE), 0);
        s.due("no place 0", d.x.stood(0, 1, 0), -2);
        for (int what : new int[] {-2, -3, MIN}) s.due("what " + what, d.x.stood(0, 1, what), NONE);
        for (int i : new int[] {-1, 2, MIN, MAX}) {
            for (int what : new int[] {-2, -1, 0, 9}) {
                s.due("BIT " + i + " first, what " + what, d.x.stood(i, 0, what), NONE);
                s.due("BIT " + i + " second, what " + what, d.x.stood(0, i, what), NONE);
            }
        }
    }
}
