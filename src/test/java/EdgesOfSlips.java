/** The edges that the document names for SLIPS, what two WRITERS share, GROUPS, and FROM WHOM one had a WORK. */
public final class EdgesOfSlips {
    private static final int NONE = QuotedBooks.NONE;
    private static final int MIN = Integer.MIN_VALUE;
    private static final int MAX = Integer.MAX_VALUE;
    private static final Sheet s = new Sheet();

    public static void main(String[] args) {
        toldOnlyIfAsMany();
        firstBitCounts();
        placesThatHeHas();
        slips();
        slip();
        placesThatBothHave();
        bothTheSame();
        byLot();
        sharedEdges();
        aboveZeroAndNotAbove();
        andSoOn();
        groups();
        lesserYear();
        allPlaces();
        cost();
        likeOnes();
        from();
        greatestYear();
        there();
        s.end("the edges of SLIPS");
    }

    /** WORK 0: WORDS 10, 20 .. 60; WORK 1 is lost; WRITERS of the years 100, 200 .. */
    private static Desk scribes(int writers) {
        Desk d = Desk.with(2, writers);
        d.left(0, 10, 20, 30, 40, 50, 60);
        return d;
    }

    /** WORK 0 of 40 WORDS, at place p WORD p. */
    private static Desk forty(int writers) {
        Desk d = Desk.with(1, writers);
        int[] words = new int[40];
        for (int p = 0; p < 40; p++) words[p] = p;
        d.left(0, words);
        return d;
    }

    private static void slipsAre(Desk d, int writer, long places, long marks) {
        s.due("how many of " + writer, d.x.slips(writer, 0, 0), Long.bitCount(marks));
        s.due("PLACES of " + writer, d.x.slips(writer, 0, 1), Long.bitCount(places));
        s.due("PLACES as bits of " + writer, d.x.slips(writer, 0, 2), places);
        s.due("SLIPS as bits of " + writer, d.x.slips(writer, 0, 3), marks);
    }

    private static void toldOnlyIfAsMany() {
        s.says("told only if the stretch has as many WORDS as the BIT and as many of them are other ones as that");
        Desk d = scribes(7);
        d.bit(0, 0, 0, 0, 10, 20, 31, 40);
        slipsAre(d, 0, 15, 4);
        d.bit(1, 0, 0, 0, 10, 20, 40);
        s.due("one dropped: its stretch is longer", d.x.near(1, 0, 2), 3);
        slipsAre(d, 1, 0, 0);
        d.bit(2, 0, 0, 0, 10, 20, 25, 30);
        s.due("one put in: its stretch is shorter", d.x.near(2, 0, 2), 2);
        slipsAre(d, 2, 0, 0);
        d.bit(3, 0, 0, 0, 50, 55, 60);
        s.due("one put in at the end: shorter", d.x.near(3, 0, 2), 5);
        slipsAre(d, 3, 0, 0);
        d.bit(4, 0, 0, 0, 20, 10);
        s.due("two turned round", d.x.near(4, 0, 0), 1);
        slipsAre(d, 4, 0, 0);
        d.bit(5, 0, 0, 0, 1, 2, 3);
        s.due("all other ones", d.x.near(5, 0, 0), 3);
        slipsAre(d, 5, 7, 7);
        d.bit(6, 0, 0, 0, 20, 30, 40, 50, 10);
        slipsAre(d, 6, 62, 32);
        // As long as its stretch, but a drop and an insertion are fewer than the four that are other ones.
        Desk e = Desk.with(1, 1);
        e.left(0, 1, 9, 2, 3, 4, 6);
        e.bit(0, 0, 0, 0, 1, 2, 3, 4, 5, 6);
        s.due("as many WORDS", e.x.near(0, 0, 2), 5);
        s.due("two FAR, not four", e.x.near(0, 0, 0), 2);
        slipsAre(e, 0, 0, 0);
    }

    private static void firstBitCounts() {
        s.says("of all his such BITS, each place once (its first BIT counts)");
        Desk d = scribes(3);
        d.bit(0, 0, 0, 0, 10, 21, 30);
        d.bit(0, 0, 0, 0, 10, 22, 30);
        d.bit(0, 0, 0, 0, 10, 20, 30);
        slipsAre(d, 0, 7, 2);
        s.due("the first SLIP", d.x.slip(0, 0, 1), 21);
        d.bit(1, 0, 0, 0, 20);
        d.bit(1, 0, 0, 0, 10, 21, 30);
        slipsAre(d, 1, 7, 0);
        s.due("the first has none", d.x.slip(1, 0, 1), NONE);
        d.bit(1, 0, 0, 0, 31, 40);
        slipsAre(d, 1, 15, 0);
        d.bit(2, 0, 0, 0, 10, 20, 40);
        d.bit(2, 0, 0, 0, 10, 20, 41);
        s.due("of BITS that are told", d.x.slip(2, 0, 2), 41);
    }

    private static void placesThatHeHas() {
        s.says("PLACES that he has: of those stretches.");
        Desk d = forty(3);
        slipsAre(d, 0, 0, 0);
        d.bit(0, 0, 0, 0, 39);
        slipsAre(d, 0, 1L << 39, 0);
        d.bit(0, 0, 0, 0, 0);
        slipsAre(d, 0, 1L << 39 | 1, 0);
        d.bit(0, 0, 0, 0, 31, 63, 33);
        slipsAre(d, 0, 1L << 39 | 7L << 31 | 1, 1L << 32);
        d.bit(0, NONE, 0, 0, 20);
        d.bit(1, 0, 0, 0, 21);
        slipsAre(d, 0, 1L << 39 | 7L << 31 | 1, 1L << 32);
        for (int p = 0; p < 40; p += 8) d.bit(2, 0, 0, 0, p, p + 1, p + 2, p + 3, p + 4, p + 5, p + 6, p < 32 ? p + 7 : 63);
        slipsAre(d, 2, (1L << 40) - 1, 1L << 39);
        s.due("a SLIP at the last place", d.x.slip(2, 0, 39), 63);
    }

    private static void slips() {
        s.says("SLIPS of a WRITER in WORK k, what 0 how many, 1 PLACES (how many), 2 (long) PLACES as bits, 3 those of SLIPS as bits; -1: no such ones, it is not LEFT.");
        Desk d = Desk.with(8, 8);
        d.left(0, 1, 2, 3);
        d.left(7, 4, 5, 6);
        d.bit(7, 7, 0, 0, 4, 9);
        d.bit(7, 6, 0, 0, 4, 9);
        for (int what = 0; what < 4; what++) {
            s.due("no BIT in it", d.x.slips(7, 0, what), 0);
            s.due("no BIT of his", d.x.slips(0, 7, what), 0);
            s.due("the last ones", d.x.slips(7, 7, what), new long[] {1, 2, 3, 2}[what]);
            s.due("it is not LEFT", d.x.slips(7, 6, what), -1);
            for (int m : new int[] {-1, 8, MIN, MAX}) s.due("WRITER " + m, d.x.slips(m, 7, what), -1);
            for (int k : new int[] {-1, 8, MIN, MAX}) s.due("WORK " + k, d.x.slips(7, k, what), -1);
        }
        for (int what : new int[] {-1, 4, MIN, MAX}) s.due("what " + what, d.x.slips(7, 7, what), -1);
    }

    private static void slip() {
        s.says("The WORD that a WRITER puts at a place of WORK k, where he has a SLIP; NONE: he has none there, no such ones.");
        Desk d = forty(2);
        d.x.work(0, 3);
        s.due("no BIT", d.x.slip(0, 0, 0), NONE);
        d.bit(0, 0, 0, 0, 63, 1);
        d.bit(0, 0, 0, 0, 36, 37, 38, 0);
        s.due("place 0", d.x.slip(0, 0, 0), 63);
        s.due("place 1, as it is", d.x.slip(0, 0, 1), NONE);
        s.due("place 2, not his", d.x.slip(0, 0, 2), NONE);
        s.due("place 39, WORD 0", d.x.slip(0, 0, 39), 0);
        for (int place : new int[] {-1, 40, 63, 64, 103, MIN, MAX}) s.due("place " + place, d.x.slip(0, 0, place), NONE);
        s.due("WRITER 1 has none", d.x.slip(1, 0, 0), NONE);
        for (int m : new int[] {-1, 2, MIN, MAX}) s.due("WRITER " + m, d.x.slip(m, 0, 0), NONE);
        for (int k : new int[] {-1, 1, 2, MIN, MAX}) s.due("WORK " + k, d.x.slip(0, k, 0), NONE);
    }

    private static void sharedIs(Desk d, int x, int y, long... want) {
        for (int what = 0; what < 6; what++) {
            s.due("shared(" + x + ", " + y + "), what " + what, d.x.shared(x, y, 0, what), want[what]);
        }
    }

    private static void placesThatBothHave() {
        s.says("SHARED by two WRITERS in a WORK: of PLACES that both have (n), places at which the one has a SLIP (a), the other (b)");
        Desk d = scribes(4);
        sharedIs(d, 0, 1, 0, 0, 0, 0, 1, 1);
        d.bit(0, 0, 0, 0, 11, 20, 31);
        sharedIs(d, 0, 1, 0, 0, 0, 0, 1, 1);
        d.bit(1, 0, 0, 0, 40, 51, 60);
        sharedIs(d, 0, 1, 0, 0, 0, 0, 1, 1);
        d.bit(2, 0, 0, 0, 30, 41);
        sharedIs(d, 0, 2, 1, 1, 0, 0, 1, 1);
        sharedIs(d, 1, 2, 1, 0, 1, 0, 1, 1);
        d.bit(3, 0, 0, 0, 20, 32, 40);
        sharedIs(d, 0, 3, 2, 1, 1, 0, 1, 1);
        sharedIs(d, 1, 3, 1, 0, 0, 0, 1, 1);
    }

    private static void bothTheSame() {
        s.says("both the same WORD (c)");
        Desk d = scribes(4);
        d.bit(0, 0, 0, 0, 11, 21, 31, 40);
        d.bit(1, 0, 0, 0, 11, 22, 31, 40);
        d.bit(2, 0, 0, 0, 12, 22, 32, 40);
        d.bit(3, 0, 0, 0, 10, 20, 30, 40);
        sharedIs(d, 0, 1, 4, 3, 3, 2, 1, 1);
        sharedIs(d, 0, 2, 4, 3, 3, 0, 1, 1);
        sharedIs(d, 1, 2, 4, 3, 3, 1, 1, 1);
        sharedIs(d, 0, 3, 4, 3, 0, 0, 1, 1);
        sharedIs(d, 3, 0, 4, 0, 3, 0, 1, 1);
    }

    private static void byLot() {
        s.says("ODDS that by lot as many of the b or more would be among the a: a fraction.");
        Desk d = scribes(5);
        d.bit(0, 0, 0, 0, 11, 21, 30, 40, 50);
        d.bit(1, 0, 0, 0, 11, 20, 30, 40, 50);
        d.bit(2, 0, 0, 0, 11, 21, 30, 40, 50);
        d.bit(3, 0, 0, 0, 11, 20, 31, 41, 50);
        d.bit(4, 0, 0, 0, 11, 20, 31, 40, 50);
        // One of two of five: 2/5; two of two of five: 1/10; one of three of two of five: 1 less 1/10.
        sharedIs(d, 0, 1, 5, 2, 1, 1, 2, 5);
        sharedIs(d, 1, 0, 5, 1, 2, 1, 2, 5);
        sharedIs(d, 0, 2, 5, 2, 2, 2, 1, 10);
        sharedIs(d, 0, 3, 5, 2, 3, 1, 9, 10);
        sharedIs(d, 3, 0, 5, 3, 2, 1, 9, 10);
        sharedIs(d, 0, 4, 5, 2, 2, 1, 7, 10);
        sharedIs(d, 3, 4, 5, 3, 2, 2, 3, 10);
        // All forty places, twenty SLIPS of each, all the same: one through C(40, 20).
        Desk e = forty(3);
        for (int m = 0; m < 3; m++) {
            for (int start = 0; start < 40; start += 8) {
                int[] bit = new int[8];
                for (int p = 0; p < 8; p++) bit[p] = p % 2 == 0 ? start + p : m == 2 && start == 0 && p == 1 ? 62 : 63;
                e.bit(m, 0, 0, 0, bit);
            }
        }
        sharedIs(e, 0, 1, 40, 20, 20, 20, 1, 137846528820L);
        // Nineteen or twenty of them: 20 * 20 and 1.
        sharedIs(e, 0, 2, 40, 20, 20, 19, 401, 137846528820L);
        s.due("that has no common divisor", gcd(401, 137846528820L), 1);
    }

    private static long gcd(long a, long b) {
        return b == 0 ? a : gcd(b, a % b);
    }

    private static void sharedEdges() {
        s.says("4 above, 5 below the line, without a common divisor; -1: no such ones, one twice, it is not LEFT.");
        Desk d = Desk.with(8, 8);
        d.left(7, 10, 20, 30, 40);
        d.bit(6, 7, 0, 0, 11, 20, 31, 40);
        d.bit(7, 7, 0, 0, 11, 20, 30, 40);
        long[] want = {4, 2, 1, 1, 1, 2};
        for (int what = 0; what < 6; what++) {
            s.due("the last ones, what " + what, d.x.shared(6, 7, 7, what), want[what]);
            s.due("one twice", d.x.shared(6, 6, 7, what), -1);
            s.due("it is not LEFT", d.x.shared(6, 7, 6, what), -1);
            for (int m : new int[] {-1, 8, MIN, MAX}) {
                s.due("WRITER " + m + " first", d.x.shared(m, 7, 7, what), -1);
                s.due("WRITER " + m + " second", d.x.shared(7, m, 7, what), -1);
                s.due("WRITER " + m + " twice", d.x.shared(m, m, 7, what), -1);
            }
            for (int k : new int[] {-1, 8, MIN, MAX}) s.due("WORK " + k, d.x.shared(6, 7, k, what), -1);
        }
        for (int what : new int[] {-1, 6, MIN, MAX}) s.due("what " + what, d.x.shared(6, 7, 7, what), -1);
    }

    private static void aboveZeroAndNotAbove() {
        s.says("A MIDDLE ONE must have been, by so many thousandths, of two WRITERS if c is above 0 and the ODDS are not above them.");
        Desk d = scribes(4);
        d.bit(0, 0, 0, 0, 11, 20, 30, 40, 50);
        d.bit(1, 0, 0, 0, 11, 20, 30, 40, 50);
        s.due("a fifth by 200", d.x.groups(0, 200), 3);
        s.due("a fifth by 199", d.x.groups(0, 199), 1);
        s.due("by 1000", d.x.groups(0, 1000), 3);
        d.bit(2, 0, 0, 0, 12, 20, 30, 40, 50);
        d.bit(3, 0, 0, 0, 10, 20, 30, 40, 50);
        s.due("c is 0: another WORD", d.x.groups(2, 1000), 4);
        s.due("c is 0: no SLIP", d.x.groups(3, 1000), 8);
        Desk e = scribes(2);
        e.bit(0, 0, 0, 0, 11);
        e.bit(1, 0, 0, 0, 11);
        s.due("ODDS of 1 by 1000", e.x.groups(0, 1000), 3);
        s.due("ODDS of 1 by 999", e.x.groups(0, 999), 1);
        Desk f = scribes(2);
        f.bit(0, 0, 0, 0, 11, 20, 30);
        f.bit(1, 0, 0, 0, 11, 20, 30);
        s.due("a third by 334", f.x.groups(0, 334), 3);
        s.due("a third by 333", f.x.groups(0, 333), 1);
    }

    private static void andSoOn() {
        s.says("GROUPS: who hangs together so, in some WORK that is LEFT, and so on.");
        Desk d = Desk.with(8, 8);
        for (int k = 1; k < 8; k++) d.left(k, 10, 20);
        // WRITERS 7 and 6 in WORK 7, 6 and 5 in WORK 6 .. 1 and 0 in WORK 1.
        for (int k = 1; k < 8; k++) {
            d.bit(k, k, 0, 0, 11, 20);
            d.bit(k - 1, k, 0, 0, 11, 20);
        }
        for (int m = 0; m < 8; m++) s.due("all eight, of " + m, d.x.groups(m, 500), 255);
        for (int m = 0; m < 8; m++) s.due("none, of " + m, d.x.groups(m, 499), 1 << m);
        Desk e = Desk.with(3, 4);
        e.left(0, 10, 20);
        e.bit(0, 0, 0, 0, 11, 20);
        e.bit(1, 1, 0, 0, 11, 20);
        s.due("not of one WORK", e.x.groups(0, 1000), 1);
        e.bit(0, 1, 0, 0, 11, 20);
        s.due("a lost WORK", e.x.groups(0, 1000), 1);
        e.left(1, 10, 20);
        s.due("LEFT by now", e.x.groups(0, 1000), 3);
        e.bit(3, 0, 0, 0, 11, 20);
        s.due("1 by 0", e.x.groups(1, 1000), 11);
        s.due("2 alone", e.x.groups(2, 1000), 4);
    }

    private static void groups() {
        s.says("GROUPS by so many thousandths (0 to 1000): WRITERS that hang together with a WRITER (it too), as bits; NONE: no such ones.");
        Desk d = scribes(1);
        s.due("it too", d.x.groups(0, 0), 1);
        s.due("it too", d.x.groups(0, 1000), 1);
        for (int thousandths : new int[] {-1, 1001, MIN, MAX}) s.due("by " + thousandths, d.x.groups(0, thousandths), NONE);
        for (int m : new int[] {-1, 1, 8, MIN, MAX}) s.due("WRITER " + m, d.x.groups(m, 0), NONE);
        for (int m = 1; m < 8; m++) d.x.writer(5);
        d.bit(0, 0, 0, 0, 11, 20);
        d.bit(7, 0, 0, 0, 11, 20);
        s.due("0 and 7", d.x.groups(7, 500), 129);
        s.due("by 0", d.x.groups(7, 0), 128);
        s.due("WRITER 8", d.x.groups(8, 500), NONE);
        s.due("no WRITER", new QuotedBooks().groups(0, 500), NONE);
    }

    private static Desk years(int... years) {
        Desk d = Desk.with(2, 0);
        d.left(0, 10, 20, 30, 40, 50, 60);
        for (int year : years) d.x.writer(year);
        return d;
    }

    private static void fromIs(Desk d, int writer, int source, int cost) {
        s.due("from whom " + writer, d.x.from(writer, 0, 0), source);
        s.due("cost of " + writer, d.x.from(writer, 0, 1), cost);
    }

    private static void lesserYear() {
        s.says("from a WRITER of a lesser YEAR");
        Desk d = years(500, 499, 500, 501, 0);
        d.bit(0, 0, 0, 0, 11, 21, 31);
        d.bit(2, 0, 0, 0, 11, 21, 31);
        fromIs(d, 0, NONE, 3);
        fromIs(d, 2, NONE, 3);
        d.bit(3, 0, 0, 0, 11, 21, 31);
        fromIs(d, 0, NONE, 3);
        fromIs(d, 3, 0, 1);
        d.bit(1, 0, 0, 0, 11, 21, 31);
        fromIs(d, 0, 1, 1);
        fromIs(d, 1, NONE, 3);
        d.bit(4, 0, 0, 0, 11, 21, 31);
        fromIs(d, 1, 4, 1);
        fromIs(d, 4, NONE, 3);
    }

    private static void allPlaces() {
        s.says("who has all PLACES that he has");
        Desk d = years(1, 2, 3, 4);
        d.bit(0, 0, 0, 0, 11, 21, 31);
        d.bit(1, 0, 0, 0, 11, 21, 31, 40);
        fromIs(d, 1, NONE, 3);
        d.bit(2, 0, 0, 0, 11, 21, 31);
        fromIs(d, 2, 0, 1);
        d.bit(0, 0, 0, 0, 40);
        fromIs(d, 1, 0, 1);
        d.bit(3, 0, 0, 0, 10, 20, 30, 40, 50);
        fromIs(d, 3, NONE, 0);
    }

    private static void cost() {
        s.says("the cost: himself: all his SLIPS; from another one: 1, his SLIPS that that one has not (the same WORD), and 2 for each SLIP of that one at his PLACES at which he has none");
        Desk d = years(1, 2);
        d.bit(0, 0, 0, 0, 11, 21, 31, 41, 51, 60);
        d.bit(1, 0, 0, 0, 11, 21, 31, 41, 51, 60);
        fromIs(d, 1, 0, 1);
        d = years(1, 2);
        d.bit(0, 0, 0, 0, 11, 21, 31, 41, 50, 60);
        d.bit(1, 0, 0, 0, 11, 21, 32, 41, 50, 61);
        fromIs(d, 1, 0, 3);
        d = years(1, 2);
        d.bit(0, 0, 0, 0, 11, 21, 31, 41, 51, 60);
        d.bit(1, 0, 0, 0, 11, 21, 31, 41, 50, 60);
        fromIs(d, 1, 0, 3);
        d = years(1, 2);
        d.bit(0, 0, 0, 0, 11, 21, 31, 41, 51, 61);
        d.bit(1, 0, 0, 0, 11, 21, 31, 41);
        fromIs(d, 1, 0, 1);
        d = years(1, 2);
        d.bit(0, 0, 0, 0, 10, 20, 30);
        d.bit(1, 0, 0, 0, 10, 20, 30);
        fromIs(d, 1, NONE, 0);
    }

    private static void likeOnes() {
        s.says("least; of like ones himself, then the lowest.");
        Desk d = years(1, 1, 1, 9);
        d.bit(0, 0, 0, 0, 11, 20, 30);
        d.bit(3, 0, 0, 0, 11, 20, 30);
        fromIs(d, 3, NONE, 1);
        d = years(1, 1, 1, 9);
        d.bit(2, 0, 0, 0, 11, 21, 30);
        d.bit(3, 0, 0, 0, 11, 21, 30);
        fromIs(d, 3, 2, 1);
        d.bit(1, 0, 0, 0, 11, 21, 30);
        fromIs(d, 3, 1, 1);
        d.bit(0, 0, 0, 0, 11, 21, 30);
        fromIs(d, 3, 0, 1);
        d = years(1, 1, 1, 9);
        d.bit(0, 0, 0, 0, 11, 20, 30);
        d.bit(1, 0, 0, 0, 11, 21, 31);
        d.bit(3, 0, 0, 0, 11, 21, 31);
        fromIs(d, 3, 1, 1);
    }

    private static void from() {
        s.says("FROM WHOM a WRITER had WORK k, what 0 the WRITER (NONE: himself), 1 the cost; -2: he has no PLACES in it; -3: no such ones, it is not LEFT.");
        Desk d = Desk.with(8, 8);
        d.left(7, 10, 20, 30);
        s.due("no PLACES", d.x.from(7, 7, 0), -2);
        s.due("no PLACES", d.x.from(7, 7, 1), -2);
        d.bit(7, 7, 0, 0, 20, 10);
        s.due("a BIT without PLACES", d.x.from(7, 7, 0), -2);
        for (int what : new int[] {-1, 2, MIN, MAX}) s.due("no PLACES, what " + what, d.x.from(7, 7, what), -3);
        d.bit(7, 7, 0, 0, 11, 21, 30);
        d.bit(6, 7, 0, 0, 11, 21, 30);
        s.due("the last ones", d.x.from(7, 7, 0), 6);
        s.due("the cost", d.x.from(7, 7, 1), 1);
        for (int what : new int[] {-1, 2, MIN, MAX}) s.due("what " + what, d.x.from(7, 7, what), -3);
        for (int what = 0; what < 2; what++) {
            s.due("it is not LEFT", d.x.from(7, 6, what), -3);
            for (int m : new int[] {-1, 8, MIN, MAX}) s.due("WRITER " + m, d.x.from(m, 7, what), -3);
            for (int k : new int[] {-1, 8, MIN, MAX}) s.due("WORK " + k, d.x.from(7, k, what), -3);
        }
    }

    private static void greatestYear() {
        s.says("THERE: the greatest YEAR in which some WRITER had it himself (with PLACES in it).");
        Desk d = years(0, 999, 500, 998);
        s.due("no PLACES", d.x.there(0), NONE);
        d.bit(0, 0, 0, 0, 11, 21, 30);
        s.due("YEAR 0", d.x.there(0), 0);
        d.bit(1, 0, 0, 0, 11, 21, 30);
        s.due("999 had it from 0", d.x.there(0), 0);
        d.bit(2, 0, 0, 0, 10);
        s.due("500 himself", d.x.there(0), 500);
        d.bit(3, 0, 0, 0, 20, 10);
        s.due("998 has no PLACES", d.x.there(0), 500);
        d.bit(1, 0, 0, 0, 40);
        s.due("999 has a PLACE more than 0", d.x.there(0), 999);
    }

    private static void there() {
        s.says("THERE: the YEAR of WORK k; NONE: nobody had it himself, no such one, it is not LEFT.");
        Desk d = Desk.with(8, 1);
        s.due("it is not LEFT", d.x.there(7), NONE);
        d.left(7, 10, 20);
        s.due("nobody", d.x.there(7), NONE);
        d.bit(0, 7, 0, 0, 10);
        d.bit(0, 6, 0, 0, 10);
        s.due("WORK 7", d.x.there(7), 100);
        s.due("it is not LEFT", d.x.there(6), NONE);
        for (int k : new int[] {-1, 8, MIN, MAX}) s.due("WORK " + k, d.x.there(k), NONE);
    }
}
