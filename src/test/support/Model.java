import java.math.BigInteger;
import java.util.ArrayList;
import java.util.Arrays;
import java.util.HashMap;
import java.util.List;
import java.util.Map;
import java.util.Optional;
import java.util.TreeMap;

/**
 * The document once more, in the plainest way that there is (all rows, all stretches, all sets), to
 * hold the program against. Nothing here is quick, and nothing is shared with the program.
 */
final class Model {
    record Author(int year, int prior) { }
    static final class Work { int author; int books; int[] words = {}; int[] wordBooks = {}; }
    record Bit(int writer, int work, int book, int subject, List<Integer> words) { }
    record Gift(int bit, int work, int year) { }
    record Near(int far, int first, int last) { }
    record Slips(TreeMap<Integer, Integer> put, TreeMap<Integer, Boolean> places) { }
    record Best(int points, long rows, List<Integer> row, boolean[][] aheadInSome) { }

    final List<Author> authors = new ArrayList<>();
    final List<Work> works = new ArrayList<>();
    final List<Integer> writers = new ArrayList<>();
    final List<Bit> bits = new ArrayList<>();
    final List<Gift> gifts = new ArrayList<>();
    final List<int[]> pairs = new ArrayList<>();
    final ModelText[] ways = new ModelText[8];
    ModelText planText;
    ModelText habitText;
    ModelText tableText;
    final List<Integer> tape = new ArrayList<>();
    int x = 1;
    /** What has been reckoned once, as these ways are slow: NEAR for good, rows till something is told. */
    private final Map<List<Integer>, Near> nears = new HashMap<>();
    private final Map<List<Integer>, Optional<Best>> bests = new HashMap<>();

    boolean isAuthor(int a) { return a >= 0 && a < authors.size(); }
    boolean isWork(int k) { return k >= 0 && k < works.size(); }
    boolean isLeft(int k) { return isWork(k) && works.get(k).words.length > 0; }
    boolean isWriter(int m) { return m >= 0 && m < writers.size(); }
    boolean isBit(int i) { return i >= 0 && i < bits.size(); }

    int author(int year, int prior) {
        if (year < 0 || year > 999 || prior < 1 || prior > 100 || authors.size() == 8) return -1;
        authors.add(new Author(year, prior));
        return authors.size() - 1;
    }

    int work(int author, int books) {
        if (!isAuthor(author) || books < 1 || books > 40 || works.size() == 8) return -1;
        Work w = new Work();
        w.author = author;
        w.books = books;
        works.add(w);
        return works.size() - 1;
    }

    int writer(int year) {
        if (year < 0 || year > 999 || writers.size() == 8) return -1;
        writers.add(year);
        return writers.size() - 1;
    }

    boolean seed(int s) {
        if (s < 0 || s > 65535) return false;
        x = s;
        return true;
    }

    int feed(int a, int b, int c, int d, int e) {
        if (tape.size() + 20 > 200) return -1;
        for (int v : new int[] {a, b, c, d, e}) {
            tape.add(v >>> 24);
            tape.add(v >>> 16 & 255);
            tape.add(v >>> 8 & 255);
            tape.add(v & 255);
        }
        return tape.size();
    }

    /** The first bytes of the tape, which is empty then; null if it has not so many. */
    private int[] take(long bytes) {
        if (bytes < 0 || bytes > tape.size()) return null;
        int[] taken = tape.subList(0, (int) bytes).stream().mapToInt(v -> v).toArray();
        tape.clear();
        return taken;
    }

    boolean left(int k, int n) {
        if (!isWork(k) || isLeft(k) || n < 1 || n > 40) return false;
        int[] t = take(2L * n);
        if (t == null) return false;
        int[] words = new int[n];
        int[] books = new int[n];
        for (int p = 0; p < n; p++) {
            words[p] = t[2 * p];
            books[p] = t[2 * p + 1];
            if (words[p] > 63 || books[p] < 1 || books[p] > works.get(k).books) return false;
            if (p > 0 && books[p] < books[p - 1]) return false;
        }
        works.get(k).words = words;
        works.get(k).wordBooks = books;
        return true;
    }

    int bit(int writer, int work, int book, int subject, int n) {
        if (!isWriter(writer) || work != -1 && !isWork(work)) return -1;
        if (book < 0 || book > 40 || subject < 0 || subject > 9 || n < 1 || n > 8 || bits.size() == 40) return -1;
        int[] t = take(n);
        if (t == null) return -1;
        List<Integer> words = new ArrayList<>();
        for (int v : t) {
            if (v > 63) return -2;
            words.add(v);
        }
        bits.add(new Bit(writer, work, book, subject, words));
        return bits.size() - 1;
    }

    private interface Keep { void text(ModelText text); }

    private int read(int n, boolean known, String heads, Keep keep) {
        if (!known || n < 1 || n > 160) return -1;
        int[] t = take(n);
        if (t == null) return -1;
        try {
            ModelText text = new ModelText(t, heads);
            keep.text(text);
            return text.clauses();
        } catch (ModelText.Fault f) {
            return f.answer;
        }
    }

    int way(int writer, int n) {
        return read(n, isWriter(writer), "dcn", text -> ways[writer] = text);
    }

    int plan(int n) {
        bests.clear();
        return read(n, true, "p", text -> planText = text);
    }

    int habit(int n) {
        return read(n, true, "h", text -> habitText = text);
    }

    int table(int n) {
        return read(n, true, "g", text -> tableText = text);
    }

    private static int reckon(ModelText text, char head, int least, int most, String letters, int... values) {
        return text == null ? 0 : text.value(head, least, most, letters, values);
    }

    int quote(int writer, int work, int from, int to, int subject) {
        if (!isWriter(writer) || !isLeft(work) || subject < 0 || subject > 9 || bits.size() == 40) return -1;
        Work w = works.get(work);
        if (from < 0 || to < from || to >= w.words.length || to - from + 1 > 12) return -1;
        List<Integer> all = new ArrayList<>();
        int book = 0;
        for (int p = from; p <= to; p++) {
            x = (int) ((25173L * x + 13849) % 65536);
            int luck = x % 1000;
            int[] v = {w.words[p], p - from, to - from + 1, w.wordBooks[p], luck, writers.get(writer), work, writer};
            int d = reckon(ways[writer], 'd', 0, 1000, "wilbxykm", v);
            int c = reckon(ways[writer], 'c', 0, 1000, "wilbxykm", v);
            int n = reckon(ways[writer], 'n', -9, 9, "wilbxykm", v);
            if (p == from) book = Math.max(1, Math.min(40, w.wordBooks[p] + n));
            if (luck >= d) all.add(luck < d + c ? (w.words[p] + 1) % 64 : w.words[p]);
        }
        if (all.isEmpty()) return -2;
        bits.add(new Bit(writer, work, book, subject, new ArrayList<>(all.subList(0, Math.min(8, all.size())))));
        return bits.size() - 1;
    }

    int bitIs(int i, int what) {
        if (!isBit(i)) return -1;
        Bit b = bits.get(i);
        if (what == 0) return b.writer;
        if (what == 1) return b.work;
        if (what == 2) return b.book;
        if (what == 3) return b.subject;
        if (what == 4) return b.words.size();
        if (what >= 10 && what < 10 + b.words.size()) return b.words.get(what - 10);
        return -1;
    }

    static int far(List<Integer> a, List<Integer> b) {
        int[][] m = new int[a.size() + 1][b.size() + 1];
        for (int i = 0; i <= a.size(); i++) {
            for (int j = 0; j <= b.size(); j++) {
                if (i == 0 || j == 0) {
                    m[i][j] = i + j;
                } else {
                    int change = a.get(i - 1).equals(b.get(j - 1)) ? 0 : 1;
                    m[i][j] = Math.min(m[i - 1][j - 1] + change, 1 + Math.min(m[i - 1][j], m[i][j - 1]));
                }
            }
        }
        return m[a.size()][b.size()];
    }

    int apart(int a, int b) {
        return isBit(a) && isBit(b) ? far(bits.get(a).words, bits.get(b).words) : -1;
    }

    static List<Integer> stretch(Work w, int first, int last) {
        List<Integer> words = new ArrayList<>();
        for (int p = first; p <= last; p++) words.add(w.words[p]);
        return words;
    }

    Near nearOf(int i, int k) {
        return nears.computeIfAbsent(List.of(i, k), key -> nearestStretch(i, k));
    }

    private Near nearestStretch(int i, int k) {
        Work w = works.get(k);
        Near best = null;
        for (int first = 0; first < w.words.length; first++) {
            for (int last = w.words.length - 1; last >= first; last--) {
                int f = far(bits.get(i).words, stretch(w, first, last));
                if (best == null || f < best.far) best = new Near(f, first, last);
            }
        }
        return best;
    }

    int nearnessOf(int i, int k) {
        int n = bits.get(i).words.size();
        return 1000 * Math.max(0, n - nearOf(i, k).far) / n;
    }

    int near(int i, int k, int what) {
        if (!isBit(i) || !isLeft(k) || what < 0 || what > 3) return -1;
        Near n = nearOf(i, k);
        return what == 0 ? n.far : what == 1 ? n.first : what == 2 ? n.last : nearnessOf(i, k);
    }

    int nearness(int writer, int what) {
        if (!isWriter(writer) || what < 0 || what > 3) return -1;
        int[] all = bits.stream().filter(b -> b.writer == writer && isLeft(b.work))
                .mapToInt(b -> nearnessOf(bits.indexOf(b), b.work)).toArray();
        if (what == 3) return all.length;
        if (all.length == 0) return -2;
        Arrays.sort(all);
        return what == 0 ? all[0] : what == 1 ? all[all.length - 1] : Arrays.stream(all).sum() / all.length;
    }

    long same(int i, int far) {
        if (!isBit(i) || far < 0 || far > 8) return -1;
        long set = 0;
        for (int j = 0; j < bits.size(); j++) if (apart(i, j) <= far) set |= 1L << j;
        return set;
    }

    static boolean standsIn(List<Integer> part, List<Integer> all) {
        int p = 0;
        for (int v : all) if (p < part.size() && part.get(p) == v) p++;
        return p == part.size();
    }

    List<Integer> stoodRow(int a, int b) {
        List<Integer> one = bits.get(a).words;
        List<Integer> best = new ArrayList<>();
        for (int set = 0; set < 1 << one.size(); set++) {
            List<Integer> part = new ArrayList<>();
            for (int p = 0; p < one.size(); p++) if ((set >> p & 1) == 1) part.add(one.get(p));
            if (!standsIn(part, bits.get(b).words)) continue;
            boolean longer = part.size() > best.size();
            boolean lesser = part.size() == best.size()
                    && Arrays.compare(part.toArray(new Integer[0]), best.toArray(new Integer[0])) < 0;
            if (longer || lesser) best = part;
        }
        return best;
    }

    int stood(int a, int b, int what) {
        if (!isBit(a) || !isBit(b) || what < -1) return -1;
        List<Integer> row = stoodRow(a, b);
        return what == -1 ? row.size() : what < row.size() ? row.get(what) : -2;
    }

    Slips slipsOf(int writer, int k) {
        Slips s = new Slips(new TreeMap<>(), new TreeMap<>());
        for (int i = 0; i < bits.size(); i++) {
            Bit b = bits.get(i);
            if (b.writer != writer || b.work != k) continue;
            Near n = nearOf(i, k);
            List<Integer> there = stretch(works.get(k), n.first, n.last);
            if (there.size() != b.words.size()) continue;
            int others = 0;
            for (int p = 0; p < there.size(); p++) if (!there.get(p).equals(b.words.get(p))) others++;
            if (others != n.far) continue;
            for (int p = 0; p < there.size(); p++) {
                boolean isFirst = s.places.put(n.first + p, true) == null;
                if (isFirst && !there.get(p).equals(b.words.get(p))) s.put.put(n.first + p, b.words.get(p));
            }
        }
        return s;
    }

    static long asBits(Iterable<Integer> places) {
        long set = 0;
        for (int p : places) set |= 1L << p;
        return set;
    }

    long slips(int writer, int k, int what) {
        if (!isWriter(writer) || !isLeft(k) || what < 0 || what > 3) return -1;
        Slips s = slipsOf(writer, k);
        return what == 0 ? s.put.size() : what == 1 ? s.places.size()
                : what == 2 ? asBits(s.places.keySet()) : asBits(s.put.keySet());
    }

    int slip(int writer, int k, int place) {
        return isWriter(writer) && isLeft(k) ? slipsOf(writer, k).put.getOrDefault(place, -1) : -1;
    }

    static BigInteger choose(int n, int k) {
        if (k < 0 || k > n) return BigInteger.ZERO;
        BigInteger up = BigInteger.ONE;
        BigInteger down = BigInteger.ONE;
        for (int j = 0; j < k; j++) {
            up = up.multiply(BigInteger.valueOf(n - j));
            down = down.multiply(BigInteger.valueOf(j + 1));
        }
        return up.divide(down);
    }

    long[] sharedRow(int a, int b, int k) {
        Slips one = slipsOf(a, k);
        Slips other = slipsOf(b, k);
        int[] n = new int[4];
        for (int p : one.places.keySet()) {
            if (!other.places.containsKey(p)) continue;
            n[0]++;
            if (one.put.containsKey(p)) n[1]++;
            if (other.put.containsKey(p)) n[2]++;
            if (one.put.containsKey(p) && one.put.get(p).equals(other.put.get(p))) n[3]++;
        }
        BigInteger above = BigInteger.ZERO;
        for (int j = n[3]; j <= Math.min(n[1], n[2]); j++) {
            above = above.add(choose(n[1], j).multiply(choose(n[0] - n[1], n[2] - j)));
        }
        BigInteger below = choose(n[0], n[2]);
        BigInteger g = above.gcd(below);
        return new long[] {n[0], n[1], n[2], n[3], above.divide(g).longValueExact(), below.divide(g).longValueExact()};
    }

    long shared(int a, int b, int k, int what) {
        if (!isWriter(a) || !isWriter(b) || a == b || !isLeft(k) || what < 0 || what > 5) return -1;
        return sharedRow(a, b, k)[what];
    }

    int groups(int writer, int thousandths) {
        if (!isWriter(writer) || thousandths < 0 || thousandths > 1000) return -1;
        int n = writers.size();
        boolean[][] hang = new boolean[n][n];
        for (int a = 0; a < n; a++) {
            for (int b = 0; b < n; b++) {
                hang[a][b] = a == b;
                for (int k = 0; a != b && k < works.size(); k++) {
                    if (!isLeft(k)) continue;
                    long[] s = sharedRow(a, b, k);
                    if (s[3] > 0 && s[4] * 1000 <= thousandths * s[5]) hang[a][b] = true;
                }
            }
        }
        for (int m = 0; m < n; m++)
            for (int a = 0; a < n; a++)
                for (int b = 0; b < n; b++)
                    if (hang[a][m] && hang[m][b]) hang[a][b] = true;
        int set = 0;
        for (int b = 0; b < n; b++) if (hang[writer][b]) set |= 1 << b;
        return set;
    }

    int[] source(int writer, int k) {
        Slips his = slipsOf(writer, k);
        int[] best = {-1, his.put.size()};
        for (int m = 0; m < writers.size(); m++) {
            Slips s = slipsOf(m, k);
            if (writers.get(m) >= writers.get(writer) || !s.places.keySet().containsAll(his.places.keySet())) continue;
            int cost = 1;
            for (int p : his.put.keySet()) if (!his.put.get(p).equals(s.put.get(p))) cost++;
            for (int p : s.put.keySet()) if (his.places.containsKey(p) && !his.put.containsKey(p)) cost += 2;
            if (cost < best[1]) best = new int[] {m, cost};
        }
        return best;
    }

    int from(int writer, int k, int what) {
        if (!isWriter(writer) || !isLeft(k) || what < 0 || what > 1) return -3;
        return slipsOf(writer, k).places.isEmpty() ? -2 : source(writer, k)[what];
    }

    int there(int k) {
        int year = -1;
        for (int m = 0; isLeft(k) && m < writers.size(); m++) {
            if (from(m, k, 0) == -1) year = Math.max(year, writers.get(m));
        }
        return year;
    }

    boolean ahead(int a, int b) {
        if (!isBit(a) || !isBit(b) || a == b || pairs.size() == 60) return false;
        if (bits.get(a).work == -1 || bits.get(a).work != bits.get(b).work) return false;
        for (int[] p : pairs) if (p[0] == a && p[1] == b) return false;
        pairs.add(new int[] {a, b});
        bests.clear();
        return true;
    }

    List<Integer> bitsOf(int k) {
        List<Integer> of = new ArrayList<>();
        for (int i = 0; i < bits.size(); i++) if (bits.get(i).work == k) of.add(i);
        return of;
    }

    /** Goes through all rows; null if there is none, or none is told. */
    Best best(List<Integer> of) {
        if (of.isEmpty() || of.size() > 10) return null;
        return bests.computeIfAbsent(List.copyOf(of), key -> Optional.ofNullable(bestRow(key))).orElse(null);
    }

    private Best bestRow(List<Integer> of) {
        Search s = new Search(of);
        s.go(new ArrayList<>(), 0);
        return s.row == null ? null : new Best(s.most, s.rows, s.row, s.aheadInSome);
    }

    private final class Search {
        final List<Integer> of;
        final int[][] gain = new int[40][40];
        int most = Integer.MIN_VALUE;
        long rows;
        List<Integer> row;
        boolean[][] aheadInSome;

        Search(List<Integer> of) {
            this.of = of;
            for (int a : of) {
                for (int b : of) {
                    Bit f = bits.get(a);
                    Bit g = bits.get(b);
                    gain[a][b] = reckon(planText, 'p', -1000, 1000, "bcstyzli", f.book, g.book, f.subject, g.subject,
                            writers.get(f.writer), writers.get(g.writer), f.words.size(), g.words.size());
                }
            }
        }

        void go(List<Integer> laid, int points) {
            if (laid.size() == of.size()) {
                end(laid, points);
                return;
            }
            for (int next : of) {
                if (laid.contains(next)) continue;
                boolean may = true;
                for (int[] p : pairs) if (p[1] == next && of.contains(p[0]) && !laid.contains(p[0])) may = false;
                if (!may) continue;
                int more = laid.isEmpty() ? 0 : gain[laid.get(laid.size() - 1)][next];
                laid.add(next);
                go(laid, points + more);
                laid.remove(laid.size() - 1);
            }
        }

        void end(List<Integer> laid, int points) {
            if (points < most) return;
            if (points > most) {
                most = points;
                rows = 0;
                row = new ArrayList<>(laid);
                aheadInSome = new boolean[40][40];
            }
            rows++;
            for (int p = 0; p < laid.size(); p++)
                for (int q = p + 1; q < laid.size(); q++) aheadInSome[laid.get(p)][laid.get(q)] = true;
        }
    }

    int order(int k, int what) {
        Best b = isWork(k) ? best(bitsOf(k)) : null;
        if (b == null || what < -1 || what >= b.row.size()) return -1000000;
        return what == -1 ? b.points : b.row.get(what);
    }

    long orders(int k) {
        if (!isWork(k)) return -1;
        Best b = best(bitsOf(k));
        return b == null ? 0 : b.rows;
    }

    int sure(int a, int b) {
        if (!isBit(a) || !isBit(b) || a == b) return -1;
        if (bits.get(a).work == -1 || bits.get(a).work != bits.get(b).work) return -1;
        Best best = best(bitsOf(bits.get(a).work));
        return best == null ? -2 : best.aheadInSome[b][a] ? 0 : 1;
    }

    int moves(int i) {
        if (!isBit(i) || bits.get(i).work == -1) return -1000000;
        List<Integer> of = bitsOf(bits.get(i).work);
        Best with = best(of);
        if (with == null) return -1000000;
        of.remove(Integer.valueOf(i));
        return of.isEmpty() ? 0 : with.points - best(of).points;
    }

    long truth(long set, int books, int what) {
        if (Long.bitCount(set) < 1 || Long.bitCount(set) > 6 || books < 1 || books > 40) return -1;
        if (what < 0 || what > books) return -1;
        long all = 0;
        for (int book = 1; book <= books; book++) {
            long product = 1;
            for (int i = 0; i < 64; i++) {
                if ((set >>> i & 1) == 0) continue;
                if (!isBit(i) || bits.get(i).book == 0) return -1;
                product *= reckon(tableText, 'g', 0, 100, "bcn", bits.get(i).book, book, books);
            }
            if (what == book) return product;
            all += product;
        }
        return all;
    }

    private boolean[] told(int k) {
        boolean[] told = new boolean[41];
        for (Bit b : bits) if (b.work == k) told[b.book] = true;
        told[0] = false;
        return told;
    }

    /** The odds; null if no BIT tells a BOOK. */
    private BigInteger[] lengthOf(int k, int books) {
        int number = 0;
        int greatest = 0;
        boolean[] told = told(k);
        for (int b = 1; b <= 40; b++) {
            if (told[b]) {
                number++;
                greatest = b;
            }
        }
        if (number == 0) return null;
        if (books < greatest) return new BigInteger[] {BigInteger.ZERO, BigInteger.ONE};
        BigInteger above = choose(greatest - 1, number - 1);
        BigInteger below = choose(books, number);
        BigInteger g = above.gcd(below);
        return new BigInteger[] {above.divide(g), below.divide(g)};
    }

    long length(int k, int books, int what) {
        if (!isWork(k) || books < 1 || books > 40 || what < 0 || what > 1) return -1;
        BigInteger[] l = lengthOf(k, books);
        return l == null ? -2 : l[what].longValueExact();
    }

    int span(int k, int thousandths, int what) {
        if (!isWork(k) || thousandths < 1 || thousandths > 1000 || what < 0 || what > 1) return -1;
        List<Integer> all = new ArrayList<>();
        for (int n = 1; n <= 40; n++) {
            BigInteger[] l = lengthOf(k, n);
            if (l == null) return -2;
            BigInteger up = l[0].multiply(BigInteger.valueOf(1000));
            if (up.compareTo(l[1].multiply(BigInteger.valueOf(thousandths))) >= 0) all.add(n);
        }
        return all.isEmpty() ? -2 : what == 0 ? all.get(0) : all.get(all.size() - 1);
    }

    long nobody(int k, int books) {
        if (!isWork(k) || books < 1 || books > 40) return -1;
        long set = 0;
        boolean[] told = told(k);
        for (int b = 1; b <= books; b++) if (!told[b]) set |= 1L << (b - 1);
        return set;
    }

    private int pointsFor(int i, int a) {
        List<Integer> has = new ArrayList<>();
        for (Work w : works) if (w.author == a) for (int v : w.words) has.add(v);
        for (int j = 0; j < bits.size(); j++) {
            Bit b = bits.get(j);
            if (j != i && b.work != -1 && works.get(b.work).author == a) has.addAll(b.words);
        }
        int sum = 0;
        List<Integer> words = bits.get(i).words;
        for (int p = 0; p < words.size(); p++) {
            int w = words.get(p);
            int n = (int) has.stream().filter(v -> v == w).count();
            sum += reckon(habitText, 'h', -1000, 1000, "wntpiy", w, n, has.size(), authors.get(a).prior, p, authors.get(a).year);
        }
        return sum;
    }

    int whose(int i, int what) {
        if (!isBit(i) || authors.isEmpty() || what < 0 || what > 2) return -1000000;
        int best = 0;
        for (int a = 1; a < authors.size(); a++) if (pointsFor(i, a) > pointsFor(i, best)) best = a;
        if (what == 0) return best;
        if (what == 1) return pointsFor(i, best);
        int next = Integer.MIN_VALUE;
        for (int a = 0; a < authors.size(); a++) if (a != best) next = Math.max(next, pointsFor(i, a));
        return authors.size() == 1 ? -1 : pointsFor(i, best) - next;
    }

    private long bond(int a, int b) {
        List<Integer> both = new ArrayList<>(bits.get(a).words);
        both.retainAll(bits.get(b).words);
        return 4 - Math.abs(bits.get(a).subject - bits.get(b).subject) + both.stream().distinct().count();
    }

    long men(int author, int what) {
        if (!isAuthor(author) || what < 0 || what > 1) return -1000000;
        List<Integer> of = new ArrayList<>();
        for (int i = 0; i < bits.size(); i++) {
            int k = bits.get(i).work;
            if (k != -1 && works.get(k).author == author) of.add(i);
        }
        if (of.isEmpty() || of.size() > 10) return -1000000;
        long most = Long.MIN_VALUE;
        long second = 0;
        for (int cut = 0; cut < 1 << of.size(); cut++) {
            long set = 0;
            for (int p = 0; p < of.size(); p++) if ((cut >> p & 1) == 1) set |= 1L << of.get(p);
            if ((set >> of.get(0) & 1) == 1) continue;
            long value = 0;
            for (int a : of) for (int b : of) if (a < b) value += (set >> a & 1) == (set >> b & 1) ? bond(a, b) : -bond(a, b);
            if (value > most || value == most && set < second) {
                most = value;
                second = set;
            }
        }
        return what == 0 ? second : most;
    }

    boolean gives(int i, int work, int year) {
        if (!isBit(i) || work != -1 && !isWork(work) || year < 0 || year > 2000 || gifts.size() == 60) return false;
        if (!gifts.isEmpty() && gifts.get(gifts.size() - 1).year > year) return false;
        gifts.add(new Gift(i, work, year));
        return true;
    }

    int given(int i, int year) {
        if (!isBit(i) || year < 0 || year > 2000) return -2;
        for (int g = gifts.size() - 1; g >= 0; g--) {
            if (gifts.get(g).bit == i && gifts.get(g).year <= year) return gifts.get(g).work;
        }
        return bits.get(i).work;
    }

    long wrong(int year) {
        if (year < 0 || year > 2000) return -1;
        long set = 0;
        for (int i = 0; i < bits.size(); i++) {
            int k = given(i, year);
            if (k == -1) continue;
            boolean tooLate = authors.get(works.get(k).author).year > writers.get(bits.get(i).writer);
            if (tooLate || works.get(k).books < bits.get(i).book) set |= 1L << i;
        }
        return set;
    }

    int check(int i, int n) {
        if (!isBit(i)) return -2;
        int[] t = take(4L * n);
        if (t == null) return -2;
        List<Integer> words = bits.get(i).words;
        for (int p = 0; p < n; p++) {
            int v = t[4 * p] << 24 | t[4 * p + 1] << 16 | t[4 * p + 2] << 8 | t[4 * p + 3];
            if (p >= words.size() || v != words.get(p)) return p;
        }
        return n == words.size() ? -1 : n;
    }

    private static int clauses(ModelText text) {
        return text == null ? 0 : text.clauses();
    }

    int count(int what) {
        if (what >= 10 && what < 10 + writers.size()) return clauses(ways[what - 10]);
        if (what >= 20 && what < 20 + works.size()) return works.get(what - 20).words.length;
        int[] all = {authors.size(), works.size(), writers.size(), bits.size(), x, tape.size(),
            clauses(planText), clauses(habitText), clauses(tableText), pairs.size()};
        return what >= 0 && what < 10 ? all[what] : -1;
    }
}
