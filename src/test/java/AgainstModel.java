import java.util.List;
import java.util.Random;

/** Long runs of calls by fixed seeds, each answer held against the Model, which is slow and plain. */
public final class AgainstModel {
    /** Some are left for the counts at the end. */
    private static final int CALLS = Twin.MOST_CALLS - 31;
    private static final String LETTERS = "wilbxykmcstznp";

    private final Random random;
    private final int flavour;
    private final Twin twin = new Twin();
    private final Model model = twin.model;

    private AgainstModel(long seed) {
        random = new Random(seed);
        flavour = (int) (seed % 5);
    }

    public static void main(String[] args) {
        int runs = args.length > 0 ? Integer.parseInt(args[0]) : 500;
        int first = args.length > 1 ? Integer.parseInt(args[1]) : 1;
        int wrong = 0;
        for (int seed = first; seed < first + runs && wrong < 5; seed++) {
            AgainstModel run = new AgainstModel(seed);
            run.go();
            if (run.twin.failed()) {
                wrong++;
                System.out.println("seed " + seed + ":");
                run.twin.print();
            }
        }
        System.out.println(runs + " runs against the model, " + wrong + " wrong");
        System.exit(wrong == 0 ? 0 : 1);
    }

    private long call(String name, long... args) {
        return twin.calls() < CALLS ? twin.call(name, args) : -1;
    }

    private boolean oneIn(int n) {
        return random.nextInt(n) == 0;
    }

    /** Mostly a number that is there, now and then one beside it or far off. */
    private int some(int count) {
        if (oneIn(25)) return random.nextInt(4) == 0 ? random.nextInt() : random.nextInt(count + 3) - 2;
        return count == 0 ? 0 : random.nextInt(count);
    }

    private int between(int least, int most) {
        if (oneIn(30)) return oneIn(2) ? (oneIn(2) ? least - 1 : most + 1) : random.nextInt();
        return least + random.nextInt(most - least + 1);
    }

    /** Refused calls leave the tape: mostly emptied ahead of the next, as all would run into it else. */
    private void feed(byte[] bytes) {
        if (!model.tape.isEmpty() && !oneIn(8)) call("plan", 1);
        for (int start = 0; start < bytes.length; start += 20) {
            long[] five = new long[5];
            for (int i = 0; i < 20; i++) {
                int b = start + i < bytes.length ? bytes[start + i] & 255 : random.nextInt(3) == 0 ? random.nextInt(256) : 0;
                five[i / 4] = five[i / 4] << 8 | b;
            }
            for (int i = 0; i < 5; i++) five[i] = (int) five[i];
            call("feed", five);
        }
    }

    /** Runs in which few WRITERS quote one WORK of many different WORDS, and take over SLIPS. */
    private boolean copying() {
        return flavour == 2;
    }

    private int word() {
        return flavour == 3 || copying() ? random.nextInt(64) : random.nextInt(flavour == 0 ? 3 : 6);
    }

    private void tellLeft() {
        int k = some(model.works.size());
        int n = oneIn(4) ? between(1, 40) : between(1, 15);
        if (n < 0 || n > 60) n = 3;
        byte[] bytes = new byte[2 * n];
        int books = model.isWork(k) ? model.works.get(k).books : 3;
        int book = 1;
        for (int p = 0; p < n; p++) {
            if (oneIn(3)) book = Math.min(books, book + random.nextInt(3));
            bytes[2 * p] = (byte) (oneIn(400) ? 64 : word());
            bytes[2 * p + 1] = (byte) (oneIn(400) ? random.nextInt(256) : book);
        }
        feed(bytes);
        call("left", k, oneIn(20) ? between(0, 60) : n);
    }

    private void tellBit() {
        int k = oneIn(8) ? -1 : some(model.works.size());
        int n = 1 + random.nextInt(8);
        byte[] bytes = new byte[n];
        if (copying() && !model.bits.isEmpty() && oneIn(2)) {
            Model.Bit before = model.bits.get(random.nextInt(model.bits.size()));
            k = before.work();
            n = before.words().size();
            bytes = new byte[n];
            for (int p = 0; p < n; p++) bytes[p] = (byte) (before.words().get(p) ^ (oneIn(8) ? 1 : 0));
        } else if (model.isLeft(k) && !oneIn(5)) {
            int[] words = model.works.get(k).words;
            int start = random.nextInt(words.length);
            for (int p = 0; p < n; p++) {
                bytes[p] = (byte) words[Math.min(words.length - 1, start)];
                start += copying() ? 1 : oneIn(12) ? 0 : oneIn(12) ? 2 : 1;
                if (oneIn(4)) bytes[p] = (byte) ((bytes[p] + 1) % 64);
            }
        } else {
            for (int p = 0; p < n; p++) bytes[p] = (byte) word();
        }
        if (oneIn(60)) bytes[random.nextInt(n)] = (byte) (64 + random.nextInt(192));
        feed(bytes);
        int book = oneIn(5) ? 0 : between(1, oneIn(3) ? 40 : 6);
        call("bit", some(model.writers.size()), k, book, between(0, 9), oneIn(30) ? between(0, 9) : n);
        if (oneIn(2)) {
            int i = some(model.bits.size());
            numbers(i);
        }
    }

    private void numbers(int i) {
        List<Integer> words = model.isBit(i) ? model.bits.get(i).words() : List.of();
        int n = oneIn(2) ? words.size() : random.nextInt(10);
        byte[] bytes = new byte[4 * n];
        for (int p = 0; p < n; p++) {
            int v = p < words.size() && !oneIn(12) ? words.get(p) : random.nextInt(64);
            if (oneIn(40)) v += random.nextInt() << 8;
            for (int b = 0; b < 4; b++) bytes[4 * p + b] = (byte) (v >>> 24 - 8 * b);
        }
        feed(bytes);
        call("check", i, oneIn(10) ? between(-1, 12) : n);
    }

    private String sum(int deep) {
        StringBuilder s = new StringBuilder(term(deep));
        while (oneIn(3)) s.append("+-".charAt(random.nextInt(2))).append(term(deep));
        return s.toString();
    }

    private String term(int deep) {
        StringBuilder s = new StringBuilder(factor(deep));
        while (oneIn(3)) s.append("*/%".charAt(random.nextInt(3))).append(factor(deep));
        return s.toString();
    }

    private String factor(int deep) {
        if (deep > 0 && oneIn(4)) return "[" + sum(deep - 1) + "]";
        if (oneIn(2)) return String.valueOf(LETTERS.charAt(random.nextInt(LETTERS.length())));
        return String.valueOf(random.nextInt(oneIn(5) ? 100000 : oneIn(3) ? 1001 : 10));
    }

    private String choice(int deep) {
        StringBuilder s = new StringBuilder(piece(deep));
        while (oneIn(3)) s.append("|&".charAt(random.nextInt(2))).append(piece(deep));
        return s.toString();
    }

    private String piece(int deep) {
        if (deep > 0 && oneIn(5)) return "!" + piece(deep - 1);
        if (deep > 0 && oneIn(4)) return "(" + choice(deep - 1) + ")";
        return sum(deep) + "<>=".charAt(random.nextInt(3)) + sum(deep);
    }

    private String text(String heads) {
        int clauses = oneIn(25) ? 10 + random.nextInt(4) : 1 + random.nextInt(4);
        StringBuilder s = new StringBuilder();
        for (int c = 0; c < clauses; c++) {
            if (c > 0) s.append(';');
            s.append(heads.charAt(random.nextInt(heads.length())));
            boolean small = clauses > 8;
            s.append(small ? factor(0) : sum(oneIn(4) ? 6 : 2));
            s.append('(').append(small || oneIn(3) ? "0=0" : choice(oneIn(4) ? 6 : 2)).append(')');
        }
        while (oneIn(6)) {
            int p = random.nextInt(s.length());
            String signs = "()[]!&|;<>=+-*/%0123456789dcnphgabciklmnpstwxyz ;";
            char sign = signs.charAt(random.nextInt(signs.length()));
            if (oneIn(3)) s.setCharAt(p, sign);
            else if (oneIn(2)) s.insert(p, sign);
            else if (s.length() > 1) s.deleteCharAt(p);
        }
        return s.toString();
    }

    private void tellText() {
        int kind = random.nextInt(4);
        String t = text(new String[] {"dcn", "p", "h", "g"}[kind]);
        if (t.length() > 160) t = t.substring(0, 160);
        byte[] bytes = new byte[t.length()];
        for (int i = 0; i < bytes.length; i++) bytes[i] = (byte) t.charAt(i);
        feed(bytes);
        int n = oneIn(15) ? between(0, 161) : bytes.length;
        switch (kind) {
            case 0: call("way", some(model.writers.size()), n); break;
            case 1: call("plan", n); break;
            case 2: call("habit", n); break;
            default: call("table", n); break;
        }
    }

    /** All rows are gone through by the Model: few of one WORK then, but for some with too many. */
    private boolean fewOf(int k) {
        int n = model.bitsOf(k).size();
        return n <= 6 || n > 10 || n == 7 && oneIn(4);
    }

    private void askOrder() {
        int k = some(model.works.size());
        if (!fewOf(k)) return;
        List<Integer> of = model.bitsOf(k);
        int a = of.isEmpty() || oneIn(20) ? some(model.bits.size()) : of.get(random.nextInt(of.size()));
        int b = of.isEmpty() || oneIn(20) ? some(model.bits.size()) : of.get(random.nextInt(of.size()));
        if (model.isBit(a) && model.bits.get(a).work() >= 0 && !fewOf(model.bits.get(a).work())) return;
        switch (random.nextInt(6)) {
            case 0: call("order", k, between(-1, 7)); break;
            case 1: call("orders", k); break;
            case 2: call("sure", a, b); break;
            case 3: call("moves", a); break;
            case 4: call("order", k, -1); break;
            default: if (oneIn(3)) call("ahead", a, b); break;
        }
    }

    private void askCloseness() {
        int bits = model.bits.size();
        int m = some(model.writers.size());
        int k = some(model.works.size());
        switch (random.nextInt(11)) {
            case 0: call("apart", some(bits), some(bits)); break;
            case 1: call("near", some(bits), k, between(0, 3)); break;
            case 2: call("nearness", m, between(0, 3)); break;
            case 3: call("same", some(bits), between(0, 8)); break;
            case 4: call("stood", some(bits), some(bits), between(-1, 4)); break;
            case 5: call("slips", m, k, between(0, 3)); break;
            case 6: call("slip", m, k, between(0, 39)); break;
            case 7: call("shared", m, some(model.writers.size()), k, between(0, 5)); break;
            case 8: call("groups", m, between(0, 1000)); break;
            case 9: call("from", m, k, between(0, 1)); break;
            default: call("there", k); break;
        }
    }

    private void askRest() {
        int bits = model.bits.size();
        int k = some(model.works.size());
        switch (random.nextInt(10)) {
            case 0: call("truth", someBits(), between(1, 40), oneIn(3) ? 0 : between(0, 6)); break;
            case 1: call("length", k, between(1, 40), between(0, 1)); break;
            case 2: call("span", k, between(1, oneIn(2) ? 1000 : 100), between(0, 1)); break;
            case 3: call("nobody", k, between(1, 40)); break;
            case 4: call("whose", some(bits), between(0, 2)); break;
            case 5: call("men", some(model.authors.size()), between(0, 1)); break;
            case 6: call("gives", some(bits), oneIn(6) ? -1 : k, laterYear()); break;
            case 7: call("given", some(bits), between(0, 2000)); break;
            case 8: call("wrong", between(0, 2000)); break;
            default: call("bitIs", some(bits), between(0, 18)); break;
        }
    }

    private long laterYear() {
        int n = model.gifts.size();
        int last = n == 0 ? 0 : model.gifts.get(n - 1).year();
        return oneIn(10) ? between(0, 2000) : Math.min(2000, last + random.nextInt(60));
    }

    private long someBits() {
        long set = 0;
        int n = oneIn(15) ? 7 : 1 + random.nextInt(6);
        for (int i = 0; i < n; i++) {
            int b = some(model.bits.size());
            set |= 1L << (b & 63);
        }
        return set;
    }

    private void tellOne() {
        switch (random.nextInt(8)) {
            case 0: call("author", between(0, oneIn(3) ? 999 : 400), between(1, 100)); break;
            case 1: call("work", some(model.authors.size()), between(1, oneIn(2) ? 40 : 6)); break;
            case 2: call("writer", between(0, 999)); break;
            case 3: call("seed", between(0, 65535)); break;
            case 4: call("count", between(0, 29)); break;
            case 5: if (oneIn(4)) feed(new byte[random.nextInt(60)]); break;
            default: tellQuote(); break;
        }
    }

    private void tellQuote() {
        int k = some(model.works.size());
        int n = model.isLeft(k) ? model.works.get(k).words.length : 3;
        int from = between(0, n - 1);
        int to = oneIn(20) ? between(0, n) : Math.min(n - 1, from + random.nextInt(oneIn(8) ? 14 : 9));
        call("quote", some(model.writers.size()), k, from, to, between(0, 9));
        if (oneIn(3)) call("count", 4);
    }

    private void begin() {
        for (int i = 1 + random.nextInt(4); i > 0; i--) call("author", between(0, 500), between(1, 100));
        int works = copying() ? 1 + random.nextInt(2) : 2 + random.nextInt(5);
        for (int i = works; i > 0; i--) call("work", some(model.authors.size()), between(1, 9));
        for (int i = 2 + random.nextInt(5); i > 0; i--) call("writer", between(0, 999));
        for (int i = 1 + random.nextInt(5); i > 0; i--) tellLeft();
    }

    private void go() {
        if (!oneIn(10)) begin();
        while (twin.calls() < CALLS && !twin.failed()) {
            int turn = random.nextInt(100);
            if (turn < 6) tellLeft();
            else if (turn < 14 + 6 * (flavour & 1)) tellBit();
            else if (copying() && turn < 60) askCloseness();
            else if (turn < 28) tellText();
            else if (turn < 36) tellOne();
            else if (turn < 55) askOrder();
            else if (turn < 78) askCloseness();
            else askRest();
        }
        twin.countAll();
    }
}
