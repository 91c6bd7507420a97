/**
 * A library out of what others quote: works that are left and lost, writers who quote them, and
 * what can be reckoned from the bits that came down. The document's numbered promises tell each call.
 */
public final class QuotedBooks {
    public static final int NONE = -1;

    private static final int MOST_AUTHORS = 8;
    private static final int MOST_WORKS = 8;
    private static final int MOST_WRITERS = 8;
    private static final int MOST_BITS = 40;
    private static final int MOST_BOOKS = 40;
    private static final int WORK_WORDS = 40;
    private static final int BIT_WORDS = 8;
    private static final int WORD_KINDS = 64;
    private static final int LAST_YEAR = 999;
    private static final int LAST_EDITOR_YEAR = 2000;
    private static final int MOST_LAID = 10;
    private static final int LONGEST_STRETCH = 12;
    private static final int NOT_TOLD = -1000000;
    private static final int LACKING = -2;

    private final Tape tape = new Tape();
    private final Shelf shelf = new Shelf();
    private final Reader reader = new Reader(tape);
    private final Text[] wayTexts = new Text[MOST_WRITERS];
    private final Text planText = new Text();
    private final Text habitText = new Text();
    private final Text tableText = new Text();
    private final Odds odds = new Odds();
    private final Closeness closeness = new Closeness(shelf);
    private final Copies copies = new Copies(shelf, closeness, odds);
    private final Ordering ordering = new Ordering(shelf, planText);
    private final Authorship authorship = new Authorship(shelf, habitText);
    private final Editors editors = new Editors(shelf);
    private final int[] words = new int[BIT_WORDS];
    private int kept;
    private int luckState = 1;

    public QuotedBooks() {
        for (int m = 0; m < MOST_WRITERS; m++) {
            wayTexts[m] = new Text();
        }
    }

    public int author(int year, int prior) {
        if (!within(year, 0, LAST_YEAR) || !within(prior, 1, 100)) {
            return NONE;
        }
        return shelf.addAuthor(year, prior);
    }

    public int work(int author, int books) {
        if (!shelf.isAuthor(author) || !within(books, 1, MOST_BOOKS)) {
            return NONE;
        }
        return shelf.addWork(author, books);
    }

    public int writer(int year) {
        return within(year, 0, LAST_YEAR) ? shelf.addWriter(year) : NONE;
    }

    public boolean seed(int x) {
        if (!within(x, 0, 65535)) {
            return false;
        }
        luckState = x;
        return true;
    }

    public int feed(int a, int b, int c, int d, int e) {
        if (!tape.hasRoomFor(20)) {
            return NONE;
        }
        tape.push(a);
        tape.push(b);
        tape.push(c);
        tape.push(d);
        tape.push(e);
        return tape.size();
    }

    public boolean left(int k, int n) {
        if (!shelf.isWork(k) || shelf.isLeft(k) || !within(n, 1, WORK_WORDS) || !tape.holds(n, 2)) {
            return false;
        }
        boolean wordsAreSo = shelf.tellWords(k, tape, n);
        tape.clear();
        return wordsAreSo;
    }

    public int bit(int writer, int work, int book, int subject, int n) {
        boolean known = shelf.isWriter(writer) && (work == NONE || shelf.isWork(work))
                && within(book, 0, MOST_BOOKS) && within(subject, 0, 9) && within(n, 1, BIT_WORDS);
        if (!known || shelf.bits() >= MOST_BITS || !tape.holds(n, 1)) {
            return NONE;
        }
        boolean wordsAreSo = takeWords(n);
        tape.clear();
        return wordsAreSo ? keepBit(writer, work, book, subject) : LACKING;
    }

    private boolean takeWords(int n) {
        kept = 0;
        for (int p = 0; p < n && p < BIT_WORDS; p++) {
            int word = tape.byteAt(p);
            if (!within(word, 0, WORD_KINDS - 1)) {
                return false;
            }
            words[p] = word;
            kept = p + 1;
        }
        return true;
    }

    private int keepBit(int writer, int work, int book, int subject) {
        ordering.forget();
        int i = shelf.addBit(writer, work, book, subject);
        shelf.tellBitWords(i, words, kept);
        return i;
    }

    public int way(int writer, int n) {
        return readText(n, "dcn", wayOf(writer));
    }

    public int plan(int n) {
        ordering.forget();
        return readText(n, "p", planText);
    }

    public int habit(int n) {
        return readText(n, "h", habitText);
    }

    public int table(int n) {
        return readText(n, "g", tableText);
    }

    private Text wayOf(int writer) {
        return shelf.isWriter(writer) && writer < wayTexts.length ? wayTexts[writer] : null;
    }

    private int readText(int n, String heads, Text goal) {
        if (goal == null || !within(n, 1, Text.MOST_BYTES) || !tape.holds(n, 1)) {
            return NONE;
        }
        int answer = reader.read(n, heads, goal);
        tape.clear();
        return answer;
    }

    public int quote(int writer, int work, int from, int to, int subject) {
        Text text = wayOf(writer);
        if (text == null || !shelf.isLeft(work) || !within(subject, 0, 9)
                || !within(from, 0, shelf.wordsLeft(work) - 1)
                || !within(to, from, shelf.wordsLeft(work) - 1)
                || to - from >= LONGEST_STRETCH || shelf.bits() >= MOST_BITS) {
            return NONE;
        }
        text.let('l', to - from + 1);
        text.let('y', shelf.writerYear(writer));
        text.let('k', work);
        text.let('m', writer);
        int book = quoteWords(text, work, from, to);
        return kept == 0 ? LACKING : keepBit(writer, work, book, subject);
    }

    private int quoteWords(Text text, int work, int from, int to) {
        int book = 0;
        kept = 0;
        for (int place = from; place <= to; place++) {
            int word = shelf.workWord(work, place);
            luckState = (25173 * luckState + 13849) & 65535;
            int luck = luckState % 1000;
            text.let('w', word);
            text.let('i', place - from);
            text.let('b', shelf.workBook(work, place));
            text.let('x', luck);
            if (place == from) {
                int told = shelf.workBook(work, place) + text.value('n', -9, 9);
                book = Math.min(MOST_BOOKS, Math.max(1, told));
            }
            quoteWord(text, word, luck);
        }
        return book;
    }

    private void quoteWord(Text text, int word, int luck) {
        int dropped = text.value('d', 0, 1000);
        if (luck < dropped || kept < 0 || kept >= BIT_WORDS) {
            return;
        }
        boolean changed = luck < dropped + text.value('c', 0, 1000);
        words[kept] = changed ? (word + 1) % WORD_KINDS : word;
        kept++;
    }

    public int bitIs(int i, int what) {
        if (!shelf.isBit(i)) {
            return NONE;
        }
        if (what >= 10 && what - 10 < shelf.bitSize(i)) {
            return shelf.bitWord(i, what - 10);
        }
        switch (what) {
            case 0: return shelf.bitWriter(i);
            case 1: return shelf.bitWork(i);
            case 2: return shelf.bitBook(i);
            case 3: return shelf.bitSubject(i);
            case 4: return shelf.bitSize(i);
            default: return NONE;
        }
    }

    public int apart(int x, int y) {
        return shelf.isBit(x) && shelf.isBit(y) ? closeness.far(x, y) : NONE;
    }

    public int near(int i, int k, int what) {
        if (!shelf.isBit(i) || !shelf.isLeft(k)) {
            return NONE;
        }
        closeness.find(i, k);
        switch (what) {
            case 0: return closeness.leastFar(i, k);
            case 1: return closeness.firstPlace(i, k);
            case 2: return closeness.lastPlace(i, k);
            case 3: return closeness.thousandths(i, k);
            default: return NONE;
        }
    }

    public int nearness(int writer, int what) {
        if (!shelf.isWriter(writer) || !within(what, 0, 3)) {
            return NONE;
        }
        int least = 1000;
        int greatest = 0;
        int sum = 0;
        int number = 0;
        for (int i = 0; i < shelf.bits(); i++) {
            int k = shelf.bitWork(i);
            if (shelf.bitWriter(i) == writer && shelf.isLeft(k)) {
                closeness.find(i, k);
                int one = closeness.thousandths(i, k);
                least = Math.min(least, one);
                greatest = Math.max(greatest, one);
                sum += one;
                number++;
            }
        }
        if (what == 3) {
            return number;
        }
        if (number == 0) {
            return LACKING;
        }
        return what == 0 ? least : what == 1 ? greatest : sum / number;
    }

    public long same(int i, int far) {
        if (!shelf.isBit(i) || !within(far, 0, BIT_WORDS)) {
            return NONE;
        }
        long set = 0;
        for (int j = 0; j < shelf.bits(); j++) {
            if (closeness.far(i, j) <= far) {
                set |= 1L << j;
            }
        }
        return set;
    }

    public int stood(int x, int y, int what) {
        if (!shelf.isBit(x) || !shelf.isBit(y) || what < NONE) {
            return NONE;
        }
        int number = closeness.common(x, y);
        if (what == NONE) {
            return number;
        }
        return what < number ? closeness.commonWord(what) : LACKING;
    }

    public long slips(int writer, int k, int what) {
        if (!shelf.isWriter(writer) || !shelf.isLeft(k)) {
            return NONE;
        }
        Slips his = copies.slipsOf(writer, k);
        switch (what) {
            case 0: return Long.bitCount(his.marks());
            case 1: return Long.bitCount(his.places());
            case 2: return his.places();
            case 3: return his.marks();
            default: return NONE;
        }
    }

    public int slip(int writer, int k, int place) {
        if (!shelf.isWriter(writer) || !shelf.isLeft(k)) {
            return NONE;
        }
        return copies.slipsOf(writer, k).wordPut(place);
    }

    public long shared(int x, int y, int k, int what) {
        if (!shelf.isWriter(x) || !shelf.isWriter(y) || x == y || !shelf.isLeft(k)) {
            return NONE;
        }
        copies.compare(x, y, k);
        switch (what) {
            case 0: return copies.bothHave();
            case 1: return copies.slipsOfOne();
            case 2: return copies.slipsOfOther();
            case 3: return copies.alike();
            case 4: return odds.above();
            case 5: return odds.below();
            default: return NONE;
        }
    }

    public int groups(int writer, int thousandths) {
        if (!shelf.isWriter(writer) || !within(thousandths, 0, 1000)) {
            return NONE;
        }
        int group = 1 << writer;
        int looked = 0;
        for (int round = 0; round < MOST_WRITERS && looked != group; round++) {
            int x = Integer.numberOfTrailingZeros(group & ~looked);
            looked |= 1 << x;
            for (int y = 0; y < shelf.writers(); y++) {
                if ((group >>> y & 1) == 0 && copies.hadMiddle(x, y, thousandths)) {
                    group |= 1 << y;
                }
            }
        }
        return group;
    }

    public int from(int writer, int k, int what) {
        if (!shelf.isWriter(writer) || !shelf.isLeft(k) || !within(what, 0, 1)) {
            return -3;
        }
        copies.findSource(writer, k);
        if (!copies.hasPlaces()) {
            return LACKING;
        }
        return what == 0 ? copies.source() : copies.cost();
    }

    public int there(int k) {
        return shelf.isLeft(k) ? copies.lastYearHad(k) : NONE;
    }

    public boolean ahead(int x, int y) {
        return shelf.isBit(x) && shelf.isBit(y) && x != y && shelf.ofOneWork(x, y) && ordering.tell(x, y);
    }

    public int order(int k, int what) {
        if (!shelf.isWork(k) || what < NONE || !ordering.solve(k)) {
            return NOT_TOLD;
        }
        if (what == NONE) {
            return ordering.points();
        }
        return what < ordering.size() ? ordering.bitAt(what) : NOT_TOLD;
    }

    public long orders(int k) {
        if (!shelf.isWork(k)) {
            return NONE;
        }
        return ordering.solve(k) ? ordering.rows() : 0;
    }

    public int sure(int x, int y) {
        if (!shelf.isBit(x) || !shelf.isBit(y) || x == y || !shelf.ofOneWork(x, y)) {
            return NONE;
        }
        if (!ordering.solve(shelf.bitWork(x))) {
            return LACKING;
        }
        return ordering.isAheadInAll(x, y) ? 1 : 0;
    }

    public long truth(long bits, int books, int what) {
        int number = Long.bitCount(bits);
        if (!within(number, 1, 6) || !within(books, 1, MOST_BOOKS) || !within(what, 0, books)) {
            return NONE;
        }
        for (int i = 0; i < 64; i++) {
            if ((bits >>> i & 1) == 1 && shelf.bitBook(i) < 1) {
                return NONE;
            }
        }
        if (what > 0) {
            return tableProduct(bits, books, what);
        }
        long sum = 0;
        for (int book = 1; book <= books; book++) {
            sum += tableProduct(bits, books, book);
        }
        return sum;
    }

    private long tableProduct(long bits, int books, int trueBook) {
        long product = 1;
        tableText.let('c', trueBook);
        tableText.let('n', books);
        for (int i = 0; i < MOST_BITS; i++) {
            if ((bits >>> i & 1) == 1) {
                tableText.let('b', shelf.bitBook(i));
                product *= tableText.value('g', 0, 100);
            }
        }
        return product;
    }

    public long length(int k, int books, int what) {
        if (!shelf.isWork(k) || !within(books, 1, MOST_BOOKS) || !within(what, 0, 1)) {
            return NONE;
        }
        long told = shelf.toldBooks(k);
        if (told == 0) {
            return LACKING;
        }
        odds.ofGreatest(told, books);
        return what == 0 ? odds.above() : odds.below();
    }

    public int span(int k, int thousandths, int what) {
        if (!shelf.isWork(k) || !within(thousandths, 1, 1000) || !within(what, 0, 1)) {
            return NONE;
        }
        long told = shelf.toldBooks(k);
        int found = LACKING;
        for (int books = 1; told != 0 && books <= MOST_BOOKS; books++) {
            odds.ofGreatest(told, books);
            if (odds.notBelow(thousandths) && (found == LACKING || what == 1)) {
                found = books;
            }
        }
        return found;
    }

    public long nobody(int k, int books) {
        if (!shelf.isWork(k) || !within(books, 1, MOST_BOOKS)) {
            return NONE;
        }
        return ((1L << books) - 1) & ~shelf.toldBooks(k);
    }

    public int whose(int i, int what) {
        if (!shelf.isBit(i) || shelf.authors() == 0) {
            return NOT_TOLD;
        }
        authorship.judge(i);
        switch (what) {
            case 0: return authorship.likeliest();
            case 1: return authorship.points();
            case 2: return authorship.lead();
            default: return NOT_TOLD;
        }
    }

    public long men(int author, int what) {
        if (!shelf.isAuthor(author) || !within(what, 0, 1) || !authorship.cut(author)) {
            return NOT_TOLD;
        }
        return what == 0 ? authorship.secondMan() : authorship.cutValue();
    }

    public boolean gives(int i, int work, int year) {
        return shelf.isBit(i) && (work == NONE || shelf.isWork(work))
                && within(year, 0, LAST_EDITOR_YEAR) && editors.give(i, work, year);
    }

    public int given(int i, int year) {
        return shelf.isBit(i) && within(year, 0, LAST_EDITOR_YEAR) ? editors.workBy(i, year) : LACKING;
    }

    public long wrong(int year) {
        return within(year, 0, LAST_EDITOR_YEAR) ? editors.wronglyBy(year) : NONE;
    }

    public int moves(int i) {
        int k = shelf.bitWork(i);
        if (!shelf.isWork(k) || !ordering.solve(k)) {
            return NOT_TOLD;
        }
        return ordering.points() - ordering.pointsWithout(i);
    }

    public int check(int i, int n) {
        if (!shelf.isBit(i) || !tape.holds(n, 4)) {
            return LACKING;
        }
        int answer = firstNotSo(i, n);
        tape.clear();
        return answer;
    }

    private int firstNotSo(int i, int n) {
        int size = shelf.bitSize(i);
        for (int p = 0; p < n; p++) {
            if (p >= size || tape.numberAt(p) != shelf.bitWord(i, p)) {
                return p;
            }
        }
        return n < size ? n : NONE;
    }

    public int count(int what) {
        if (within(what, 10, 19)) {
            Text text = wayOf(what - 10);
            return text == null ? NONE : text.clauses();
        }
        if (what >= 20) {
            return shelf.isWork(what - 20) ? shelf.wordsLeft(what - 20) : NONE;
        }
        switch (what) {
            case 0: return shelf.authors();
            case 1: return shelf.works();
            case 2: return shelf.writers();
            case 3: return shelf.bits();
            case 4: return luckState;
            case 5: return tape.size();
            case 6: return planText.clauses();
            case 7: return habitText.clauses();
            case 8: return tableText.clauses();
            case 9: return ordering.pairs();
            default: return NONE;
        }
    }

    private static boolean within(int value, int least, int most) {
        return value >= least && value <= most;
    }

    /** What stands in a row at a place, and 0 outside of it: no index is used unlooked at. */
    private static int at(int[] row, int place) {
        return place >= 0 && place < row.length ? row[place] : 0;
    }

    private static void put(int[] row, int place, int value) {
        if (place >= 0 && place < row.length) {
            row[place] = value;
        }
    }

    /** The bytes that were fed. Only a call that reads of them empties it: one refused ahead of that doesn't. */
    private static final class Tape {
        private static final int ROOM = 200;

        private final int[] bytes = new int[ROOM];
        private int size;

        int size() {
            return size;
        }

        boolean hasRoomFor(int more) {
            return more <= ROOM - size;
        }

        void push(int number) {
            for (int shift = 24; shift >= 0; shift -= 8) {
                if (size < ROOM) {
                    put(bytes, size, number >>> shift & 255);
                    size++;
                }
            }
        }

        boolean holds(int n, int width) {
            return n >= 0 && (long) n * width <= size;
        }

        int byteAt(int place) {
            return place >= 0 && place < size && place < ROOM ? bytes[place] : NONE;
        }

        int numberAt(int place) {
            int number = 0;
            for (int b = 0; b < 4; b++) {
                number = number << 8 | at(bytes, place * 4 + b);
            }
            return number;
        }

        void clear() {
            size = 0;
        }
    }

    /** What was told first of AUTHORS, WORKS, WRITERS and BITS; nothing in it is ever told anew. */
    private static final class Shelf {
        private int authors;
        private final int[] authorYears = new int[MOST_AUTHORS];
        private final int[] priors = new int[MOST_AUTHORS];
        private int works;
        private final int[] workAuthors = new int[MOST_WORKS];
        private final int[] workBooks = new int[MOST_WORKS];
        private final int[] workSizes = new int[MOST_WORKS];
        private final int[] workWords = new int[MOST_WORKS * WORK_WORDS];
        private final int[] wordBooks = new int[MOST_WORKS * WORK_WORDS];
        private int writers;
        private final int[] writerYears = new int[MOST_WRITERS];
        private int bits;
        private final int[] bitWriters = new int[MOST_BITS];
        private final int[] bitWorks = new int[MOST_BITS];
        private final int[] bitBooks = new int[MOST_BITS];
        private final int[] bitSubjects = new int[MOST_BITS];
        private final int[] bitSizes = new int[MOST_BITS];
        private final int[] bitWords = new int[MOST_BITS * BIT_WORDS];

        int authors() {
            return authors;
        }

        int works() {
            return works;
        }

        int writers() {
            return writers;
        }

        int bits() {
            return bits;
        }

        boolean isAuthor(int a) {
            return a >= 0 && a < authors;
        }

        boolean isWork(int k) {
            return k >= 0 && k < works;
        }

        boolean isWriter(int m) {
            return m >= 0 && m < writers;
        }

        boolean isBit(int i) {
            return i >= 0 && i < bits;
        }

        boolean isLeft(int k) {
            return isWork(k) && at(workSizes, k) > 0;
        }

        int addAuthor(int year, int prior) {
            if (authors >= MOST_AUTHORS) {
                return NONE;
            }
            put(authorYears, authors, year);
            put(priors, authors, prior);
            authors++;
            return authors - 1;
        }

        int addWork(int author, int books) {
            if (works >= MOST_WORKS) {
                return NONE;
            }
            put(workAuthors, works, author);
            put(workBooks, works, books);
            works++;
            return works - 1;
        }

        int addWriter(int year) {
            if (writers >= MOST_WRITERS) {
                return NONE;
            }
            put(writerYears, writers, year);
            writers++;
            return writers - 1;
        }

        int addBit(int writer, int work, int book, int subject) {
            if (bits >= MOST_BITS) {
                return NONE;
            }
            put(bitWriters, bits, writer);
            put(bitWorks, bits, work);
            put(bitBooks, bits, book);
            put(bitSubjects, bits, subject);
            bits++;
            return bits - 1;
        }

        void tellBitWords(int i, int[] words, int number) {
            if (!isBit(i)) {
                return;
            }
            put(bitSizes, i, number);
            for (int p = 0; p < number && p < BIT_WORDS; p++) {
                put(bitWords, i * BIT_WORDS + p, at(words, p));
            }
        }

        /** Words written ahead of a refusal don't show: a WORK is LEFT by its size alone. */
        boolean tellWords(int k, Tape tape, int number) {
            int leastBook = 1;
            for (int p = 0; p < number && p < WORK_WORDS; p++) {
                int word = tape.byteAt(2 * p);
                int book = tape.byteAt(2 * p + 1);
                if (!within(word, 0, WORD_KINDS - 1) || !within(book, leastBook, at(workBooks, k))) {
                    return false;
                }
                put(workWords, k * WORK_WORDS + p, word);
                put(wordBooks, k * WORK_WORDS + p, book);
                leastBook = book;
            }
            put(workSizes, k, number);
            return true;
        }

        int authorYear(int a) {
            return at(authorYears, a);
        }

        int prior(int a) {
            return at(priors, a);
        }

        int authorOf(int k) {
            return isWork(k) ? at(workAuthors, k) : NONE;
        }

        int booksOf(int k) {
            return at(workBooks, k);
        }

        int wordsLeft(int k) {
            return at(workSizes, k);
        }

        int workWord(int k, int place) {
            return at(workWords, k * WORK_WORDS + place);
        }

        int workBook(int k, int place) {
            return at(wordBooks, k * WORK_WORDS + place);
        }

        int writerYear(int m) {
            return at(writerYears, m);
        }

        int bitWriter(int i) {
            return isBit(i) ? at(bitWriters, i) : NONE;
        }

        int bitWork(int i) {
            return isBit(i) ? at(bitWorks, i) : NONE;
        }

        int bitBook(int i) {
            return isBit(i) ? at(bitBooks, i) : 0;
        }

        int bitSubject(int i) {
            return at(bitSubjects, i);
        }

        int bitSize(int i) {
            return at(bitSizes, i);
        }

        int bitWord(int i, int place) {
            return at(bitWords, i * BIT_WORDS + place);
        }

        boolean ofOneWork(int x, int y) {
            return bitWork(x) != NONE && bitWork(x) == bitWork(y);
        }

        /** BOOKS that BITS of a WORK tell, BOOK 1 as bit 0. */
        long toldBooks(int k) {
            long told = 0;
            for (int i = 0; i < bits; i++) {
                int book = bitBook(i);
                if (bitWork(i) == k && book > 0) {
                    told |= 1L << (book - 1);
                }
            }
            return told;
        }
    }

    /** A TEXT as rows of steps for a small stack, and the letters that its kind has. */
    private static final class Text {
        private static final int MOST_BYTES = 160;
        private static final int MOST_CLAUSES = 12;
        private static final int STACK = 64;
        private static final int NUMBER = 1;
        private static final int LETTER = 2;

        private int clauses;
        private int size;
        private final int[] heads = new int[MOST_CLAUSES];
        private final int[] valueEnds = new int[MOST_CLAUSES];
        private final int[] clauseEnds = new int[MOST_CLAUSES];
        private final int[] kinds = new int[MOST_BYTES];
        private final int[] operands = new int[MOST_BYTES];
        private final int[] letters = new int[26];
        private final int[] stack = new int[STACK];
        private int top;
        private boolean refused;

        int clauses() {
            return clauses;
        }

        void clear() {
            clauses = 0;
            size = 0;
        }

        void add(int kind, int operand) {
            put(kinds, size, kind);
            put(operands, size, operand);
            size++;
        }

        int size() {
            return size;
        }

        /** A step of & or | goes to where the steps end by now, once what stands behind it is read. */
        void aim(int step) {
            put(operands, step, size);
        }

        void endValue(int head) {
            put(heads, clauses, head);
            put(valueEnds, clauses, size);
        }

        void endClause() {
            put(clauseEnds, clauses, size);
            clauses++;
        }

        void takeOver(Text other) {
            clauses = other.clauses;
            size = other.size;
            System.arraycopy(other.heads, 0, heads, 0, MOST_CLAUSES);
            System.arraycopy(other.valueEnds, 0, valueEnds, 0, MOST_CLAUSES);
            System.arraycopy(other.clauseEnds, 0, clauseEnds, 0, MOST_CLAUSES);
            System.arraycopy(other.kinds, 0, kinds, 0, MOST_BYTES);
            System.arraycopy(other.operands, 0, operands, 0, MOST_BYTES);
        }

        void let(char letter, int value) {
            put(letters, letter - 'a', value);
        }

        int value(char head, int least, int most) {
            int start = 0;
            for (int c = 0; c < clauses && c < MOST_CLAUSES; c++) {
                int valueEnd = valueEnds[c];
                int end = clauseEnds[c];
                if (heads[c] == head && run(valueEnd, end) != 0) {
                    return Math.min(most, Math.max(least, run(start, valueEnd)));
                }
                start = end;
            }
            return 0;
        }

        /** What the steps come to; 0 if something was divided by 0, for a C and for an E alike. */
        private int run(int start, int end) {
            top = 0;
            refused = false;
            int place = start;
            for (int turn = 0; turn < MOST_BYTES && place < end; turn++) {
                place = step(place);
                if (refused) {
                    return 0;
                }
            }
            return pop();
        }

        private int step(int place) {
            if (place < 0 || place >= MOST_BYTES) {
                return MOST_BYTES;
            }
            int operand = operands[place];
            switch (kinds[place]) {
                case NUMBER:
                    push(operand);
                    return place + 1;
                case LETTER:
                    push(at(letters, operand));
                    return place + 1;
                case '!':
                    push(pop() == 0 ? 1 : 0);
                    return place + 1;
                case '&':
                    return keepsTop(false) ? operand : place + 1;
                case '|':
                    return keepsTop(true) ? operand : place + 1;
                default:
                    int right = pop();
                    push(joined(kinds[place], pop(), right));
                    return place + 1;
            }
        }

        /** Whether what stands behind doesn't matter any more; if it does, that takes the top's place. */
        private boolean keepsTop(boolean holds) {
            if (top < 1 || top > STACK || (stack[top - 1] != 0) == holds) {
                return true;
            }
            top--;
            return false;
        }

        private int joined(int sign, int one, int other) {
            switch (sign) {
                case '+': return one + other;
                case '-': return one - other;
                case '*': return one * other;
                case '<': return one < other ? 1 : 0;
                case '>': return one > other ? 1 : 0;
                case '=': return one == other ? 1 : 0;
                default: break;
            }
            if (other == 0) {
                refused = true;
                return 0;
            }
            return sign == '/' ? one / other : one % other;
        }

        private void push(int value) {
            if (top >= 0 && top < STACK) {
                stack[top] = value;
                top++;
            }
        }

        private int pop() {
            if (top < 1 || top > STACK) {
                return 0;
            }
            top--;
            return stack[top];
        }
    }

    /** Reads a TEXT from the tape into a draft, so that a TEXT with a FAULT leaves the one before. */
    private static final class Reader {
        private static final String LETTERS = "bciklmnpstwxyz";
        private static final int DEEPEST = 6;
        private static final int MOST_DIGITS = 5;
        private static final int NOT_THERE = 1;
        private static final int TOO_LONG = 2;
        private static final int TOO_MANY = 4;
        private static final int TOO_DEEP = 5;

        private final Tape tape;
        private final Text draft = new Text();
        private int end;
        private int place;
        private int fault;

        Reader(Tape tape) {
            this.tape = tape;
        }

        int read(int n, String heads, Text goal) {
            end = n;
            place = 0;
            fault = 0;
            draft.clear();
            readClause(heads);
            for (int more = 0; more < Text.MOST_CLAUSES && fault == 0 && place < end; more++) {
                expect(';');
                readClause(heads);
            }
            if (fault != 0) {
                return fault;
            }
            goal.takeOver(draft);
            return goal.clauses();
        }

        private int next() {
            return place < end ? tape.byteAt(place) : NONE;
        }

        private boolean nextIsOf(String signs) {
            int sign = next();
            return fault == 0 && sign >= 0 && signs.indexOf((char) sign) >= 0;
        }

        private void blame(int number) {
            if (fault == 0) {
                fault = -1000 * number - place;
            }
        }

        private void expect(char sign) {
            if (next() == sign && fault == 0) {
                place++;
            } else {
                blame(NOT_THERE);
            }
        }

        private void readClause(String heads) {
            if (!nextIsOf(heads)) {
                blame(NOT_THERE);
                return;
            }
            if (draft.clauses() >= Text.MOST_CLAUSES) {
                blame(TOO_MANY);
                return;
            }
            int head = next();
            place++;
            readSum(0);
            draft.endValue(head);
            expect('(');
            readChoice(1);
            expect(')');
            draft.endClause();
        }

        /** Goes past a ( [ or !, unless that would be open in too many others. */
        private boolean opens(int depth) {
            if (depth > DEEPEST) {
                blame(TOO_DEEP);
                return false;
            }
            place++;
            return true;
        }

        private void readChoice(int depth) {
            readPart(depth);
            for (int b = 0; b < Text.MOST_BYTES && nextIsOf("|"); b++) {
                int step = draft.size();
                draft.add('|', 0);
                place++;
                readPart(depth);
                draft.aim(step);
            }
        }

        private void readPart(int depth) {
            readPiece(depth);
            for (int b = 0; b < Text.MOST_BYTES && nextIsOf("&"); b++) {
                int step = draft.size();
                draft.add('&', 0);
                place++;
                readPiece(depth);
                draft.aim(step);
            }
        }

        private void readPiece(int depth) {
            if (fault != 0) {
                return;
            }
            if (next() == '!') {
                if (opens(depth + 1)) {
                    readPiece(depth + 1);
                    draft.add('!', 0);
                }
            } else if (next() == '(') {
                if (opens(depth + 1)) {
                    readChoice(depth + 1);
                    expect(')');
                }
            } else {
                readComparison(depth);
            }
        }

        private void readComparison(int depth) {
            readSum(depth);
            if (!nextIsOf("<>=")) {
                blame(NOT_THERE);
                return;
            }
            int sign = next();
            place++;
            readSum(depth);
            draft.add(sign, 0);
        }

        private void readSum(int depth) {
            readTerm(depth);
            for (int b = 0; b < Text.MOST_BYTES && nextIsOf("+-"); b++) {
                int sign = next();
                place++;
                readTerm(depth);
                draft.add(sign, 0);
            }
        }

        private void readTerm(int depth) {
            readFactor(depth);
            for (int b = 0; b < Text.MOST_BYTES && nextIsOf("*/%"); b++) {
                int sign = next();
                place++;
                readFactor(depth);
                draft.add(sign, 0);
            }
        }

        private void readFactor(int depth) {
            if (fault != 0) {
                return;
            }
            int sign = next();
            if (sign == '[') {
                if (opens(depth + 1)) {
                    readSum(depth + 1);
                    expect(']');
                }
            } else if (within(sign, '0', '9')) {
                readNumber();
            } else if (nextIsOf(LETTERS)) {
                draft.add(Text.LETTER, sign - 'a');
                place++;
            } else {
                blame(NOT_THERE);
            }
        }

        private void readNumber() {
            int number = 0;
            for (int digits = 0; digits <= MOST_DIGITS && within(next(), '0', '9'); digits++) {
                if (digits == MOST_DIGITS) {
                    blame(TOO_LONG);
                    return;
                }
                number = number * 10 + next() - '0';
                place++;
            }
            draft.add(Text.NUMBER, number);
        }
    }

    /** How FAR rows of WORDS are, NEAR which stretch a BIT is, and what stood in two BITS. */
    private static final class Closeness {
        private static final int SIDE = BIT_WORDS + 1;

        private final Shelf shelf;
        private final int[] row = new int[SIDE];
        private final boolean[] found = new boolean[MOST_BITS * MOST_WORKS];
        private final int[] fars = new int[MOST_BITS * MOST_WORKS];
        private final int[] firsts = new int[MOST_BITS * MOST_WORKS];
        private final int[] lasts = new int[MOST_BITS * MOST_WORKS];
        private final int[] tails = new int[SIDE * SIDE];
        private final int[] commonWords = new int[BIT_WORDS];

        Closeness(Shelf shelf) {
            this.shelf = shelf;
        }

        int far(int x, int y) {
            int size = shelf.bitSize(x);
            startRow(size);
            for (int p = 0; p < shelf.bitSize(y); p++) {
                advance(x, size, shelf.bitWord(y, p));
            }
            return at(row, size);
        }

        private void startRow(int size) {
            for (int p = 0; p <= size && p < SIDE; p++) {
                row[p] = p;
            }
        }

        /** Row p: how FAR the first p WORDS of a BIT are from the other row, which grows by a WORD. */
        private void advance(int i, int size, int word) {
            int diagonal = row[0];
            row[0]++;
            for (int p = 1; p <= size && p < SIDE; p++) {
                int changed = shelf.bitWord(i, p - 1) == word ? diagonal : diagonal + 1;
                diagonal = row[p];
                row[p] = Math.min(changed, Math.min(row[p - 1], diagonal) + 1);
            }
        }

        /** Found once: neither a BIT nor a WORK that is LEFT ever changes. */
        void find(int i, int k) {
            int spot = i * MOST_WORKS + k;
            if (spot < 0 || spot >= found.length || found[spot]) {
                return;
            }
            found[spot] = true;
            int size = shelf.bitSize(i);
            // One WORD is never farther than the BIT is long; a stretch above twice that always is.
            int least = size + 1;
            for (int first = 0; first < shelf.wordsLeft(k); first++) {
                int end = Math.min(shelf.wordsLeft(k), first + 2 * size);
                startRow(size);
                for (int last = first; last < end; last++) {
                    advance(i, size, shelf.workWord(k, last));
                    int far = at(row, size);
                    if (far < least || far == least && firsts[spot] == first) {
                        least = far;
                        firsts[spot] = first;
                        lasts[spot] = last;
                    }
                }
            }
            fars[spot] = least;
        }

        int leastFar(int i, int k) {
            return at(fars, i * MOST_WORKS + k);
        }

        int firstPlace(int i, int k) {
            return at(firsts, i * MOST_WORKS + k);
        }

        int lastPlace(int i, int k) {
            return at(lasts, i * MOST_WORKS + k);
        }

        int thousandths(int i, int k) {
            int size = shelf.bitSize(i);
            return size < 1 ? 0 : 1000 * Math.max(0, size - leastFar(i, k)) / size;
        }

        /** How many WORDS two BITS have in one order; the least such row is kept. */
        int common(int x, int y) {
            int sizeX = shelf.bitSize(x);
            int sizeY = shelf.bitSize(y);
            fillTails(x, y);
            int p = 0;
            int q = 0;
            int number = at(tails, 0);
            for (int w = 0; w < number && w < BIT_WORDS; w++) {
                int least = WORD_KINDS;
                int nextP = p;
                int nextQ = q;
                for (int tryP = p; tryP < sizeX; tryP++) {
                    int word = shelf.bitWord(x, tryP);
                    int tryQ = firstOf(y, word, q);
                    if (word < least && tryQ < sizeY && tail(tryP + 1, tryQ + 1) == number - w - 1) {
                        least = word;
                        nextP = tryP + 1;
                        nextQ = tryQ + 1;
                    }
                }
                commonWords[w] = least;
                p = nextP;
                q = nextQ;
            }
            return number;
        }

        private int firstOf(int y, int word, int start) {
            int place = start;
            while (place < shelf.bitSize(y) && shelf.bitWord(y, place) != word) {
                place++;
            }
            return place;
        }

        int commonWord(int place) {
            return at(commonWords, place);
        }

        private int tail(int p, int q) {
            return at(tails, p * SIDE + q);
        }

        /** tail(p, q): how many WORDS are in one order behind the first p and q of the two BITS. */
        private void fillTails(int x, int y) {
            for (int spot = 0; spot < SIDE * SIDE; spot++) {
                tails[spot] = 0;
            }
            for (int p = shelf.bitSize(x) - 1; p >= 0; p--) {
                for (int q = shelf.bitSize(y) - 1; q >= 0; q--) {
                    int most = Math.max(tail(p + 1, q), tail(p, q + 1));
                    if (shelf.bitWord(x, p) == shelf.bitWord(y, q)) {
                        most = tail(p + 1, q + 1) + 1;
                    }
                    put(tails, p * SIDE + q, most);
                }
            }
        }
    }

    /** PLACES and SLIPS of one WRITER in one WORK. */
    private static final class Slips {
        private final Shelf shelf;
        private final Closeness closeness;
        private final int[] wordsPut = new int[WORK_WORDS];
        private long places;
        private long marks;

        Slips(Shelf shelf, Closeness closeness) {
            this.shelf = shelf;
            this.closeness = closeness;
        }

        long places() {
            return places;
        }

        long marks() {
            return marks;
        }

        private static boolean isIn(long set, int place) {
            return place >= 0 && place < WORK_WORDS && (set >>> place & 1) == 1;
        }

        private boolean has(int place) {
            return isIn(places, place);
        }

        boolean isAt(int place) {
            return isIn(marks, place);
        }

        int wordPut(int place) {
            return isAt(place) ? at(wordsPut, place) : NONE;
        }

        void gather(int writer, int k) {
            places = 0;
            marks = 0;
            for (int i = 0; i < shelf.bits(); i++) {
                if (shelf.bitWriter(i) == writer && shelf.bitWork(i) == k) {
                    closeness.find(i, k);
                    addBit(i, k, closeness.firstPlace(i, k));
                }
            }
        }

        private void addBit(int i, int k, int first) {
            int size = shelf.bitSize(i);
            if (closeness.lastPlace(i, k) - first + 1 != size || others(i, k, first) != closeness.leastFar(i, k)) {
                return;
            }
            for (int p = 0; p < size; p++) {
                int place = first + p;
                if (!has(place)) {
                    addPlace(place, shelf.bitWord(i, p), shelf.workWord(k, place));
                }
            }
        }

        /** Called by the first BIT that has the place alone: later ones neither add a SLIP there nor mend it. */
        private void addPlace(int place, int word, int wordOfWork) {
            places |= 1L << place;
            if (word != wordOfWork) {
                marks |= 1L << place;
                put(wordsPut, place, word);
            }
        }

        private int others(int i, int k, int first) {
            int number = 0;
            for (int p = 0; p < shelf.bitSize(i); p++) {
                if (shelf.bitWord(i, p) != shelf.workWord(k, first + p)) {
                    number++;
                }
            }
            return number;
        }

        /** Places at which both put the same WORD. */
        long alikeWith(Slips other) {
            long alike = 0;
            for (int place = 0; place < WORK_WORDS; place++) {
                if (isAt(place) && wordPut(place) == other.wordPut(place)) {
                    alike |= 1L << place;
                }
            }
            return alike;
        }
    }

    /** A fraction of what falls by lot. */
    private static final class Odds {
        private static final int MOST_TURNS = 100;

        private long above;
        private long below = 1;

        long above() {
            return above;
        }

        long below() {
            return below;
        }

        private static long choose(int n, int k) {
            if (k < 0 || k > n) {
                return 0;
            }
            long number = 1;
            for (int j = 1; j <= k; j++) {
                number = number * (n - k + j) / j;
            }
            return number;
        }

        /** That of b by lot out of n at least c are among the a. */
        void ofCommon(int n, int a, int b, int c) {
            long sum = 0;
            for (int j = c; j <= b; j++) {
                sum += choose(a, j) * choose(n - a, b - j);
            }
            reduce(sum, choose(n, b));
        }

        /** That of as many BOOKS by lot as are told the greatest is the greatest told. */
        void ofGreatest(long told, int books) {
            int number = Long.bitCount(told);
            int greatest = 64 - Long.numberOfLeadingZeros(told);
            if (books < greatest) {
                reduce(0, 1);
            } else {
                reduce(choose(greatest - 1, number - 1), choose(books, number));
            }
        }

        boolean notAbove(int thousandths) {
            return above * 1000 <= thousandths * below;
        }

        boolean notBelow(int thousandths) {
            return above * 1000 >= thousandths * below;
        }

        private void reduce(long over, long under) {
            long divisor = over;
            long rest = under;
            for (int turn = 0; turn < MOST_TURNS && rest != 0; turn++) {
                long next = divisor % rest;
                divisor = rest;
                rest = next;
            }
            if (divisor == 0) {
                divisor = 1;
            }
            above = over / divisor;
            below = under / divisor;
        }
    }

    /** What two WRITERS share, who hangs together, and from whom a WRITER had a WORK. */
    private static final class Copies {
        private final Shelf shelf;
        private final Odds odds;
        private final Slips one;
        private final Slips other;
        private int bothHave;
        private int slipsOfOne;
        private int slipsOfOther;
        private int alike;
        private int source;
        private int cost;

        Copies(Shelf shelf, Closeness closeness, Odds odds) {
            this.shelf = shelf;
            this.odds = odds;
            this.one = new Slips(shelf, closeness);
            this.other = new Slips(shelf, closeness);
        }

        int bothHave() {
            return bothHave;
        }

        int slipsOfOne() {
            return slipsOfOne;
        }

        int slipsOfOther() {
            return slipsOfOther;
        }

        int alike() {
            return alike;
        }

        int source() {
            return source;
        }

        int cost() {
            return cost;
        }

        boolean hasPlaces() {
            return one.places() != 0;
        }

        Slips slipsOf(int writer, int k) {
            one.gather(writer, k);
            return one;
        }

        void compare(int x, int y, int k) {
            one.gather(x, k);
            other.gather(y, k);
            long common = one.places() & other.places();
            bothHave = Long.bitCount(common);
            slipsOfOne = Long.bitCount(one.marks() & common);
            slipsOfOther = Long.bitCount(other.marks() & common);
            alike = Long.bitCount(one.alikeWith(other));
            odds.ofCommon(bothHave, slipsOfOne, slipsOfOther, alike);
        }

        /** Whether a MIDDLE ONE must have been between two WRITERS in some WORK that is LEFT. */
        boolean hadMiddle(int x, int y, int thousandths) {
            for (int k = 0; k < shelf.works(); k++) {
                if (shelf.isLeft(k)) {
                    compare(x, y, k);
                    if (alike > 0 && odds.notAbove(thousandths)) {
                        return true;
                    }
                }
            }
            return false;
        }

        void findSource(int writer, int k) {
            one.gather(writer, k);
            source = NONE;
            cost = Long.bitCount(one.marks());
            for (int m = 0; m < shelf.writers(); m++) {
                if (shelf.writerYear(m) < shelf.writerYear(writer)) {
                    other.gather(m, k);
                    int costs = costFromOther();
                    if ((one.places() & ~other.places()) == 0 && costs < cost) {
                        source = m;
                        cost = costs;
                    }
                }
            }
        }

        private int costFromOther() {
            long own = one.marks() & ~one.alikeWith(other);
            long mended = other.marks() & one.places() & ~one.marks();
            return 1 + Long.bitCount(own) + 2 * Long.bitCount(mended);
        }

        int lastYearHad(int k) {
            int year = NONE;
            for (int m = 0; m < shelf.writers(); m++) {
                findSource(m, k);
                if (hasPlaces() && source == NONE) {
                    year = Math.max(year, shelf.writerYear(m));
                }
            }
            return year;
        }
    }

    /** THE ORDER of BITS of a WORK: most POINTS for each set already laid and the last one of it. */
    private static final class Ordering {
        private static final int MOST_PAIRS = 60;
        private static final int SETS = 1 << MOST_LAID;

        private final Shelf shelf;
        private final Text text;
        private int pairs;
        private final int[] fore = new int[MOST_PAIRS];
        private final int[] hind = new int[MOST_PAIRS];
        private int size;
        private final int[] members = new int[MOST_LAID];
        private final int[] before = new int[MOST_LAID];
        private final int[] gains = new int[MOST_LAID * MOST_LAID];
        private final int[] most = new int[SETS * MOST_LAID];
        private final int[] ways = new int[SETS * MOST_LAID];
        private final int[] laid = new int[MOST_LAID];
        private final int[] bestEnds = new int[SETS];
        private final int[] behindInSome = new int[MOST_LAID];
        private int points;
        private int rows;
        private int solved = NONE;
        private boolean compared;

        Ordering(Shelf shelf, Text text) {
            this.shelf = shelf;
            this.text = text;
        }

        int pairs() {
            return pairs;
        }

        int points() {
            return points;
        }

        int rows() {
            return rows;
        }

        int size() {
            return size;
        }

        int bitAt(int place) {
            return at(members, at(laid, place));
        }

        void forget() {
            solved = NONE;
        }

        boolean tell(int x, int y) {
            for (int p = 0; p < pairs; p++) {
                if (at(fore, p) == x && at(hind, p) == y) {
                    return false;
                }
            }
            if (pairs >= MOST_PAIRS) {
                return false;
            }
            put(fore, pairs, x);
            put(hind, pairs, y);
            pairs++;
            forget();
            return true;
        }

        /** Whether there is an ORDER; it is kept till something is told that may change it. */
        boolean solve(int k) {
            if (solved != k) {
                solved = k;
                compared = false;
                gather(k);
                search();
            }
            return rows > 0;
        }

        /** A size above the most that are laid says only that there are too many. */
        private void gather(int k) {
            size = 0;
            for (int i = 0; i < shelf.bits(); i++) {
                if (shelf.bitWork(i) == k) {
                    put(members, size, i);
                    put(before, size, 0);
                    size++;
                }
            }
            for (int p = 0; p < pairs && p < MOST_PAIRS; p++) {
                int first = placeOf(fore[p]);
                int second = placeOf(hind[p]);
                if (first != NONE && second != NONE) {
                    put(before, second, at(before, second) | 1 << first);
                }
            }
        }

        private int placeOf(int i) {
            for (int p = 0; p < size && p < MOST_LAID; p++) {
                if (members[p] == i) {
                    return p;
                }
            }
            return NONE;
        }

        private void search() {
            points = NOT_TOLD;
            rows = 0;
            if (size < 1 || size > MOST_LAID) {
                return;
            }
            fillGains();
            for (int set = (1 << size) - 1; set > 0; set--) {
                for (int last = 0; last < size; last++) {
                    if ((set >>> last & 1) == 1) {
                        complete(set, last);
                    }
                }
            }
            complete(0, NONE);
            if (rows > 0) {
                layLeast();
            }
        }

        private void fillGains() {
            for (int p = 0; p < size; p++) {
                int x = at(members, p);
                text.let('b', shelf.bitBook(x));
                text.let('s', shelf.bitSubject(x));
                text.let('y', shelf.writerYear(shelf.bitWriter(x)));
                text.let('l', shelf.bitSize(x));
                for (int q = 0; q < size; q++) {
                    int y = at(members, q);
                    text.let('c', shelf.bitBook(y));
                    text.let('t', shelf.bitSubject(y));
                    text.let('z', shelf.writerYear(shelf.bitWriter(y)));
                    text.let('i', shelf.bitSize(y));
                    put(gains, p * MOST_LAID + q, text.value('p', -1000, 1000));
                }
            }
        }

        /** Most POINTS of the rest behind a set that ends with last, and how many rows have them. */
        private void complete(int set, int last) {
            boolean all = set == (1 << size) - 1;
            int best = all ? 0 : NOT_TOLD;
            int number = all ? 1 : 0;
            for (int p = 0; p < size; p++) {
                int one = behind(set, last, p);
                if (one == NOT_TOLD) {
                    continue;
                }
                int itsRows = at(ways, (set | 1 << p) * MOST_LAID + p);
                if (one > best) {
                    best = one;
                    number = itsRows;
                } else if (one == best) {
                    number += itsRows;
                }
            }
            if (set == 0) {
                points = best;
                rows = number;
            } else {
                put(most, set * MOST_LAID + last, best);
                put(ways, set * MOST_LAID + last, number);
            }
        }

        /** Most POINTS of the rest if the one at place p comes next; NOT_TOLD if it can't. */
        private int behind(int set, int last, int p) {
            if ((set >>> p & 1) == 1 || (at(before, p) & ~set) != 0) {
                return NOT_TOLD;
            }
            int rest = at(most, (set | 1 << p) * MOST_LAID + p);
            if (rest == NOT_TOLD) {
                return NOT_TOLD;
            }
            return last < 0 ? rest : rest + at(gains, last * MOST_LAID + p);
        }

        private void layLeast() {
            int set = 0;
            int last = NONE;
            int rest = points;
            for (int place = 0; place < size; place++) {
                int chosen = 0;
                while (chosen < size && behind(set, last, chosen) != rest) {
                    chosen++;
                }
                put(laid, place, chosen);
                set |= 1 << chosen;
                last = chosen;
                rest = at(most, set * MOST_LAID + last);
            }
        }

        /** A BIT that lies in the set from the start, with nothing behind it, has no say any more. */
        int pointsWithout(int i) {
            int place = placeOf(i);
            if (place == NONE || size == 1) {
                return 0;
            }
            int best = NOT_TOLD;
            for (int p = 0; p < size; p++) {
                best = Math.max(best, behind(1 << place, NONE, p));
            }
            return best;
        }

        boolean isAheadInAll(int x, int y) {
            if (!compared) {
                compareAll();
                compared = true;
            }
            return (at(behindInSome, placeOf(y)) >>> placeOf(x) & 1) == 0;
        }

        /** Goes through the sets that best rows begin with: what is not in one comes behind what is. */
        private void compareAll() {
            for (int p = 0; p < MOST_LAID; p++) {
                behindInSome[p] = 0;
            }
            for (int set = 0; set < SETS; set++) {
                bestEnds[set] = 0;
            }
            markNext(0, NONE, points);
            for (int set = 1; set < 1 << size && set < SETS; set++) {
                for (int last = 0; last < size; last++) {
                    if ((bestEnds[set] >>> last & 1) == 1) {
                        put(behindInSome, last, at(behindInSome, last) | ~set);
                        markNext(set, last, at(most, set * MOST_LAID + last));
                    }
                }
            }
        }

        private void markNext(int set, int last, int rest) {
            for (int p = 0; p < size; p++) {
                if (behind(set, last, p) == rest) {
                    int next = set | 1 << p;
                    put(bestEnds, next, at(bestEnds, next) | 1 << p);
                }
            }
        }
    }

    /** WHOSE a BIT is by THE HABIT, and whether one AUTHOR was two men. */
    private static final class Authorship {
        private final Shelf shelf;
        private final Text text;
        private final int[] uses = new int[WORD_KINDS];
        private int allUses;
        private int likeliest;
        private int points;
        private int lead;
        private int size;
        private final int[] members = new int[MOST_LAID];
        private final int[] bonds = new int[MOST_LAID * MOST_LAID];
        private long secondMan;
        private int cutValue;

        Authorship(Shelf shelf, Text text) {
            this.shelf = shelf;
            this.text = text;
        }

        int likeliest() {
            return likeliest;
        }

        int points() {
            return points;
        }

        int lead() {
            return lead;
        }

        long secondMan() {
            return secondMan;
        }

        int cutValue() {
            return cutValue;
        }

        void judge(int i) {
            likeliest = NONE;
            points = 0;
            lead = NONE;
            for (int a = 0; a < shelf.authors(); a++) {
                int his = pointsFor(i, a);
                if (a == 0) {
                    likeliest = a;
                    points = his;
                } else if (his > points) {
                    lead = his - points;
                    likeliest = a;
                    points = his;
                } else if (lead == NONE || points - his < lead) {
                    lead = points - his;
                }
            }
        }

        private int pointsFor(int i, int a) {
            gatherUses(a, i);
            text.let('t', allUses);
            text.let('p', shelf.prior(a));
            text.let('y', shelf.authorYear(a));
            int sum = 0;
            for (int p = 0; p < shelf.bitSize(i); p++) {
                int word = shelf.bitWord(i, p);
                text.let('w', word);
                text.let('n', at(uses, word));
                text.let('i', p);
                sum += text.value('h', -1000, 1000);
            }
            return sum;
        }

        private void gatherUses(int a, int aside) {
            allUses = 0;
            for (int word = 0; word < WORD_KINDS; word++) {
                uses[word] = 0;
            }
            for (int k = 0; k < shelf.works(); k++) {
                for (int p = 0; shelf.authorOf(k) == a && p < shelf.wordsLeft(k); p++) {
                    addUse(shelf.workWord(k, p));
                }
            }
            for (int i = 0; i < shelf.bits(); i++) {
                boolean his = i != aside && shelf.authorOf(shelf.bitWork(i)) == a;
                for (int p = 0; his && p < shelf.bitSize(i); p++) {
                    addUse(shelf.bitWord(i, p));
                }
            }
        }

        private void addUse(int word) {
            put(uses, word, at(uses, word) + 1);
            allUses++;
        }

        boolean cut(int author) {
            size = 0;
            for (int i = 0; i < shelf.bits(); i++) {
                if (shelf.authorOf(shelf.bitWork(i)) == author) {
                    put(members, size, i);
                    size++;
                }
            }
            if (size < 1 || size > MOST_LAID) {
                return false;
            }
            fillBonds();
            int best = 0;
            cutValue = valueOf(0);
            // The lowest BIT is the first member: sets without it are the even ones, the least first.
            for (int set = 2; set < 1 << size; set += 2) {
                int value = valueOf(set);
                if (value > cutValue) {
                    cutValue = value;
                    best = set;
                }
            }
            secondMan = bitsOf(best);
            return true;
        }

        private long bitsOf(int set) {
            long bits = 0;
            for (int p = 0; p < size; p++) {
                if ((set >>> p & 1) == 1) {
                    bits |= 1L << at(members, p);
                }
            }
            return bits;
        }

        private void fillBonds() {
            for (int p = 0; p < size; p++) {
                int x = at(members, p);
                for (int q = 0; q < p; q++) {
                    int y = at(members, q);
                    int gap = Math.abs(shelf.bitSubject(x) - shelf.bitSubject(y));
                    int both = Long.bitCount(kindsOf(x) & kindsOf(y));
                    put(bonds, p * MOST_LAID + q, 4 - gap + both);
                }
            }
        }

        private long kindsOf(int i) {
            long kinds = 0;
            for (int p = 0; p < shelf.bitSize(i); p++) {
                kinds |= 1L << shelf.bitWord(i, p);
            }
            return kinds;
        }

        private int valueOf(int set) {
            int value = 0;
            for (int p = 0; p < size; p++) {
                for (int q = 0; q < p; q++) {
                    boolean oneSet = (set >>> p & 1) == (set >>> q & 1);
                    int bond = at(bonds, p * MOST_LAID + q);
                    value += oneSet ? bond : -bond;
                }
            }
            return value;
        }
    }

    /** To which WORK EDITORS gave a BIT, year by year. */
    private static final class Editors {
        private static final int MOST_GIFTS = 60;

        private final Shelf shelf;
        private int gifts;
        private final int[] bits = new int[MOST_GIFTS];
        private final int[] works = new int[MOST_GIFTS];
        private final int[] years = new int[MOST_GIFTS];

        Editors(Shelf shelf) {
            this.shelf = shelf;
        }

        boolean give(int i, int work, int year) {
            if (gifts >= MOST_GIFTS || gifts > 0 && year < at(years, gifts - 1)) {
                return false;
            }
            put(bits, gifts, i);
            put(works, gifts, work);
            put(years, gifts, year);
            gifts++;
            return true;
        }

        int workBy(int i, int year) {
            int work = shelf.bitWork(i);
            for (int g = 0; g < gifts && at(years, g) <= year; g++) {
                if (at(bits, g) == i) {
                    work = at(works, g);
                }
            }
            return work;
        }

        long wronglyBy(int year) {
            long set = 0;
            for (int i = 0; i < shelf.bits(); i++) {
                int k = workBy(i, year);
                if (k != NONE && isWrong(i, k)) {
                    set |= 1L << i;
                }
            }
            return set;
        }

        private boolean isWrong(int i, int k) {
            return shelf.authorYear(shelf.authorOf(k)) > shelf.writerYear(shelf.bitWriter(i))
                    || shelf.booksOf(k) < shelf.bitBook(i);
        }
    }
}
