/** A QuotedBooks with short ways to feed its tape, for tests that are written by hand. */
final class Desk {
    final QuotedBooks x = new QuotedBooks();

    /** Feeds bytes; those that fill up the last twenty are 0. */
    Desk bytes(int... bytes) {
        for (int start = 0; start < bytes.length; start += 20) {
            int[] five = new int[5];
            for (int i = 0; i < 20; i++) {
                five[i / 4] = five[i / 4] << 8 | (start + i < bytes.length ? bytes[start + i] : 0);
            }
            x.feed(five[0], five[1], five[2], five[3], five[4]);
        }
        return this;
    }

    /** A TEXT of one byte is always a FAULT, which empties the tape. */
    Desk empty() {
        x.plan(1);
        return this;
    }

    Desk numbers(int... numbers) {
        int[] bytes = new int[4 * numbers.length];
        for (int i = 0; i < bytes.length; i++) bytes[i] = numbers[i / 4] >>> 24 - 8 * (i % 4) & 255;
        return bytes(bytes);
    }

    private int feedText(String text) {
        int[] bytes = new int[text.length()];
        for (int i = 0; i < bytes.length; i++) bytes[i] = text.charAt(i);
        bytes(bytes);
        return bytes.length;
    }

    int way(int writer, String text) { return x.way(writer, feedText(text)); }

    int plan(String text) { return x.plan(feedText(text)); }

    int habit(String text) { return x.habit(feedText(text)); }

    int table(String text) { return x.table(feedText(text)); }

    /** WORDS of a WORK, all in BOOK 1. */
    boolean left(int k, int... words) {
        int[] bytes = new int[2 * words.length];
        for (int p = 0; p < words.length; p++) {
            bytes[2 * p] = words[p];
            bytes[2 * p + 1] = 1;
        }
        bytes(bytes);
        return x.left(k, words.length);
    }

    int bit(int writer, int work, int book, int subject, int... words) {
        bytes(words);
        return x.bit(writer, work, book, subject, words.length);
    }

    /** An AUTHOR of the year 0, WORKS of his with nine BOOKS, and WRITERS of the years 100, 200 and so on. */
    static Desk with(int works, int writers) {
        Desk d = new Desk();
        d.x.author(0, 1);
        for (int k = 0; k < works; k++) d.x.work(0, 9);
        for (int m = 1; m <= writers; m++) d.x.writer(100 * m);
        return d;
    }
}
