import java.util.ArrayList;
import java.util.List;

/** What an object answers to some 200 calls, so that two of them can be held side by side. */
final class Snapshot {
    private final QuotedBooks x;
    private final List<String> lines = new ArrayList<>();

    private Snapshot(QuotedBooks x) {
        this.x = x;
    }

    /** Asks, and at the end tells some more, as what shows only then (the last YEAR of EDITORS) must be alike, too. */
    static List<String> of(QuotedBooks x) {
        Snapshot all = new Snapshot(x);
        all.counts();
        all.bits();
        all.closeness();
        all.slips();
        all.order();
        all.books();
        all.whatComesNext();
        return all.lines;
    }

    private void add(String call, long answer) {
        lines.add(call + " = " + answer);
    }

    private void counts() {
        for (int what = 0; what < 28; what++) if (what < 18 || what > 19) add("count(" + what + ")", x.count(what));
    }

    private void bits() {
        for (int i : new int[] {0, 1, 4, 5, 39}) {
            for (int what : new int[] {0, 1, 2, 3, 4, 10, 11, 17}) add("bitIs(" + i + ", " + what + ")", x.bitIs(i, what));
        }
        add("same(0, 8)", x.same(0, 8));
    }

    private void closeness() {
        for (int what = 0; what < 4; what++) {
            add("near(0, 0, " + what + ")", x.near(0, 0, what));
            add("near(1, 1, " + what + ")", x.near(1, 1, what));
            add("nearness(0, " + what + ")", x.nearness(0, what));
            add("nearness(1, " + what + ")", x.nearness(1, what));
            add("stood(0, 1, " + (what - 1) + ")", x.stood(0, 1, what - 1));
        }
        add("apart(0, 1)", x.apart(0, 1));
    }

    private void slips() {
        for (int what = 0; what < 4; what++) {
            add("slips(0, 0, " + what + ")", x.slips(0, 0, what));
            add("slips(1, 0, " + what + ")", x.slips(1, 0, what));
            add("slip(0, 0, " + what + ")", x.slip(0, 0, what));
        }
        for (int what = 0; what < 6; what++) add("shared(0, 1, 0, " + what + ")", x.shared(0, 1, 0, what));
        for (int what = 0; what < 2; what++) add("from(1, 0, " + what + ")", x.from(1, 0, what));
        add("groups(0, 500)", x.groups(0, 500));
        for (int k = 0; k < 3; k++) add("there(" + k + ")", x.there(k));
    }

    private void order() {
        for (int what = -1; what < 5; what++) add("order(0, " + what + ")", x.order(0, what));
        for (int k = 0; k < 3; k++) add("orders(" + k + ")", x.orders(k));
        for (int i = 0; i < 3; i++) {
            add("moves(" + i + ")", x.moves(i));
            add("sure(" + i + ", 3)", x.sure(i, 3));
        }
    }

    private void books() {
        add("truth(1, 9, 0)", x.truth(1, 9, 0));
        add("truth(3, 9, 2)", x.truth(3, 9, 2));
        add("length(0, 9, 1)", x.length(0, 9, 1));
        add("span(0, 10, 1)", x.span(0, 10, 1));
        add("nobody(0, 40)", x.nobody(0, 40));
        for (int what = 0; what < 3; what++) {
            add("whose(0, " + what + ")", x.whose(0, what));
            add("men(0, " + what + ")", x.men(0, what));
        }
        for (int year : new int[] {0, 500, 2000}) {
            add("given(0, " + year + ")", x.given(0, year));
            add("given(1, " + year + ")", x.given(1, year));
            add("wrong(" + year + ")", x.wrong(year));
        }
    }

    private void whatComesNext() {
        for (int i : new int[] {0, 2}) {
            add("gives(" + i + ", -1, 500)", x.gives(i, -1, 500) ? 1 : 0);
            add("given(" + i + ", 500)", x.given(i, 500));
        }
        add("ahead(1, 0)", x.ahead(1, 0) ? 1 : 0);
        add("quote(0, 0, 0, 3, 1)", x.quote(0, 0, 0, 3, 1));
        add("quote(1, 1, 0, 1, 1)", x.quote(1, 1, 0, 1, 1));
        add("count(4)", x.count(4));
        for (int i : new int[] {0, 5, 6}) {
            for (int what : new int[] {0, 1, 2, 4, 10, 11}) add("bitIs(" + i + ", " + what + ") behind it", x.bitIs(i, what));
        }
        add("author(1, 1)", x.author(1, 1));
        add("work(0, 1)", x.work(0, 1));
        add("writer(1)", x.writer(1));
        add("count(9)", x.count(9));
    }
}
