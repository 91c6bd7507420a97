import java.util.ArrayList;
import java.util.List;

/** A TEXT as a tree that is walked anew each time; for the Model alone. */
final class ModelText {
    static final class Fault extends RuntimeException {
        final int answer;
        Fault(int number, int place) {
            super(null, null, false, false);
            answer = -1000 * number - place;
        }
    }

    /** Something was divided by 0. */
    static final class Refused extends RuntimeException {
        Refused() { super(null, null, false, false); }
    }

    interface Node { int of(int[] letters); }
    record Clause(char head, Node value, Node condition) { }

    private final int[] bytes;
    private int at;
    private final List<Clause> all = new ArrayList<>();

    ModelText(int[] bytes, String heads) {
        this.bytes = bytes;
        while (true) {
            char head = (char) need(heads);
            if (all.size() == 12) throw new Fault(4, at);
            at++;
            Node value = sum(0);
            eat("(");
            Node condition = choice(1);
            eat(")");
            all.add(new Clause(head, value, condition));
            if (at == bytes.length) return;
            eat(";");
        }
    }

    int clauses() { return all.size(); }

    int value(char head, int least, int most, String names, int... values) {
        int[] letters = new int[128];
        for (int i = 0; i < names.length(); i++) letters[names.charAt(i)] = values[i];
        for (Clause c : all) {
            if (c.head != head || !holds(c, letters)) continue;
            int v;
            try {
                v = c.value.of(letters);
            } catch (Refused r) {
                return 0;
            }
            return v < least ? least : v > most ? most : v;
        }
        return 0;
    }

    private static boolean holds(Clause c, int[] letters) {
        try {
            return c.condition.of(letters) == 1;
        } catch (Refused r) {
            return false;
        }
    }

    private boolean is(String signs) {
        return at < bytes.length && bytes[at] < 128 && signs.indexOf(bytes[at]) >= 0;
    }

    private int need(String signs) {
        if (!is(signs)) throw new Fault(1, at);
        return bytes[at];
    }

    private int eat(String signs) {
        int sign = need(signs);
        at++;
        return sign;
    }

    private void open(int depth) {
        if (depth == 6) throw new Fault(5, at);
        at++;
    }

    private Node choice(int depth) {
        Node one = part(depth);
        if (!is("|")) return one;
        at++;
        Node rest = choice(depth);
        return v -> one.of(v) == 1 ? 1 : rest.of(v);
    }

    private Node part(int depth) {
        Node one = piece(depth);
        if (!is("&")) return one;
        at++;
        Node rest = part(depth);
        return v -> one.of(v) == 1 ? rest.of(v) : 0;
    }

    private Node piece(int depth) {
        if (is("!")) {
            open(depth);
            Node inner = piece(depth + 1);
            return v -> 1 - inner.of(v);
        }
        if (is("(")) {
            open(depth);
            Node inner = choice(depth + 1);
            eat(")");
            return inner;
        }
        Node one = sum(depth);
        int sign = eat("<>=");
        Node other = sum(depth);
        return v -> {
            int a = one.of(v);
            int b = other.of(v);
            return (sign == '<' ? a < b : sign == '>' ? a > b : a == b) ? 1 : 0;
        };
    }

    private Node sum(int depth) {
        Node all = term(depth);
        while (is("+-")) {
            Node one = all;
            int sign = eat("+-");
            Node other = term(depth);
            all = v -> sign == '+' ? one.of(v) + other.of(v) : one.of(v) - other.of(v);
        }
        return all;
    }

    private Node term(int depth) {
        Node all = factor(depth);
        while (is("*/%")) {
            Node one = all;
            int sign = eat("*/%");
            Node other = factor(depth);
            all = v -> {
                int a = one.of(v);
                int b = other.of(v);
                if (sign == '*') return a * b;
                if (b == 0) throw new Refused();
                return sign == '/' ? a / b : a % b;
            };
        }
        return all;
    }

    private Node factor(int depth) {
        if (is("[")) {
            open(depth);
            Node inner = sum(depth + 1);
            eat("]");
            return inner;
        }
        if (is("0123456789")) {
            int start = at;
            int number = 0;
            while (is("0123456789")) {
                if (at - start == 5) throw new Fault(2, at);
                number = number * 10 + bytes[at] - '0';
                at++;
            }
            int n = number;
            return v -> n;
        }
        int letter = eat("wilbxykmcstznp");
        return v -> v[letter];
    }
}
