import java.util.ArrayList;
import java.util.HashMap;
import java.util.List;
import java.util.Map;
import java.util.Set;
import java.util.regex.Matcher;
import java.util.regex.Pattern;

/** A LAW read into a tree, for Model. */
final class ModelLaw {
    interface E {
        int of(Map<String, Integer> facts);
    }

    private static final class Fault extends RuntimeException {
        private static final long serialVersionUID = 1L;
        final int number;

        Fault(int kind, Token at) {
            number = kind + 16 * at.place;
        }
    }

    record Token(String text, int place) { }

    private static final Set<String> OF_FIND = Set.of("rust", "under", "soil", "hole", "worn", "fresh", "turned",
            "clean", "age", "layer", "hour", "stone", "first", "alone", "dawn", "others", "twins");
    private static final Set<String> OF_DAY = Set.of("day", "finds", "barred", "odd", "pairs", "most", "dawns",
            "papers");

    int fault;
    int since = 3;
    int far = 100;
    E enough;
    final List<E> bars = new ArrayList<>();
    final List<E> odds = new ArrayList<>();
    final Map<Integer, E> rules = new HashMap<>();

    private final List<Token> tokens = new ArrayList<>();
    private int at;
    private Set<String> words = OF_FIND;

    static ModelLaw read(String text) {
        ModelLaw law = new ModelLaw();
        Matcher m = Pattern.compile("[a-z]+|[0-9]+|[^\\n ]").matcher(text);
        while (m.find()) {
            boolean is = m.group().matches("[a-z]{1,8}|[0-9]{1,4}|[()<=+*;-]");
            law.tokens.add(new Token(is ? m.group() : "?", m.start()));
        }
        law.tokens.add(new Token("", text.length()));
        try {
            law.lines();
        } catch (Fault f) {
            law.fault = f.number;
        }
        return law;
    }

    int judge(Map<String, Integer> facts) {
        for (E e : bars) {
            if (e.of(facts) != 0) {
                return 2;
            }
        }
        return odds.stream().anyMatch(e -> e.of(facts) != 0) ? 1 : 0;
    }

    private Token next() {
        return tokens.get(at);
    }

    private boolean next(String text) {
        return next().text.equals(text);
    }

    private void need(String text) {
        if (!next(text)) {
            throw new Fault(1, next());
        }
        at++;
    }

    private boolean isNumber() {
        return next().text.matches("[0-9]+");
    }

    private int number(int most) {
        if (!isNumber()) {
            throw new Fault(1, next());
        }
        int n = Integer.parseInt(next().text);
        if (n > most) {
            throw new Fault(4, next());
        }
        return n;
    }

    private void once(boolean already) {
        if (already) {
            throw new Fault(3, next());
        }
    }

    private void lines() {
        boolean hasSince = false;
        boolean hasFar = false;
        while (!next("")) {
            if (next("bar") || next("odd")) {
                List<E> list = next("bar") ? bars : odds;
                if (list.size() == 6) {
                    throw new Fault(5, next());
                }
                at++;
                need("when");
                list.add(e(0));
            } else if (next("rule")) {
                at++;
                int n = number(7);
                once(rules.containsKey(n));
                at++;
                need("stops");
                rules.put(n, e(0));
            } else if (next("since")) {
                once(hasSince);
                hasSince = true;
                at++;
                since = number(9);
                at++;
            } else if (next("far")) {
                once(hasFar);
                hasFar = true;
                at++;
                far = number(999);
                at++;
            } else if (next("enough")) {
                once(enough != null);
                at++;
                need("when");
                words = OF_DAY;
                enough = e(0);
                words = OF_FIND;
            } else {
                throw new Fault(1, next());
            }
            need(";");
        }
    }

    private E e(int within) {
        E left = test(within);
        while (next("and") || next("or")) {
            boolean and = next("and");
            at++;
            E a = left;
            E b = test(within);
            left = f -> (and ? a.of(f) != 0 && b.of(f) != 0 : a.of(f) != 0 || b.of(f) != 0) ? 1 : 0;
        }
        return left;
    }

    private E test(int within) {
        E a = sum(within);
        if (next("<")) {
            at++;
            E b = sum(within);
            return f -> a.of(f) < b.of(f) ? 1 : 0;
        }
        if (next("=")) {
            at++;
            E b = sum(within);
            return f -> a.of(f) == b.of(f) ? 1 : 0;
        }
        return a;
    }

    private E sum(int within) {
        E left = product(within);
        while (next("+") || next("-")) {
            int sign = next("+") ? 1 : -1;
            at++;
            E a = left;
            E b = product(within);
            left = f -> a.of(f) + sign * b.of(f);
        }
        return left;
    }

    private E product(int within) {
        E left = part(within);
        while (next("*")) {
            at++;
            E a = left;
            E b = part(within);
            left = f -> a.of(f) * b.of(f);
        }
        return left;
    }

    private E part(int within) {
        Token t = next();
        boolean fact = words.contains(t.text);
        if (!fact && !isNumber() && !next("not") && !next("(")) {
            throw new Fault(1, t);
        }
        if (within == 5) {
            throw new Fault(5, t);
        }
        boolean number = isNumber();
        at++;
        if (t.text.equals("not")) {
            E e = part(within + 1);
            return f -> e.of(f) == 0 ? 1 : 0;
        }
        if (t.text.equals("(")) {
            E e = e(within + 1);
            need(")");
            return e;
        }
        if (number) {
            int n = Integer.parseInt(t.text);
            return f -> n;
        }
        return f -> f.get(t.text);
    }
}
