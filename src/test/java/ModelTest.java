import java.util.ArrayList;
import java.util.List;
import java.util.NoSuchElementException;
import java.util.Random;

/** Runs of calls by chance (the same ones each time), answered by the class and by Model. */
public final class ModelTest {
    private static final String[] FACTS = {"rust", "under", "soil", "hole", "worn", "fresh", "turned", "clean", "age",
        "layer", "hour", "stone", "first", "alone", "dawn", "others", "twins"};
    private static final String[] DAY_FACTS = {"day", "finds", "barred", "odd", "pairs", "most", "dawns", "papers"};
    private static final String[] BITS = {"bar", "odd", "when", "rule", "stops", "since", "far", "enough", "and", "or",
        "not", "(", ")", "<", "=", "+", "-", "*", ";", "3", "12", "9999", "12345", "abcdefgh", "abcdefghi", "?", "A",
        "rust", "day", " ", "\n"};
    private static int wrong;

    private final Random chance;
    private final int sites;
    private final int hands;
    private final int days;
    private final AxesAtDawn x = new AxesAtDawn();
    private final Model m = new Model();
    private final List<String> calls = new ArrayList<>();
    private final List<int[]> layers = new ArrayList<>();
    private int day;

    private ModelTest(long seed) {
        chance = new Random(seed);
        sites = 1 + chance.nextInt(4);
        hands = 1 + chance.nextInt(5);
        days = 2 + chance.nextInt(12);
    }

    public static void main(String[] args) {
        int runs = args.length > 0 ? Integer.parseInt(args[0]) : 100;
        long from = args.length > 1 ? Long.parseLong(args[1]) : 0;
        for (long seed = from; seed < from + runs && wrong < 10; seed++) {
            ModelTest t = new ModelTest(seed);
            for (int i = 0; i < 500 && t.call(i); i++) {
                continue;
            }
        }
        System.out.println(wrong == 0 ? "all answers are as the model's" : wrong + " runs differ from the model");
        if (wrong != 0) {
            System.exit(1);
        }
    }

    /** Mostly something that is there, seldom anything. */
    private int some(int limit) {
        int kind = chance.nextInt(60);
        if (kind == 0) {
            return -1;
        }
        if (kind == 1) {
            return chance.nextInt(4) == 0 ? chance.nextInt() : limit + chance.nextInt(12);
        }
        return chance.nextInt(Math.max(1, limit));
    }

    private boolean due(String call, long got, long want) {
        calls.add(call + " -> " + want);
        if (got == want) {
            return true;
        }
        wrong++;
        System.out.println("differs: " + call + " answered " + got + ", the model says " + want);
        calls.forEach(c -> System.out.println("    " + c));
        return false;
    }

    private static long bit(boolean b) {
        return b ? 1 : 0;
    }

    private boolean call(int turn) {
        return chance.nextInt(turn < 120 ? 3 : 7) < 2 ? tell() : ask();
    }

    private boolean tell() {
        switch (chance.nextInt(30)) {
            case 0, 1: {
                int a = some(sites), b = some(10), c = chance.nextInt(3) == 0 ? some(10000) : some(6) * 10;
                boolean took = m.layer(a, b, c);
                if (took) {
                    layers.add(new int[] {a, b});
                }
                return due("layer(" + a + ", " + b + ", " + c + ")", bit(x.layer(a, b, c)), bit(took));
            }
            case 2: {
                int a = some(sites), b = some(sites), c = some(300);
                return due("way(" + a + ", " + b + ", " + c + ")", bit(x.way(a, b, c)), bit(m.way(a, b, c)));
            }
            case 3, 4, 5, 6, 7:
                return tellHere();
            case 8, 9, 10, 11, 12, 13:
                return tellFind();
            case 14: {
                int a = some(hands), b = some(sites), c = some(days);
                return due("seen(" + a + ", " + b + ", " + c + ")", bit(x.seen(a, b, c)), bit(m.seen(a, b, c)));
            }
            case 15, 16, 17, 28, 29:
                return tellGround();
            case 18: {
                int a = some(days);
                return due("paper(" + a + ")", bit(x.paper(a)), bit(m.paper(a)));
            }
            case 19: {
                int a = some(4);
                boolean back = chance.nextInt(8) == 0;
                return due("mark(" + a + ", " + back + ")", bit(x.mark(a, back)), bit(m.mark(a, back)));
            }
            case 20: {
                int a = some(hands), b = some(10), c = chance.nextBoolean() ? 0 : some(10);
                return due("skill(" + a + ", " + b + ", " + c + ")", bit(x.skill(a, b, c)), bit(m.skill(a, b, c)));
            }
            case 21, 26, 27: {
                int a = some(sites), b = layerAt(a), c = some(10);
                return due("wealth(" + a + ", " + b + ", " + c + ")", bit(x.wealth(a, b, c)), bit(m.wealth(a, b, c)));
            }
            case 22: {
                int a = some(8), b = some(10), c = some(10);
                return due("shows(" + a + ", " + b + ", " + c + ")", bit(x.shows(a, b, c)), bit(m.shows(a, b, c)));
            }
            default:
                return tellLaw();
        }
    }

    private boolean tellHere() {
        int a = some(hands), b = some(sites), c = some(days), d = some(24), e = d + some(6);
        return due("here(" + a + ", " + b + ", " + c + ", " + d + ", " + e + ")", bit(x.here(a, b, c, d, e)),
                bit(m.here(a, b, c, d, e)));
    }

    private boolean tellFind() {
        // Of many places the first at which somebody is, so that most are taken.
        int s = some(sites), d = day, h = some(24), who = 0;
        for (int i = 0; i < 60; i++) {
            s = some(sites);
            d = day + chance.nextInt(2);
            h = some(24);
            int there = m.present(s, d, h);
            if (there > 0) {
                who = Integer.numberOfTrailingZeros(chance.nextBoolean() ? there : Integer.highestOneBit(there));
                break;
            }
        }
        int l = layerAt(s);
        int marks = some(256), stone = chance.nextInt(4) == 0 ? some(100) : some(4);
        int got = x.find(s, l, d, h, who, marks, stone);
        int want = m.find(s, l, d, h, who, marks, stone);
        day = want >= 0 ? d : chance.nextInt(6) == 0 ? Math.min(day + 1, days) : day;
        return due("find(" + s + ", " + l + ", " + d + ", " + h + ", " + who + ", " + marks + ", " + stone + ")", got,
                want);
    }

    /** A LAYER that is told there, if there is one and chance allows. */
    private int layerAt(int s) {
        for (int i = 0; i < 20 && !layers.isEmpty(); i++) {
            int[] layer = layers.get(chance.nextInt(layers.size()));
            if (layer[0] == s) {
                return layer[1];
            }
        }
        return some(10);
    }

    private boolean tellGround() {
        int n = m.count(0);
        int c = some(12);
        long f = 0;
        for (int i = chance.nextInt(5); i > 0 && n > 0; i--) {
            f |= 1L << chance.nextInt(n);
        }
        int cs = chance.nextInt(3) == 0 ? 1 << some(12) | 1 << some(12) : 0;
        if (chance.nextInt(30) == 0) {
            f = chance.nextLong();
        }
        return due("ground(" + c + ", " + f + ", " + cs + ")", bit(x.ground(c, f, cs)), bit(m.ground(c, f, cs)));
    }

    private String part(String[] facts, int deep) {
        int kind = chance.nextInt(8);
        if (kind == 0 && deep > 0) {
            return "(" + e(facts, deep - 1) + ")";
        }
        if (kind == 1 && deep > 0) {
            return "not " + part(facts, deep - 1);
        }
        if (kind < 4) {
            return "" + (chance.nextInt(3) == 0 ? chance.nextInt(10000) : chance.nextInt(4));
        }
        return facts[chance.nextInt(facts.length)];
    }

    private String e(String[] facts, int deep) {
        StringBuilder text = new StringBuilder(part(facts, deep));
        String[] joins = {" and ", " or ", "+", "-", "*"};
        boolean compared = false;
        for (int i = chance.nextInt(4); i > 0; i--) {
            boolean compare = !compared && chance.nextInt(3) == 0;
            String join = compare ? chance.nextBoolean() ? "<" : "=" : joins[chance.nextInt(5)];
            compared = (compared || compare) && !join.startsWith(" ");
            text.append(join).append(part(facts, deep));
        }
        return text.toString();
    }

    private String lawLine() {
        int deep = chance.nextInt(12) == 0 ? 6 : 3;
        return switch (chance.nextInt(13)) {
            case 0, 1 -> "bar when " + e(FACTS, deep) + ";";
            case 2, 3 -> "odd when " + e(FACTS, deep) + ";\n";
            case 4, 5, 9, 10, 11, 12 -> "rule " + chance.nextInt(chance.nextInt(10) == 0 ? 9 : 8) + " stops "
                    + e(FACTS, deep) + ";";
            case 6 -> "since " + chance.nextInt(chance.nextInt(9) == 0 ? 11 : 10) + " ; ";
            case 7 -> "far " + chance.nextInt(chance.nextInt(9) == 0 ? 1100 : 200) + ";";
            default -> "enough when " + e(DAY_FACTS, deep) + ";";
        };
    }

    private boolean tellLaw() {
        StringBuilder text = new StringBuilder();
        for (int i = chance.nextInt(chance.nextInt(8) == 0 ? 40 : 7); i > 0; i--) {
            text.append(lawLine());
        }
        for (int i = chance.nextInt(3) == 0 ? 1 + chance.nextInt(2) : 0; i > 0 && text.length() > 0; i--) {
            int at = chance.nextInt(text.length());
            String bit = BITS[chance.nextInt(BITS.length)];
            if (chance.nextBoolean()) {
                text.insert(at, bit);
            } else {
                text.replace(at, Math.min(text.length(), at + 1 + chance.nextInt(3)), chance.nextBoolean() ? bit : "");
            }
        }
        long[] v = new long[3];
        for (int from = 0; from < text.length(); from += 24) {
            for (int i = 0; i < 24; i++) {
                int sign = from + i < text.length() ? text.charAt(from + i) : chance.nextInt(3) == 0 ? 200 : 0;
                v[i / 8] = v[i / 8] << 8 | sign;
            }
            if (!due("feed(" + v[0] + ", " + v[1] + ", " + v[2] + ")", x.feed(v[0], v[1], v[2]),
                    m.feed(v[0], v[1], v[2]))) {
                return false;
            }
        }
        return due("law() of " + text, x.law(), m.law());
    }

    private boolean ask() {
        int n = m.count(0);
        int f = some(n);
        switch (chance.nextInt(27)) {
            case 0: {
                int a = some(sites), b = some(days), c = some(24);
                return due("present(" + a + ", " + b + ", " + c + ")", x.present(a, b, c), m.present(a, b, c));
            }
            case 1, 2: {
                int w = some(20);
                return due("fact(" + f + ", " + w + ")", thrown(() -> x.fact(f, w)), thrown(() -> m.fact(f, w)));
            }
            case 3:
                return due("each(" + f + ")", x.each(f), m.each(f));
            case 4: {
                int r = some(8);
                return due("stops(" + r + ", " + f + ")", x.stops(r, f), m.stops(r, f));
            }
            case 5: {
                int a = some(hands), b = some(3), c = some(4);
                return due("row(" + a + ", " + b + ", " + c + ")", x.row(a, b, c), m.row(a, b, c));
            }
            case 6: {
                int a = some(hands), b = some(3), c = some(2);
                return due("odds(" + a + ", " + b + ", " + c + ")", x.odds(a, b, c), m.odds(a, b, c));
            }
            case 7: {
                int a = some(10), b = some(7), c = some(7), d = some(4), e = some(2);
                return due("luck(" + a + ", " + b + ", " + c + ", " + d + ", " + e + ")", x.luck(a, b, c, d, e),
                        m.luck(a, b, c, d, e));
            }
            case 8:
                return due("can(" + f + ")", x.can(f), m.can(f));
            case 9:
                return due("may(" + f + ")", x.may(f), m.may(f));
            case 10:
                return due("put(" + f + ")", x.put(f), m.put(f));
            case 11, 12: {
                int w = some(5);
                return due("stories(" + w + ")", x.stories(w), m.stories(w));
            }
            default:
                return askMore(f);
        }
    }

    private boolean askMore(int f) {
        switch (chance.nextInt(15)) {
            case 0: {
                int h = some(hands + 1) - 1;
                return due("standing(" + h + ")", x.standing(h), m.standing(h));
            }
            case 1: {
                int h = some(hands + 1) - 1;
                return due("oldest(" + h + ")", x.oldest(h), m.oldest(h));
            }
            case 2, 3: {
                int c = some(12), w = some(4);
                return due("cut(" + c + ", " + w + ")", x.cut(c, w), m.cut(c, w));
            }
            case 4:
                return due("doubted(" + f + ")", x.doubted(f), m.doubted(f));
            case 5:
                return due("settled()", x.settled(), m.settled());
            case 6: {
                int a = some(sites), b = some(sites + 1) - 1;
                return due("again(" + a + ", " + b + ")", x.again(a, b), m.again(a, b));
            }
            case 7: {
                int a = chance.nextInt(8) == 0 ? 2 : some(2), b = some(3);
                return due("where(" + a + ", " + b + ")", x.where(a, b), m.where(a, b));
            }
            case 8: {
                int w = some(2);
                return due("rules(" + w + ")", x.rules(w), m.rules(w));
            }
            case 9:
                return due("enough()", x.enough(), m.enough());
            case 10: {
                int s = some(10000), w = some(5);
                return due("world(" + s + ", " + w + ")", x.world(s, w), m.world(s, w));
            }
            case 11: {
                int s = chance.nextInt(3), k = some(20), w = some(6);
                return due("found(" + s + ", " + k + ", " + w + ")", x.found(s, k, w), m.found(s, k, w));
            }
            case 12: {
                int n = some(5), w = some(6);
                return due("rates(" + n + ", " + w + ")", x.rates(n, w), m.rates(n, w));
            }
            case 13: {
                int n = some(5), w = some(2);
                return due("parted(" + n + ", " + w + ")", thrown(() -> x.parted(n, w)), thrown(() -> m.parted(n, w)));
            }
            default: {
                int w = some(8);
                return due("count(" + w + ")", x.count(w), m.count(w));
            }
        }
    }

    private interface Call {
        int answer();
    }

    private static long thrown(Call call) {
        try {
            return call.answer();
        } catch (NoSuchElementException e) {
            return Long.MIN_VALUE;
        }
    }
}
