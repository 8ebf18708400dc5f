import static java.nio.charset.StandardCharsets.ISO_8859_1;

import java.math.BigInteger;
import java.nio.ByteBuffer;
import java.util.ArrayList;
import java.util.HashMap;
import java.util.HashSet;
import java.util.List;
import java.util.Map;
import java.util.NoSuchElementException;
import java.util.Set;
import java.util.TreeSet;

/**
 * The document again, as slowly and plainly as can be, with the Java library: nothing is kept between two
 * calls but what was told. ModelTest compares the class with it.
 */
final class Model {
    record Line(int hand, int site, int day, int from, int to) { }

    record Find(int site, int layer, int day, int hour, int hand, int marks, int stone) { }

    record Seen(int hand, int site, int day) { }

    record Ground(int claim, Set<Integer> finds, Set<Integer> claims) { }

    record Laid(int mark, int finds, int lines, int seen, int papers, int grounds) { }

    record Thing(boolean put, int marks, int layer, int hand, int stone, int verdict, int age) { }

    private final Map<Integer, Integer> age = new HashMap<>();
    private final Map<Integer, Integer> wealth = new HashMap<>();
    private final Map<Set<Integer>, Integer> ways = new HashMap<>();
    private List<Line> lines = new ArrayList<>();
    private List<Find> finds = new ArrayList<>();
    private List<Seen> seen = new ArrayList<>();
    private List<Integer> papers = new ArrayList<>();
    private List<Ground> grounds = new ArrayList<>();
    private final List<Laid> laid = new ArrayList<>();
    private final StringBuilder tape = new StringBuilder();
    private ModelLaw law = ModelLaw.read("");
    private final int[] skill = new int[10];
    private final int[] habit = new int[10];
    private final int[] lay = new int[8];
    private final int[] put = new int[8];

    private static boolean in(int v, int low, int high) {
        return low <= v && v <= high;
    }

    private static boolean site(int s) {
        return in(s, 0, 7);
    }

    private boolean known(int f) {
        return in(f, 0, finds.size() - 1);
    }

    boolean layer(int s, int l, int a) {
        if (!site(s) || !in(l, 0, 9) || !in(a, 0, 9999)) {
            return false;
        }
        age.put(s * 100 + l, a);
        return true;
    }

    boolean way(int a, int b, int length) {
        if (!site(a) || !site(b) || a == b || !in(length, 0, 999)) {
            return false;
        }
        ways.put(Set.of(a, b), length);
        return true;
    }

    boolean here(int hand, int s, int day, int from, int to) {
        if (!in(hand, 0, 9) || !site(s) || !in(day, 0, 999) || !in(from, 0, 23) || !in(to, from, 23)) {
            return false;
        }
        for (int hour = from; hour <= to; hour++) {
            for (int other = 0; other < 8; other++) {
                if (other != s && who(other, day, hour).contains(hand)) {
                    return false;
                }
            }
        }
        return lines.size() < 80 && lines.add(new Line(hand, s, day, from, to));
    }

    private Set<Integer> who(int s, int day, int hour) {
        Set<Integer> who = new TreeSet<>();
        for (Line l : lines) {
            if (l.site == s && l.day == day && l.from <= hour && hour <= l.to) {
                who.add(l.hand);
            }
        }
        return who;
    }

    private boolean alone(int hand, int s, int day, int hour) {
        return who(s, day, hour).equals(Set.of(hand));
    }

    int find(int s, int l, int day, int hour, int hand, int marks, int stone) {
        if (!site(s) || !in(l, 0, 9) || !in(day, 0, 999) || !in(hour, 0, 23) || !in(hand, 0, 9)
                || !in(marks, 0, 255) || !in(stone, 0, 99) || !age.containsKey(s * 100 + l)
                || !who(s, day, hour).contains(hand) || finds.size() == 40
                || (!finds.isEmpty() && finds.get(finds.size() - 1).day > day)) {
            return -1;
        }
        finds.add(new Find(s, l, day, hour, hand, marks, stone));
        return finds.size() - 1;
    }

    int feed(long a, long b, long c) {
        for (long v : new long[] {a, b, c}) {
            for (char sign : new String(ByteBuffer.allocate(8).putLong(v).array(), ISO_8859_1).toCharArray()) {
                if ((sign == 10 || in(sign, 32, 126)) && tape.length() < 1000) {
                    tape.append(sign);
                }
            }
        }
        return tape.length();
    }

    int law() {
        ModelLaw read = ModelLaw.read(tape.toString());
        tape.setLength(0);
        if (read.fault == 0) {
            law = read;
        }
        return read.fault;
    }

    private static int bits(Iterable<Integer> set) {
        int bits = 0;
        for (int i : set) {
            bits |= 1 << i;
        }
        return bits;
    }

    int present(int s, int day, int hour) {
        return site(s) && in(day, 0, 999) && in(hour, 0, 23) ? bits(who(s, day, hour)) : -1;
    }

    private boolean twins(int i, int k) {
        Find a = finds.get(i);
        Find b = finds.get(k);
        return a.stone == b.stone && a.site != b.site
                && ways.getOrDefault(Set.of(a.site, b.site), 0) > law.far;
    }

    private int ageOf(Find f) {
        return age.get(f.site * 100 + f.layer);
    }

    private int dawn(int hand, int s, int day, int hour) {
        int dawn = 0;
        for (int h = 0; h < hour; h++) {
            dawn += alone(hand, s, day, h) ? 1 : 0;
        }
        return dawn;
    }

    private Map<String, Integer> facts(Find f, boolean first, int twins) {
        Map<String, Integer> facts = new HashMap<>();
        String[] marks = {"rust", "under", "soil", "hole", "worn", "fresh", "turned", "clean"};
        for (int m = 0; m < 8; m++) {
            facts.put(marks[m], (f.marks & 1 << m) != 0 ? 1 : 0);
        }
        facts.put("age", ageOf(f));
        facts.put("layer", f.layer);
        facts.put("hour", f.hour);
        facts.put("stone", f.stone);
        facts.put("first", first ? 1 : 0);
        facts.put("alone", alone(f.hand, f.site, f.day, f.hour) ? 1 : 0);
        facts.put("dawn", dawn(f.hand, f.site, f.day, f.hour));
        facts.put("others", who(f.site, f.day, f.hour).size() - 1);
        facts.put("twins", twins);
        return facts;
    }

    private Map<String, Integer> facts(int i) {
        boolean first = true;
        int twins = 0;
        for (int k = 0; k < finds.size(); k++) {
            first &= k >= i || ageOf(finds.get(k)) < ageOf(finds.get(i));
            twins += twins(i, k) ? 1 : 0;
        }
        return facts(finds.get(i), first, twins);
    }

    int fact(int find, int what) {
        if (!known(find) || !in(what, 0, 19)) {
            throw new NoSuchElementException();
        }
        Find f = finds.get(find);
        String[] names = {"rust", "under", "soil", "hole", "worn", "fresh", "turned", "clean", "age", "layer",
            "hour", "stone", "first", "alone", "dawn", "others", "twins"};
        return what < 17 ? facts(find).get(names[what]) : what == 17 ? f.site : what == 18 ? f.day : f.hand;
    }

    int each(int find) {
        return known(find) ? law.judge(facts(find)) : -1;
    }

    int stops(int rule, int find) {
        if (!known(find) || !law.rules.containsKey(rule)) {
            return -1;
        }
        return law.rules.get(rule).of(facts(find)) != 0 ? 1 : 0;
    }

    private boolean sort(int find, int sort) {
        return sort == 0 ? facts(find).get("dawn") > 0 : sort == 1 ? facts(find).get("first") == 1 : each(find) > 0;
    }

    int row(int hand, int sort, int what) {
        if (!in(hand, 0, 9) || !in(sort, 0, 2) || !in(what, 0, 3)) {
            return -1;
        }
        int many = 0;
        for (int i = 0; i < finds.size(); i++) {
            boolean his = finds.get(i).hand == hand;
            boolean sorted = sort(i, sort);
            many += (what > 1 || his) && (what % 2 == 0 || sorted) ? 1 : 0;
        }
        return many;
    }

    private static BigInteger choose(int n, int k) {
        if (k < 0 || k > n) {
            return BigInteger.ZERO;
        }
        return k == 0 ? BigInteger.ONE
                : choose(n - 1, k - 1).multiply(BigInteger.valueOf(n)).divide(BigInteger.valueOf(k));
    }

    private static long fraction(BigInteger above, BigInteger below, int what) {
        return (what == 0 ? above : below).divide(above.gcd(below)).longValueExact();
    }

    long odds(int hand, int sort, int what) {
        if (!in(hand, 0, 9) || !in(sort, 0, 2) || !in(what, 0, 1)) {
            return -1;
        }
        int n = row(hand, sort, 0);
        int x = row(hand, sort, 1);
        int all = row(hand, sort, 2);
        int k = row(hand, sort, 3);
        BigInteger above = BigInteger.ZERO;
        for (int i = x; i <= n; i++) {
            above = above.add(choose(k, i).multiply(choose(all - k, n - i)));
        }
        return fraction(above, choose(all, n), what);
    }

    long luck(int a, int q, int k, int d, int what) {
        if (!in(a, 1, 9) || !in(q, 1, 6) || !in(k, 0, q) || !in(d, 1, 3) || !in(what, 0, 1)) {
            return -1;
        }
        BigInteger fewer = BigInteger.ZERO;
        for (int squares = 0; squares < 1 << q; squares++) {
            if (Integer.bitCount(squares) < k) {
                BigInteger ways = BigInteger.ONE;
                for (int i = 0; i < q; i++) {
                    ways = ways.multiply(BigInteger.valueOf((squares & 1 << i) != 0 ? a : 10 - a));
                }
                fewer = fewer.add(ways);
            }
        }
        BigInteger below = BigInteger.TEN.pow(q * d);
        return fraction(below.subtract(fewer.pow(d)), below, what);
    }

    private Set<Integer> able(int find) {
        Find f = finds.get(find);
        Set<Integer> who = new TreeSet<>();
        for (int hand = 0; hand < 10; hand++) {
            for (int day = f.day - law.since; day <= f.day; day++) {
                for (int hour = 0; hour < (day == f.day ? f.hour : 24); hour++) {
                    if (alone(hand, f.site, day, hour)) {
                        who.add(hand);
                    }
                }
            }
        }
        return who;
    }

    int can(int find) {
        return known(find) ? bits(able(find)) : -1;
    }

    boolean seen(int hand, int s, int day) {
        return in(hand, 0, 9) && site(s) && in(day, 0, 999) && seen.size() < 20
                && seen.add(new Seen(hand, s, day));
    }

    private Set<Integer> caught(int find) {
        Find f = finds.get(find);
        Set<Integer> caught = new TreeSet<>();
        for (Seen s : seen) {
            if (s.site == f.site && in(f.day, s.day, s.day + law.since)) {
                caught.add(s.hand);
            }
        }
        caught.retainAll(able(find));
        return caught;
    }

    private Set<Integer> maybe(int find) {
        return caught(find).isEmpty() ? able(find) : caught(find);
    }

    int may(int find) {
        return known(find) ? bits(maybe(find)) : -1;
    }

    private boolean wasPut(int find) {
        return each(find) == 2 || !caught(find).isEmpty();
    }

    int put(int find) {
        return known(find) ? wasPut(find) ? 1 : 0 : -1;
    }

    private List<Integer> allStories() {
        List<Integer> needs = new ArrayList<>();
        for (int i = 0; i < finds.size(); i++) {
            int may = may(i);
            if (wasPut(i)) {
                needs.add(may);
            }
            for (int k = 0; k < i; k++) {
                if (twins(i, k)) {
                    needs.add(may | may(k));
                }
            }
        }
        List<Integer> stories = new ArrayList<>();
        for (int set = 0; set < 1024; set++) {
            int s = set;
            if (needs.stream().allMatch(need -> (need & s) != 0)) {
                stories.add(set);
            }
        }
        return stories;
    }

    int stories(int what) {
        List<Integer> all = allStories();
        if (!in(what, 0, 4) || (what > 0 && all.isEmpty())) {
            return -1;
        }
        if (what == 0) {
            return all.size();
        }
        int fewest = all.stream().mapToInt(Integer::bitCount).min().getAsInt();
        List<Integer> least = all.stream().filter(s -> Integer.bitCount(s) == fewest).toList();
        return switch (what) {
            case 1 -> fewest;
            case 2 -> least.get(0);
            case 3 -> least.stream().reduce(1023, (a, b) -> a & b);
            default -> least.stream().reduce(0, (a, b) -> a | b);
        };
    }

    private static Set<Integer> set(long bits) {
        Set<Integer> set = new TreeSet<>();
        for (int i = 0; i < 64; i++) {
            if ((bits & 1L << i) != 0) {
                set.add(i);
            }
        }
        return set;
    }

    boolean ground(int claim, long f, int c) {
        if (!in(claim, 0, 11) || grounds.stream().filter(g -> g.claim == claim).count() == 3 || (f == 0 && c == 0)
                || !set(f).stream().allMatch(this::known) || !set(c & 0xffffffffL).stream().allMatch(i -> i < 12)) {
            return false;
        }
        return grounds.add(new Ground(claim, set(f), set(c)));
    }

    /** By the words: a CLAIM that needs itself in the end does not stand by that GROUND. */
    private boolean stands(int claim, Set<Integer> left, Set<Integer> above) {
        for (Ground g : grounds) {
            if (g.claim == claim && left.containsAll(g.finds)) {
                Set<Integer> path = new HashSet<>(above);
                path.add(claim);
                boolean all = true;
                for (int c : g.claims) {
                    all = all && !path.contains(c) && stands(c, left, path);
                }
                if (all) {
                    return true;
                }
            }
        }
        return false;
    }

    private boolean stands(int claim, Set<Integer> left) {
        return stands(claim, left, Set.of());
    }

    private Set<Integer> without(int hand) {
        Set<Integer> left = new TreeSet<>();
        for (int i = 0; i < finds.size(); i++) {
            if (finds.get(i).hand != hand) {
                left.add(i);
            }
        }
        return left;
    }

    int standing(int hand) {
        if (!in(hand, -1, 9)) {
            return -1;
        }
        Set<Integer> stand = new TreeSet<>();
        for (int c = 0; c < 12; c++) {
            if (stands(c, without(hand))) {
                stand.add(c);
            }
        }
        return bits(stand);
    }

    int oldest(int hand) {
        return in(hand, -1, 9) ? without(hand).stream().mapToInt(i -> ageOf(finds.get(i))).max().orElse(-1) : -1;
    }

    int cut(int claim, int what) {
        if (!in(claim, 0, 11) || !in(what, 0, 3) || !stands(claim, without(-1))) {
            return -1;
        }
        List<Integer> cut = leastCut(claim);
        return cut == null || what > cut.size() ? -1 : what == 0 ? cut.size() : cut.get(what - 1);
    }

    private List<Integer> leastCut(int claim) {
        int n = finds.size();
        for (int size = 1; size <= 3; size++) {
            for (int a = 0; a < n; a++) {
                for (int b = size > 1 ? a + 1 : 0; b < (size > 1 ? n : 1); b++) {
                    for (int c = size > 2 ? b + 1 : 0; c < (size > 2 ? n : 1); c++) {
                        List<Integer> cut = List.of(a, b, c).subList(0, size);
                        Set<Integer> left = without(-1);
                        left.removeAll(cut);
                        if (!stands(claim, left)) {
                            return cut;
                        }
                    }
                }
            }
        }
        return null;
    }

    private Set<Integer> doubts() {
        int some = Math.max(0, stories(4));
        Set<Integer> doubts = new TreeSet<>();
        for (int i = 0; i < finds.size(); i++) {
            if (each(i) > 0 || (some & 1 << finds.get(i).hand) != 0) {
                doubts.add(i);
            }
        }
        return doubts;
    }

    int doubted(int find) {
        return known(find) ? doubts().contains(find) ? 1 : 0 : -1;
    }

    private boolean isSettled(int claim, Set<Integer> sure, Set<Integer> doubts) {
        Set<Integer> both = new TreeSet<>(sure);
        both.addAll(doubts);
        return stands(claim, sure) || !stands(claim, both);
    }

    int settled() {
        Set<Integer> sure = without(-1);
        sure.removeAll(doubts());
        Set<Integer> settled = new TreeSet<>();
        for (int c = 0; c < 12; c++) {
            if (isSettled(c, sure, doubts())) {
                settled.add(c);
            }
        }
        return bits(settled);
    }

    private int good(Set<Integer> at) {
        Set<Integer> doubts = doubts();
        List<Integer> there = doubts.stream().filter(i -> at.contains(finds.get(i).site)).toList();
        if (there.size() > 10) {
            return -1;
        }
        Set<Integer> rest = new TreeSet<>(doubts);
        rest.removeAll(there);
        int good = 0;
        for (int c = 0; c < 12; c++) {
            boolean always = true;
            for (int outcome = 0; outcome < 1 << there.size() && always; outcome++) {
                Set<Integer> sure = without(-1);
                sure.removeAll(doubts);
                for (int i = 0; i < there.size(); i++) {
                    if ((outcome & 1 << i) != 0) {
                        sure.add(there.get(i));
                    }
                }
                always = isSettled(c, sure, rest);
            }
            good += always ? 1 : 0;
        }
        return good;
    }

    int again(int a, int b) {
        if (!site(a) || a == b || (b != -1 && !site(b))) {
            return -1;
        }
        return good(b == -1 ? Set.of(a) : Set.of(a, b));
    }

    int where(int many, int what) {
        if (!in(many, 1, 2) || !in(what, 0, many)) {
            return -1;
        }
        int[] best = {-1, -1, -1};
        for (int a = 0; a < 8; a++) {
            for (int b = many == 1 ? -1 : a + 1; b < (many == 1 ? 0 : 8); b++) {
                int good = again(a, b);
                if (good > best[0]) {
                    best = new int[] {good, a, b};
                }
            }
        }
        return best[what];
    }

    int rules(int what) {
        if (!in(what, 0, 1)) {
            return -1;
        }
        for (int size = 0; size <= 8; size++) {
            for (int set = 0; set < 256; set++) {
                if (Integer.bitCount(set) == size && law.rules.keySet().containsAll(set(set)) && stopsAll(set)) {
                    return what == 0 ? size : set;
                }
            }
        }
        return -1;
    }

    private boolean stopsAll(int set) {
        for (int find : doubts()) {
            if (!able(find).isEmpty() && set(set).stream().noneMatch(rule -> stops(rule, find) == 1)) {
                return false;
            }
        }
        return true;
    }

    boolean paper(int day) {
        return in(day, 0, 999) && papers.size() < 40 && papers.add(day);
    }

    int enough() {
        if (law.enough == null) {
            return -1;
        }
        for (int day = 0; day < 1000; day++) {
            if (law.enough.of(dayFacts(day)) != 0) {
                return day;
            }
        }
        return -1;
    }

    private final Map<Integer, int[]> judgedOnce = new HashMap<>();

    private Map<String, Integer> dayFacts(int day) {
        if (day == 0) {
            judgedOnce.clear();
            for (int i = 0; i < finds.size(); i++) {
                judgedOnce.put(i, new int[] {each(i), facts(i).get("dawn")});
            }
        }
        Map<String, Integer> facts = new HashMap<>();
        int[] hands = new int[10];
        facts.put("day", day);
        for (String name : List.of("finds", "barred", "odd", "pairs", "most", "dawns", "papers")) {
            facts.put(name, 0);
        }
        for (int i = 0; i < finds.size(); i++) {
            if (finds.get(i).day > day) {
                continue;
            }
            facts.merge("finds", 1, Integer::sum);
            facts.merge("barred", judgedOnce.get(i)[0] == 2 ? 1 : 0, Integer::sum);
            facts.merge("odd", judgedOnce.get(i)[0] == 1 ? 1 : 0, Integer::sum);
            facts.merge("dawns", judgedOnce.get(i)[1] > 0 ? 1 : 0, Integer::sum);
            facts.merge("most", ++hands[finds.get(i).hand], Math::max);
            for (int k = 0; k < i; k++) {
                facts.merge("pairs", finds.get(k).day <= day && twins(i, k) ? 1 : 0, Integer::sum);
            }
        }
        facts.put("papers", (int) papers.stream().filter(p -> p <= day).count());
        return facts;
    }

    boolean mark(int mark, boolean back) {
        if (!in(mark, 0, 3)) {
            return false;
        }
        if (!back) {
            laid.removeIf(l -> l.mark == mark);
            laid.add(new Laid(mark, finds.size(), lines.size(), seen.size(), papers.size(), grounds.size()));
            return true;
        }
        for (int i = 0; i < laid.size(); i++) {
            Laid l = laid.get(i);
            if (l.mark == mark) {
                finds = new ArrayList<>(finds.subList(0, l.finds));
                lines = new ArrayList<>(lines.subList(0, l.lines));
                seen = new ArrayList<>(seen.subList(0, l.seen));
                papers = new ArrayList<>(papers.subList(0, l.papers));
                grounds = new ArrayList<>(grounds.subList(0, l.grounds));
                laid.subList(i + 1, laid.size()).clear();
                return true;
            }
        }
        return false;
    }

    boolean skill(int hand, int s, int h) {
        if (!in(hand, 0, 9) || !in(s, 0, 9) || !in(h, 0, 9)) {
            return false;
        }
        skill[hand] = s;
        habit[hand] = h;
        return true;
    }

    boolean wealth(int s, int l, int w) {
        if (!site(s) || !in(l, 0, 9) || !in(w, 0, 9) || !age.containsKey(s * 100 + l)) {
            return false;
        }
        wealth.put(s * 100 + l, w);
        return true;
    }

    boolean shows(int mark, int l, int p) {
        if (!in(mark, 0, 7) || !in(l, 0, 9) || !in(p, 0, 9)) {
            return false;
        }
        lay[mark] = l;
        put[mark] = p;
        return true;
    }

    private BigInteger g;

    private int draw() {
        g = g.multiply(BigInteger.valueOf(1103515245)).add(BigInteger.valueOf(12345))
                .mod(BigInteger.valueOf(2147483648L));
        return g.divide(BigInteger.valueOf(65536)).mod(BigInteger.TEN).intValue();
    }

    private int drawLayer(int s) {
        List<Integer> told = new ArrayList<>();
        for (int l = 0; l < 10; l++) {
            if (age.containsKey(s * 100 + l)) {
                told.add(l);
            }
        }
        return told.get(draw() % told.size());
    }

    private boolean anyLayer(int s) {
        return age.keySet().stream().anyMatch(key -> key / 100 == s);
    }

    /** What is FOUND; the last element of left is how many were put and are there still. */
    private List<Thing> live(int seed, int[] left) {
        g = BigInteger.valueOf(seed);
        List<Thing> things = new ArrayList<>();
        Map<Integer, List<Integer>> there = new HashMap<>();
        for (Line l : lines) {
            List<Integer> here = there.computeIfAbsent(l.site, s -> new ArrayList<>());
            for (int hour = l.from; hour <= l.to; hour++) {
                if (alone(l.hand, l.site, l.day, hour) && draw() < habit[l.hand] && here.size() < 9
                        && anyLayer(l.site)) {
                    here.add(drawLayer(l.site));
                }
                if (!here.isEmpty()) {
                    if (draw() < skill[l.hand]) {
                        take(things, l, hour, here.remove(0), true);
                    }
                } else if (anyLayer(l.site)) {
                    int layer = drawLayer(l.site);
                    int first = draw();
                    int second = draw();
                    if (first < wealth.getOrDefault(l.site * 100 + layer, 0) && second < skill[l.hand]) {
                        take(things, l, hour, layer, false);
                    }
                }
            }
        }
        left[0] = there.values().stream().mapToInt(List::size).sum();
        return things;
    }

    private void take(List<Thing> things, Line l, int hour, int layer, boolean wasPut) {
        int marks = 0;
        for (int m = 0; m < 8; m++) {
            marks += draw() < (wasPut ? put[m] : lay[m]) ? 1 << m : 0;
        }
        int ten = draw();
        int stone = ten * 10 + draw();
        Find f = new Find(l.site, layer, l.day, hour, l.hand, marks, stone);
        boolean first = things.stream().allMatch(t -> t.age < ageOf(f));
        int verdict = law.judge(facts(f, first, 0));
        things.add(new Thing(wasPut, marks, layer, l.hand, stone, verdict, ageOf(f)));
    }

    int world(int seed, int what) {
        if (!in(seed, 0, 9999) || !in(what, 0, 4)) {
            return -1;
        }
        int[] left = new int[1];
        List<Thing> things = live(seed, left);
        switch (what) {
            case 0:
                return (int) things.stream().filter(t -> !t.put).count();
            case 1:
                return (int) things.stream().filter(t -> t.put).count();
            case 2:
                return left[0];
            case 4:
                return things.stream().mapToInt(Thing::age).max().orElse(-1);
            default:
                int best = -1;
                long most = 0;
                for (int hand = 0; hand < 10; hand++) {
                    int h = hand;
                    long many = things.stream().filter(t -> t.hand == h).count();
                    if (many > most) {
                        most = many;
                        best = hand;
                    }
                }
                return best;
        }
    }

    int found(int seed, int k, int what) {
        if (!in(seed, 0, 9999) || !in(what, 0, 5)) {
            return -1;
        }
        List<Thing> things = live(seed, new int[1]);
        if (!in(k, 0, things.size() - 1)) {
            return -1;
        }
        Thing t = things.get(k);
        return new int[] {t.put ? 1 : 0, t.marks, t.layer, t.hand, t.stone, t.verdict}[what];
    }

    int rates(int n, int what) {
        if (!in(n, 1, 20) || !in(what, 0, 5)) {
            return -1;
        }
        int many = 0;
        for (int seed = 0; seed < n; seed++) {
            for (Thing t : live(seed, new int[1])) {
                boolean counts = what % 3 == 0 || t.verdict == 3 - what % 3;
                many += t.put == what > 2 && counts ? 1 : 0;
            }
        }
        return many;
    }

    int parted(int n, int what) {
        if (!in(n, 1, 20) || !in(what, 0, 1)) {
            throw new NoSuchElementException();
        }
        int[] by = new int[8];
        for (int seed = 0; seed < n; seed++) {
            for (Thing t : live(seed, new int[1])) {
                for (int m : set(t.marks)) {
                    by[m] += t.put ? 1 : -1;
                }
            }
        }
        int best = 0;
        for (int m = 0; m < 8; m++) {
            best = by[m] > by[best] ? m : best;
        }
        return what == 0 ? best : by[best];
    }

    int count(int what) {
        return switch (what) {
            case 0 -> finds.size();
            case 1 -> lines.size();
            case 2 -> seen.size();
            case 3 -> papers.size();
            case 4 -> grounds.size();
            case 5 -> law.rules.size();
            case 6 -> tape.length();
            case 7 -> age.size();
            default -> -1;
        };
    }
}
