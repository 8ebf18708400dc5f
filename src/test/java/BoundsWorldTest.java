import static java.math.BigInteger.TWO;

import java.math.BigInteger;
import java.util.ArrayList;
import java.util.List;

/**
 * Each sentence of the document about WORLDS (part 7 and promises 32 to 38) that names a bound: 0 to 9 of ten,
 * SEEDS, DRAWS, 9 that were put, SITES without a LAYER, ties, nothing FOUND, and the calls that are refused.
 */
public final class BoundsWorldTest {
    private static final int NONE = Bench.NONE;
    private static final int MIN = Bench.MIN;
    private static final int MAX = Bench.MAX;
    private static final long THROWS = Bench.THROWS;
    private static final Bench.Calls DIG = Bench.DIG;

    private static void due(long want, long got) {
        Bench.due(want, got);
    }

    private static void due(boolean want, boolean got) {
        Bench.due(want, got);
    }

    /** A WORLD draw by draw; whether a line's HAND is ALONE is told, not worked out. */
    private static final class ByHand {
        final int[] skill = new int[10];
        final int[] habit = new int[10];
        final int[][] wealth = new int[8][10];
        final int[][] layers = {{}, {}, {}, {}, {}, {}, {}, {}};
        final int[] lay = new int[8];
        final int[] put = new int[8];
        final List<int[]> lines = new ArrayList<>();
        final List<int[]> found = new ArrayList<>();
        final List<List<Integer>> there = new ArrayList<>();
        private BigInteger g;

        /** HAND, SITE, DAY, from, to, and whether ALONE at all of them. */
        ByHand line(int hand, int site, int day, int from, int to, boolean alone) {
            lines.add(new int[] {hand, site, day, from, to, alone ? 1 : 0});
            return this;
        }

        AxesAtDawn told() {
            AxesAtDawn x = new AxesAtDawn();
            for (int site = 0; site < 8; site++) {
                for (int layer : layers[site]) {
                    due(true, x.layer(site, layer, 1000 * site + 10 * layer));
                    due(true, x.wealth(site, layer, wealth[site][layer]));
                }
                due(true, x.shows(site, lay[site], put[site]));
            }
            for (int hand = 0; hand < 10; hand++) {
                due(true, x.skill(hand, skill[hand], habit[hand]));
            }
            for (int[] l : lines) {
                due(true, x.here(l[0], l[1], l[2], l[3], l[4]));
            }
            return x;
        }

        private int draw() {
            g = g.multiply(BigInteger.valueOf(1103515245)).add(BigInteger.valueOf(12345)).mod(TWO.pow(31));
            return g.divide(BigInteger.valueOf(65536)).mod(BigInteger.TEN).intValue();
        }

        private int layer(int site) {
            return layers[site][draw() % layers[site].length];
        }

        void live(int seed) {
            g = BigInteger.valueOf(seed);
            found.clear();
            there.clear();
            for (int site = 0; site < 8; site++) {
                there.add(new ArrayList<>());
            }
            for (int[] l : lines) {
                for (int hour = l[3]; hour <= l[4]; hour++) {
                    visit(l[0], l[1], l[5] == 1);
                }
            }
        }

        private void visit(int hand, int site, boolean alone) {
            List<Integer> here = there.get(site);
            boolean any = layers[site].length > 0;
            if (alone) {
                boolean below = draw() < habit[hand];
                if (below && here.size() < 9 && any) {
                    here.add(layer(site));
                }
            }
            if (!here.isEmpty()) {
                if (draw() < skill[hand]) {
                    take(hand, here.remove(0), true);
                }
            } else if (any) {
                int layer = layer(site);
                int first = draw();
                int second = draw();
                if (first < wealth[site][layer] && second < skill[hand]) {
                    take(hand, layer, false);
                }
            }
        }

        private void take(int hand, int layer, boolean wasPut) {
            int marks = 0;
            for (int mark = 0; mark < 8; mark++) {
                if (draw() < (wasPut ? put[mark] : lay[mark])) {
                    marks += 1 << mark;
                }
            }
            int ten = draw();
            found.add(new int[] {wasPut ? 1 : 0, marks, layer, hand, 10 * ten + draw()});
        }

        /** The class says the same of WORLDS of so many SEEDS and of the last one. */
        int compare(int seeds) {
            AxesAtDawn x = told();
            int all = 0;
            for (int i = 0; i < seeds; i++) {
                int seed = i == seeds - 1 ? 9999 : i;
                live(seed);
                int left = 0;
                for (List<Integer> here : there) {
                    left += here.size();
                }
                int wasPut = 0;
                for (int k = 0; k < found.size(); k++) {
                    wasPut += found.get(k)[0];
                    for (int what = 0; what < 5; what++) {
                        due(found.get(k)[what], x.found(seed, k, what));
                    }
                }
                due(NONE, x.found(seed, found.size(), 0));
                due(found.size() - wasPut, x.world(seed, 0));
                due(wasPut, x.world(seed, 1));
                due(left, x.world(seed, 2));
                all += found.size();
            }
            return all;
        }
    }

    private static void promise32Skill() {
        Bench.says(32, "SKILL and HABIT of a HAND, each 0 to 9: true");
        AxesAtDawn x = new AxesAtDawn();
        for (int i = 0; i < 100; i++) {
            due(true, x.skill(i % 10, i / 10, 9 - i / 10));
        }
        Bench.says(32, "false: others");
        Bench.outside(DIG, 0, 0, 9, v -> y -> Bench.bit(y.skill(v, 5, 5)));
        for (int hand = 1; hand < 9; hand++) {
            int h = hand;
            Bench.outside(DIG, 0, 0, 9, v -> y -> Bench.bit(y.skill(h, v, 0)));
            Bench.outside(DIG, 0, 0, 9, v -> y -> Bench.bit(y.skill(h, 0, v)));
        }
        Bench.says(32, "each 0 to 9 of ten: below its HABIT");
        for (int habit = 0; habit < 10; habit++) {
            ByHand w = new ByHand().line(9, 7, 999, 23, 23, true);
            w.layers[7] = new int[] {9};
            w.habit[9] = habit;
            w.compare(100);
            due(habit, habitsTaken(w.told(), 9, habit));
        }
        Bench.says(32, "each 0 to 9 of ten: below the SKILL");
        for (int skill = 0; skill < 10; skill++) {
            ByHand w = new ByHand().line(0, 0, 0, 0, 9, true);
            w.layers[0] = new int[] {0};
            w.habit[0] = 5;
            w.skill[0] = skill;
            w.wealth[0][0] = 5;
            int found = w.compare(40);
            due(skill > 0, found > 0);
        }
        Bench.says(32, "0 at first");
        AxesAtDawn none = new AxesAtDawn();
        none.layer(0, 0, 0);
        for (int hand = 0; hand < 10; hand++) {
            none.here(hand, 0, hand, 0, 23);
        }
        none.wealth(0, 0, 9);
        for (int seed = 0; seed < 20; seed++) {
            due(0, none.world(seed, 0) + none.world(seed, 1) + none.world(seed, 2));
        }
    }

    /** A first DRAW of each value comes of some SEED: of 10 of them so many are below a HABIT. */
    private static int habitsTaken(AxesAtDawn x, int hand, int habit) {
        int taken = 0;
        for (int value = 0; value < 10; value++) {
            int seed = 0;
            while (seed < 9999 && (seed * 1103515245L + 12345L) % 2147483648L / 65536 % 10 != value) {
                seed++;
            }
            taken += x.world(seed, 2);
        }
        return taken;
    }

    private static void promise33Wealth() {
        Bench.says(33, "the WEALTH of a LAYER that is told: true");
        AxesAtDawn x = new AxesAtDawn();
        for (int i = 0; i < 80; i++) {
            due(false, x.wealth(i / 10, i % 10, 5));
            x.layer(i / 10, i % 10, 0);
            due(true, x.wealth(i / 10, i % 10, i % 10));
        }
        Bench.says(33, "false: others");
        Bench.outside(DIG, 0, 0, 7, v -> y -> Bench.bit(y.wealth(v, 0, 5)));
        Bench.outside(DIG, 0, 0, 9, v -> y -> Bench.bit(y.wealth(0, v, 5)));
        Bench.outside(DIG, 0, 0, 9, v -> y -> Bench.bit(y.wealth(1, v, 5)));
        Bench.outside(DIG, 0, 0, 9, v -> y -> Bench.bit(y.wealth(0, 0, v)));
        Bench.outside(DIG, 0, 0, 9, v -> y -> Bench.bit(y.wealth(2, 4, v)));
        Bench.says(33, "false: others: a LAYER that is not told");
        Bench.refused(DIG, y -> Bench.bit(y.wealth(0, 2, 5)));
        Bench.refused(DIG, y -> Bench.bit(y.wealth(3, 0, 5)));
        AxesAtDawn late = new AxesAtDawn();
        late.here(0, 0, 0, 0, 23);
        late.skill(0, 9, 0);
        due(false, late.wealth(0, 0, 9));
        late.layer(0, 0, 0);
        due(0, late.rates(20, 0));
        Bench.says(33, "each 0 to 9 of ten (0 at first): below its WEALTH");
        for (int wealth = 0; wealth < 10; wealth++) {
            ByHand w = new ByHand().line(1, 0, 0, 0, 9, true);
            w.layers[0] = new int[] {3, 8};
            w.skill[1] = 9;
            w.wealth[0][3] = wealth;
            w.wealth[0][8] = 9 - wealth;
            due(true, w.compare(40) > 0);
            w.skill[1] = 0;
            due(0, w.compare(3));
        }
    }

    private static void promise34Shows() {
        Bench.says(34, "on how many of ten a MARK (0 rust to 7 clean) shows: true; false: others");
        AxesAtDawn x = new AxesAtDawn();
        for (int i = 0; i < 80; i++) {
            due(true, x.shows(i / 10, i % 10, 9 - i % 10));
        }
        Bench.outside(DIG, 0, 0, 7, v -> y -> Bench.bit(y.shows(v, 5, 5)));
        for (int mark = 0; mark < 8; mark++) {
            int m = mark;
            Bench.outside(DIG, 0, 0, 9, v -> y -> Bench.bit(y.shows(m, v, 5)));
            Bench.outside(DIG, 0, 0, 9, v -> y -> Bench.bit(y.shows(m, 5, v)));
        }
        Bench.says(34, "0 at first: no MARK shows");
        AxesAtDawn none = new AxesAtDawn();
        none.layer(0, 0, 0);
        none.here(0, 0, 0, 0, 23);
        none.wealth(0, 0, 9);
        none.skill(0, 9, 5);
        due(true, none.world(1, 0) > 0 && none.world(1, 1) > 0);
        for (int k = 0; k < none.world(1, 0) + none.world(1, 1); k++) {
            due(0, none.found(1, k, 1));
        }
        Bench.says(34, "for each, rust first, a DRAW below what it shows, of what LAY there or was put");
        for (int shows = 0; shows < 10; shows++) {
            ByHand w = new ByHand().line(1, 0, 0, 0, 9, true);
            w.layers[0] = new int[] {3};
            w.skill[1] = 9;
            w.habit[1] = 4;
            w.wealth[0][3] = 9;
            for (int mark = 0; mark < 8; mark++) {
                w.lay[mark] = (shows + mark) % 10;
                w.put[mark] = (shows + 3 * mark + 5) % 10;
            }
            due(true, w.compare(30) > 0);
        }
    }

    private static void promise35Seeds() {
        Bench.says(35, "NONE: others: SEED (0 to 9999), what 0 to 4");
        for (int what = 0; what < 5; what++) {
            int w = what;
            Bench.outside(DIG, NONE, 0, 9999, v -> y -> y.world(v, w));
        }
        Bench.outside(DIG, NONE, 0, 4, v -> y -> y.world(77, v));
        Bench.says(35, "NONE: nothing FOUND (3, 4)");
        int[] want = {0, 0, 0, NONE, NONE, NONE};
        for (int what = 0; what < 6; what++) {
            due(want[what], new AxesAtDawn().world(0, what));
            due(want[what], new AxesAtDawn().world(9999, what));
        }
        Bench.says(35, "for each line of HERE, as told, for each of its HOURS: one HOUR, 24, some again");
        ByHand w = new ByHand();
        w.layers[0] = new int[] {0, 9};
        w.layers[7] = new int[] {5};
        w.line(3, 7, 999, 23, 23, true).line(2, 0, 4, 0, 23, true).line(3, 7, 3, 0, 0, true);
        w.line(2, 0, 4, 5, 9, true).line(3, 7, 2, 10, 12, true).line(3, 7, 2, 12, 13, true);
        for (int i = 0; i < 10; i++) {
            w.skill[i] = 5;
            w.habit[i] = 5;
            w.wealth[0][i] = 7;
            w.wealth[7][i] = 7;
        }
        due(true, w.compare(60) > 100);
        promise35Draws();
        promise35Alone();
        promise35Nine();
        promise35Layers();
        promise35Most();
    }

    private static void promise35Draws() {
        Bench.says(35, "A DRAW: g becomes (g * 1103515245 + 12345) modulo 2147483648, it is g / 65536, cut, modulo 10");
        ByHand w = new ByHand();
        w.layers[0] = new int[] {0};
        w.skill[0] = 9;
        w.wealth[0][0] = 9;
        w.line(0, 0, 0, 7, 7, true);
        AxesAtDawn x = w.told();
        Bench.says(35, "g is the SEED (0 to 9999) at first: the STONE found tells two DRAWS of each");
        int found = 0;
        for (int seed = 0; seed < 10000; seed += seed < 20 || seed > 9970 ? 1 : 53) {
            w.live(seed);
            due(w.found.size(), x.world(seed, 0));
            due(w.found.isEmpty() ? NONE : w.found.get(0)[4], x.found(seed, 0, 4));
            found += w.found.size();
        }
        due(true, found > 100);
    }

    private static void promise35Alone() {
        Bench.says(35, "(1) if the HAND is ALONE there: a DRAW; else none");
        ByHand w = new ByHand();
        w.layers[0] = new int[] {1, 2, 3};
        w.line(0, 0, 5, 3, 4, true).line(0, 0, 5, 5, 8, false).line(1, 0, 5, 5, 8, false).line(1, 0, 5, 9, 12, true);
        w.line(9, 0, 5, 13, 13, true).line(0, 1, 5, 9, 9, true);
        for (int i = 0; i < 10; i++) {
            w.skill[i] = 6;
            w.habit[i] = 4;
            w.wealth[0][i] = 8;
        }
        due(true, w.compare(60) > 60);
        Bench.says(35, "told of HERE later, it counts as if it had been told at once");
        ByHand both = new ByHand().line(0, 0, 5, 0, 23, false).line(1, 0, 5, 0, 23, false);
        both.layers[0] = new int[] {0};
        both.habit[0] = 9;
        both.habit[1] = 9;
        both.skill[0] = 9;
        both.wealth[0][0] = 9;
        due(true, both.compare(20) > 0);
        AxesAtDawn x = both.told();
        due(0, x.rates(20, 3));
        AxesAtDawn y = both.told();
        y.here(0, 0, 6, 0, 0);
        due(true, y.rates(20, 3) > 0);
    }

    private static void promise35Nine() {
        Bench.says(35, "fewer than 9 are at the SITE that were put: with 9 there a DRAW, and nothing");
        ByHand w = new ByHand();
        w.layers[4] = new int[] {0, 1, 2, 3, 4};
        w.layers[6] = new int[] {7, 9};
        w.habit[1] = 9;
        w.skill[2] = 5;
        w.habit[3] = 6;
        w.skill[3] = 3;
        w.line(1, 4, 0, 0, 23, true).line(1, 6, 1, 0, 7, true).line(1, 4, 2, 0, 2, true);
        AxesAtDawn x = w.told();
        int full = 0;
        for (int seed = 0; seed < 40; seed++) {
            w.live(seed);
            due(9, w.there.get(4).size());
            full += w.there.get(6).size() == 8 ? 1 : 0;
            due(9 + w.there.get(6).size(), x.world(seed, 2));
        }
        due(true, full > 0);
        w.line(2, 4, 3, 0, 23, true).line(3, 4, 4, 0, 23, true).line(2, 6, 5, 3, 9, true);
        due(true, w.compare(60) > 600);
        Bench.says(35, "fewer than 9: of HABIT 9 in 9 HOURS all 9 at most, in 8 HOURS 8");
        for (int hours = 7; hours < 11; hours++) {
            ByHand some = new ByHand().line(1, 0, 0, 1, hours, true);
            some.layers[0] = new int[] {0};
            some.habit[1] = 9;
            AxesAtDawn y = some.told();
            int most = 0;
            for (int seed = 0; seed < 60; seed++) {
                most = Math.max(most, y.world(seed, 2));
            }
            due(Math.min(9, hours), most);
        }
    }

    private static void promise35Layers() {
        Bench.says(35, "of the told ones of the SITE, from 0 on, that of the number of a DRAW modulo how many");
        for (int many = 1; many <= 10; many++) {
            ByHand w = new ByHand().line(1, 3, 0, 0, 23, true).line(2, 3, 1, 0, 11, true);
            w.layers[3] = new int[many];
            for (int i = 0; i < many; i++) {
                w.layers[3][i] = i * 9 / Math.max(1, many - 1);
                w.wealth[3][w.layers[3][i]] = 9 - i;
            }
            w.habit[1] = 3;
            w.skill[1] = 4;
            w.skill[2] = 9;
            due(true, w.compare(20) > 0);
        }
        Bench.says(35, "nothing, and no second DRAW, if no LAYER is told");
        for (int hours = 1; hours < 8; hours++) {
            ByHand w = new ByHand().line(1, 0, 0, 0, hours - 1, true).line(1, 1, 0, 12, 20, true);
            w.line(2, 0, 1, 0, hours - 1, false).line(3, 0, 1, 0, hours - 1, false).line(2, 1, 2, 0, 9, true);
            w.layers[1] = new int[] {2, 6, 7};
            for (int i = 0; i < 10; i++) {
                w.habit[i] = 9 - 4 * (i & 1);
                w.skill[i] = 6;
                w.wealth[1][i] = 6;
            }
            due(true, w.compare(30) > 0);
        }
        Bench.says(35, "a LAYER told later is one of the SITE for all lines");
        AxesAtDawn x = new AxesAtDawn();
        x.here(1, 0, 0, 0, 23);
        x.skill(1, 0, 9);
        due(0, x.world(3, 2));
        x.layer(0, 9, 0);
        due(9, x.world(3, 2));
    }

    private static void promise35Most() {
        Bench.says(35, "3: the HAND that FOUND the most (of equal ones the first), 4: the greatest AGE FOUND");
        ByHand w = new ByHand();
        w.layers[0] = new int[] {0};
        w.layers[1] = new int[] {9};
        w.line(9, 0, 0, 0, 0, false).line(8, 0, 0, 0, 0, false).line(5, 1, 0, 0, 0, false).line(7, 1, 0, 0, 0, false);
        for (int i = 0; i < 10; i++) {
            w.skill[i] = 7;
        }
        w.wealth[0][0] = 8;
        w.wealth[1][9] = 8;
        AxesAtDawn x = w.told();
        int[] ties = new int[4];
        for (int seed = 0; seed < 100; seed++) {
            w.live(seed);
            int hand = NONE;
            int age = NONE;
            for (int[] thing : w.found) {
                hand = hand == NONE || thing[3] < hand ? thing[3] : hand;
                age = Math.max(age, thing[3] < 8 ? 1090 : 0);
            }
            due(hand, x.world(seed, 3));
            due(age, x.world(seed, 4));
            ties[Math.min(3, w.found.size())]++;
        }
        for (int many : ties) {
            due(true, many > 0);
        }
        x.layer(1, 9, 9999);
        x.layer(0, 0, 0);
        due(9999, x.world(seedWith(w), 4));
        Bench.says(35, "the greatest AGE FOUND may be 0");
        AxesAtDawn zero = new AxesAtDawn();
        zero.layer(0, 0, 0);
        zero.here(0, 0, 0, 0, 23);
        zero.skill(0, 9, 9);
        due(0, zero.world(0, 4));
        due(0, zero.world(0, 3));
    }

    /** A SEED in whose WORLD something is FOUND by HAND 5 or 7. */
    private static int seedWith(ByHand w) {
        for (int seed = 0; seed < 1000; seed++) {
            w.live(seed);
            for (int[] thing : w.found) {
                if (thing[3] < 8) {
                    return seed;
                }
            }
        }
        return NONE;
    }

    private static void promise36Found() {
        Bench.says(36, "NONE: others (SEED 0 to 9999, what 0 to 5)");
        AxesAtDawn x = Bench.after(DIG);
        int many = x.world(77, 0) + x.world(77, 1);
        due(true, many > 5);
        for (int what = 0; what < 6; what++) {
            int w = what;
            Bench.outside(DIG, NONE, 0, 9999, v -> y -> y.found(v, 0, w));
            Bench.says(36, "NONE: none such (the k-th FOUND, from 0 on)");
            Bench.outside(DIG, NONE, 0, many - 1, v -> y -> y.found(77, v, w));
            Bench.says(36, "NONE: others (SEED 0 to 9999, what 0 to 5)");
        }
        Bench.outside(DIG, NONE, 0, 5, v -> y -> y.found(77, 0, v));
        Bench.says(36, "NONE: none such");
        due(true, x.found(77, 0, 0) >= 0);
        due(true, x.found(77, many - 1, 0) >= 0);
        due(NONE, x.found(77, many, 0));
        due(NONE, new AxesAtDawn().found(0, 0, 0));
        promise36Judged();
        promise36Most();
    }

    private static void promise36Judged() {
        Bench.says(36, "It is judged by the LAW as a FIND, with the facts of its SITE, DAY, HOUR, HAND, LAYER");
        ByHand w = new ByHand().line(1, 2, 5, 0, 23, true);
        w.layers[2] = new int[] {1, 4};
        w.layers[3] = new int[] {1};
        w.habit[1] = 9;
        w.skill[1] = 9;
        AxesAtDawn x = w.told();
        // told FINDS of all STONES at a SITE far away: a FOUND one has no TWINS, and they are not ahead of it
        x.way(2, 3, 999);
        x.layer(3, 1, 9999);
        x.here(5, 3, 5, 0, 0);
        for (int stone = 0; stone < 40; stone++) {
            x.find(3, 1, 5, 0, 5, 0, stone);
        }
        String[] laws = {"bar when twins;", "bar when not first and layer = 4;odd when first;", "bar when others;",
            "bar when not alone;", "bar when dawn = hour;", "bar when dawn<hour or hour<dawn;",
            "bar when age = 2010;odd when age = 2040;", "bar when layer = 1;odd when layer = 4;",
            "bar when stone<50;odd when stone<75;", "odd when rust+under+soil+hole+worn+fresh+turned+clean;"};
        for (int i = 0; i < laws.length; i++) {
            due(0, Bench.law(x, laws[i]));
            w.live(9);
            due(true, w.found.size() > 10);
            int oldest = NONE;
            for (int k = 0; k < w.found.size(); k++) {
                int layer = w.found.get(k)[2];
                int stone = w.found.get(k)[4];
                boolean first = layer > oldest;
                int[] want = {0, first ? 1 : layer == 4 ? 2 : 0, 0, 0, 2, 0, layer == 1 ? 2 : 1, layer == 1 ? 2 : 1,
                    stone < 50 ? 2 : stone < 75 ? 1 : 0, 0};
                due(want[i], x.found(9, k, 5));
                oldest = Math.max(oldest, layer);
            }
        }
        Bench.says(36, "first by what was FOUND ahead of it in this WORLD: one of the same AGE bars it");
        AxesAtDawn y = w.told();
        y.layer(2, 1, 50);
        y.layer(2, 4, 50);
        Bench.law(y, "odd when first;");
        for (int k = 0; k < w.found.size(); k++) {
            due(k == 0 ? 1 : 0, y.found(9, k, 5));
        }
    }

    /** As many FOUND as can be: 80 lines of 24 HOURS. */
    private static void promise36Most() {
        Bench.says(36, "the k-th FOUND, as many as there are: 80 lines of 24 HOURS");
        ByHand w = new ByHand();
        w.layers[0] = new int[] {9};
        for (int i = 0; i < 80; i++) {
            w.line(i % 10, 0, i, 0, 23, true);
        }
        for (int hand = 0; hand < 10; hand++) {
            w.skill[hand] = 9;
        }
        w.wealth[0][9] = 9;
        for (int mark = 0; mark < 8; mark++) {
            w.lay[mark] = 9;
        }
        due(true, w.compare(2) > 2000);
    }

    private static void promise37Rates() {
        Bench.says(37, "NONE: others (n 1 to 20, what 0 to 5)");
        for (int what = 0; what < 6; what++) {
            int w = what;
            Bench.outside(DIG, NONE, 1, 20, v -> y -> y.rates(v, w));
        }
        Bench.outside(DIG, NONE, 0, 5, v -> y -> y.rates(1, v));
        Bench.outside(DIG, NONE, 0, 5, v -> y -> y.rates(20, v));
        Bench.says(37, "nothing FOUND");
        for (int i = 0; i < 12; i++) {
            due(0, new AxesAtDawn().rates(i < 6 ? 1 : 20, i % 6));
        }
        Bench.says(37, "of the WORLDS of SEEDS 0 to n - 1 (n 1 to 20)");
        AxesAtDawn x = Bench.after(DIG);
        x.law();
        Bench.law(x, "bar when under;odd when soil;");
        int[] all = new int[6];
        for (int seed = 0; seed < 20; seed++) {
            for (int k = 0; x.found(seed, k, 0) != NONE; k++) {
                int base = 3 * x.found(seed, k, 0);
                int verdict = x.found(seed, k, 5);
                all[base]++;
                all[base + 1] += verdict == 2 ? 1 : 0;
                all[base + 2] += verdict == 1 ? 1 : 0;
            }
            for (int what = 0; what < 6; what++) {
                due(all[what], x.rates(seed + 1, what));
            }
        }
        for (int many : all) {
            due(true, many > 0);
        }
        due(all[3], Bench.after(DIG).rates(20, 3));
        Bench.says(37, "of the WORLDS as they are now: behind a LINE that is told, or gone");
        due(true, x.here(9, 0, 1, 0, 23));
        due(true, x.rates(20, 3) > all[3]);
        x.mark(2, true);
        due(true, x.rates(20, 3) < all[3]);
    }

    private static void promise38Parted() {
        Bench.says(38, "NoSuchElementException: others (n 1 to 20, what 0, 1)");
        Bench.outside(DIG, THROWS, 1, 20, v -> y -> y.parted(v, 0));
        Bench.outside(DIG, THROWS, 1, 20, v -> y -> y.parted(v, 1));
        Bench.outside(DIG, THROWS, 0, 1, v -> y -> y.parted(1, v));
        Bench.outside(DIG, THROWS, 0, 1, v -> y -> y.parted(20, v));
        Bench.says(38, "nothing FOUND: the first MARK, by 0");
        for (int n = 1; n < 21; n++) {
            due(0, new AxesAtDawn().parted(n, 0));
            due(0, new AxesAtDawn().parted(n, 1));
        }
        Bench.says(38, "those put that have it, less those that LAY there and have it: the greatest, the first MARK");
        AxesAtDawn x = Bench.after(DIG);
        int[] by = new int[8];
        for (int seed = 0; seed < 20; seed++) {
            for (int k = 0; x.found(seed, k, 0) != NONE; k++) {
                for (int mark = 0; mark < 8; mark++) {
                    int has = x.found(seed, k, 1) >> mark & 1;
                    by[mark] += x.found(seed, k, 0) == 1 ? has : -has;
                }
            }
            int best = 0;
            for (int mark = 1; mark < 8; mark++) {
                best = by[mark] > by[best] ? mark : best;
            }
            due(best, x.parted(seed + 1, 0));
            due(by[best], x.parted(seed + 1, 1));
        }
        promise38Ties();
    }

    private static void promise38Ties() {
        Bench.says(38, "of equal ones the first MARK");
        AxesAtDawn x = new AxesAtDawn();
        x.layer(0, 0, 0);
        x.here(0, 0, 0, 0, 23);
        x.wealth(0, 0, 9);
        x.skill(0, 9, 0);
        for (int mark = 7; mark >= 0; mark--) {
            // all MARKS behind this one are on none, all ahead of it on some that LAY there
            for (int other = 0; other < 8; other++) {
                x.shows(other, other < mark ? 9 : 0, 9);
            }
            due(mark, x.parted(20, 0));
            due(0, x.parted(20, 1));
        }
        Bench.says(38, "by how many (may be below 0)");
        for (int mark = 0; mark < 8; mark++) {
            for (int other = 0; other < 8; other++) {
                x.shows(other, other == mark ? 2 : 9, 0);
            }
            due(mark, x.parted(20, 0));
            due(true, x.parted(20, 1) < 0);
        }
        Bench.says(38, "in the WORLDS of SEEDS 0 to n - 1");
        int last = 0;
        for (int n = 1; n < 21; n++) {
            due(true, x.parted(n, 1) <= last);
            last = x.parted(n, 1);
        }
        due(true, last < x.parted(1, 1));
    }

    public static void main(String[] args) {
        promise32Skill();
        promise33Wealth();
        promise34Shows();
        promise35Seeds();
        promise36Found();
        promise37Rates();
        promise38Parted();
        Bench.end();
    }
}
