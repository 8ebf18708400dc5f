/**
 * Each sentence of the document about what is told (part 1 and promises 1 to 5, 8, 9, 16, 20, 29, 31) that names a
 * bound: the last that is taken, the first that is refused, the empty, the full, and what a refused call leaves.
 */
public final class BoundsTellTest {
    private static final int NONE = Bench.NONE;
    private static final int MIN = Bench.MIN;
    private static final int MAX = Bench.MAX;
    private static final long THROWS = Bench.THROWS;
    private static final Bench.Calls DIG = Bench.DIG;
    private static final Bench.Calls NEW = x -> { };

    private static void due(long want, long got) {
        Bench.due(want, got);
    }

    private static void due(boolean want, boolean got) {
        Bench.due(want, got);
    }

    private static long fact(AxesAtDawn x, int find, int what) {
        return Bench.answer(x, y -> y.fact(find, what));
    }

    private static void promise1New() {
        Bench.says(1, "NONE = -1");
        due(-1, AxesAtDawn.NONE);
        Bench.says(1, "No LAYER");
        AxesAtDawn x = new AxesAtDawn();
        due(0, x.count(7));
        for (int i = 0; i < 80; i++) {
            due(false, x.wealth(i % 8, i / 8, 0));
        }
        Bench.says(1, "nobody HERE");
        due(0, x.count(1));
        for (int site = 0; site < 8; site++) {
            for (int hour = 0; hour < 24; hour++) {
                due(0, x.present(site, hour * 43, hour));
            }
        }
        Bench.says(1, "no FIND");
        AxesAtDawn y = new AxesAtDawn();
        due(0, y.count(0));
        due(NONE, y.each(0));
        due(NONE, y.can(0));
        due(NONE, y.may(0));
        due(NONE, y.put(0));
        due(NONE, y.doubted(0));
        due(THROWS, fact(y, 0, 0));
        for (int what = 2; what < 5; what++) {
            due(0, y.count(what));
        }
        due(0, y.count(6));
        due(NONE, y.count(8));
        promise1EmptyLaw();
        promise1AtFirst();
    }

    private static void promise1EmptyLaw() {
        Bench.says(1, "an empty LAW");
        AxesAtDawn x = new AxesAtDawn();
        due(0, x.count(5));
        due(NONE, x.enough());
        x.layer(0, 0, 0);
        x.here(0, 0, 5, 0, 23);
        x.here(1, 0, 2, 9, 9);
        x.here(2, 0, 1, 9, 9);
        x.find(0, 0, 5, 9, 0, 255, 0);
        due(0, x.each(0));
        for (int rule = 0; rule < 8; rule++) {
            due(NONE, x.stops(rule, 0));
        }
        Bench.says(1, "since: 3 without");
        due(3, x.can(0));
        Bench.says(1, "far: 100 without");
        x.layer(1, 0, 0);
        x.here(1, 1, 5, 0, 0);
        x.find(1, 0, 5, 0, 1, 0, 0);
        x.way(0, 1, 100);
        due(0, fact(x, 0, 16));
        x.way(0, 1, 101);
        due(1, fact(x, 0, 16));
    }

    private static void promise1AtFirst() {
        Bench.says(1, "WAYS: 0 at first");
        AxesAtDawn x = new AxesAtDawn();
        Bench.law(x, "far 0;");
        for (int site = 0; site < 8; site++) {
            x.layer(site, 0, 0);
            x.here(site, site, 1, 0, 0);
            x.find(site, 0, 1, 0, site, 0, 5);
        }
        for (int find = 0; find < 8; find++) {
            due(0, fact(x, find, 16));
        }
        Bench.says(1, "MARKS: nothing is on them at first");
        for (int mark = 0; mark < 4; mark++) {
            due(false, x.mark(mark, true));
        }
        Bench.says(1, "the TAPE is empty at first");
        due(0, new AxesAtDawn().law());
    }

    private static void promise2Layer() {
        Bench.says(2, "SITES 0 to 7 with LAYERS 0 to 9: true");
        AxesAtDawn x = new AxesAtDawn();
        for (int i = 0; i < 80; i++) {
            due(i, x.count(7));
            due(true, x.layer(i / 10, i % 10, i));
        }
        due(80, x.count(7));
        Bench.says(2, "its AGE (0 to 9999), in place of what it was");
        x.here(0, 7, 0, 0, 0);
        due(0, x.find(7, 9, 0, 0, 0, 0, 0));
        for (int age : new int[] {0, 9999, 1, 9998}) {
            due(true, x.layer(7, 9, age));
            due(age, fact(x, 0, 8));
            due(age, x.oldest(NONE));
        }
        due(80, x.count(7));
        due(true, x.layer(7, 8, 5));
        due(true, x.layer(6, 9, 5));
        due(9998, fact(x, 0, 8));
        Bench.says(2, "false: others: SITES 0 to 7");
        Bench.outside(DIG, 0, 0, 7, v -> y -> Bench.bit(y.layer(v, 0, 7)));
        Bench.says(2, "false: others: LAYERS 0 to 9");
        Bench.outside(DIG, 0, 0, 9, v -> y -> Bench.bit(y.layer(0, v, 7)));
        Bench.outside(DIG, 0, 0, 9, v -> y -> Bench.bit(y.layer(1, v, 7)));
        Bench.says(2, "false: others: AGE 0 to 9999");
        Bench.outside(DIG, 0, 0, 9999, v -> y -> Bench.bit(y.layer(0, 0, v)));
        Bench.outside(DIG, 0, 0, 9999, v -> y -> Bench.bit(y.layer(5, 5, v)));
    }

    /** One FIND of STONE 5 at each SITE. */
    private static void oneEach(AxesAtDawn x) {
        for (int site = 0; site < 8; site++) {
            x.layer(site, 0, 0);
            x.here(site, site, 1, 0, 0);
            x.find(site, 0, 1, 0, site, 0, 5);
        }
    }

    private static void promise3Way() {
        Bench.says(3, "the WAY between two SITES, either way: true");
        for (int i = 0; i < 64; i++) {
            int a = i / 8;
            int b = i % 8;
            if (a == b) {
                continue;
            }
            AxesAtDawn x = Bench.after(BoundsTellTest::oneEach);
            due(true, x.way(a, b, 101));
            for (int find = 0; find < 8; find++) {
                due(find == a || find == b ? 1 : 0, fact(x, find, 16));
            }
            due(true, x.way(b, a, 100));
            due(0, fact(x, a, 16));
            due(0, fact(x, b, 16));
        }
        Bench.says(3, "0 to 999 long");
        AxesAtDawn x = Bench.after(BoundsTellTest::oneEach);
        Bench.law(x, "far 998;");
        due(true, x.way(0, 7, 999));
        due(1, fact(x, 0, 16));
        due(true, x.way(0, 7, 998));
        due(0, fact(x, 0, 16));
        Bench.law(x, "far 0;");
        due(1, fact(x, 0, 16));
        due(true, x.way(0, 7, 0));
        due(0, fact(x, 0, 16));
        due(true, x.way(0, 7, 1));
        due(1, fact(x, 0, 16));
        Bench.says(3, "false: others, the same");
        for (int site = 0; site < 8; site++) {
            int s = site;
            Bench.refused(DIG, y -> Bench.bit(y.way(s, s, 700)));
            Bench.refused(DIG, y -> Bench.bit(y.way(s, s, 0)));
        }
        Bench.says(3, "false: others");
        Bench.outside(DIG, 0, 0, 7, v -> y -> Bench.bit(y.way(v, 0, 700)));
        Bench.outside(DIG, 0, 0, 7, v -> y -> Bench.bit(y.way(1, v, 700)));
        Bench.outside(DIG, 0, 0, 7, v -> y -> Bench.bit(y.way(v, v, 700)));
        Bench.outside(DIG, 0, 0, 7, v -> y -> Bench.bit(y.way(v, v + 1, 700)));
        Bench.outside(DIG, 0, 0, 999, v -> y -> Bench.bit(y.way(0, 1, v)));
        Bench.outside(DIG, 0, 0, 999, v -> y -> Bench.bit(y.way(2, 1, v)));
        Bench.outside(DIG, 0, 0, 999, v -> y -> Bench.bit(y.way(5, 4, v)));
    }

    private static void promise4Here() {
        Bench.says(4, "HANDS 0 to 9, SITES 0 to 7, DAYS 0 to 999: true");
        AxesAtDawn x = new AxesAtDawn();
        for (int i = 0; i < 10; i++) {
            due(true, x.here(i, i % 8, 111 * i, 7, 7));
            due(1 << i, x.present(i % 8, 111 * i, 7));
        }
        Bench.says(4, "from an HOUR to another one (both too)");
        AxesAtDawn y = new AxesAtDawn();
        for (int from = 0; from < 24; from += 1 + from % 3) {
            int to = Math.min(23, from + from % 5);
            due(true, y.here(0, 0, from, from, to));
            for (int hour = Math.max(0, from - 2); hour < Math.min(24, to + 3); hour++) {
                due(hour >= from && hour <= to ? 1 : 0, y.present(0, from, hour));
            }
        }
        due(true, y.here(1, 3, 0, 0, 23));
        for (int hour = 0; hour < 24; hour++) {
            due(2, y.present(3, 0, hour));
        }
        Bench.says(4, "HOURS 0 to 23");
        due(true, y.here(1, 3, 1, 0, 0));
        due(true, y.here(1, 3, 2, 23, 23));
        due(2, y.present(3, 1, 0));
        due(0, y.present(3, 1, 1));
        due(2, y.present(3, 2, 23));
        due(0, y.present(3, 2, 22));
        promise4Others();
        promise4TwoSites();
        promise4Full();
    }

    private static void promise4Others() {
        Bench.says(4, "false: others: HANDS 0 to 9");
        Bench.outside(DIG, 0, 0, 9, v -> y -> Bench.bit(y.here(v, 3, 4, 5, 6)));
        Bench.says(4, "false: others: SITES 0 to 7");
        Bench.outside(DIG, 0, 0, 7, v -> y -> Bench.bit(y.here(2, v, 4, 5, 6)));
        Bench.says(4, "false: others: DAYS 0 to 999");
        Bench.outside(DIG, 0, 0, 999, v -> y -> Bench.bit(y.here(2, 3, v, 5, 6)));
        Bench.says(4, "false: others: HOURS 0 to 23");
        Bench.outside(DIG, 0, 0, 23, v -> y -> Bench.bit(y.here(2, 3, 4, v, 23)));
        Bench.outside(DIG, 0, 0, 23, v -> y -> Bench.bit(y.here(2, 3, 4, 0, v)));
        Bench.outside(DIG, 0, 0, 23, v -> y -> Bench.bit(y.here(2, 3, 4, v, v)));
        Bench.says(4, "false: from above to");
        for (int from = 1; from < 24; from++) {
            int f = from;
            Bench.refused(DIG, y -> Bench.bit(y.here(2, 3, 4, f, f - 1)));
        }
        Bench.refused(DIG, y -> Bench.bit(y.here(2, 3, 4, 23, 0)));
    }

    private static void promise4TwoSites() {
        Bench.says(4, "false: it would be at two SITES at once");
        Bench.Calls told = x -> {
            Bench.dig(x);
            x.here(2, 3, 4, 10, 12);
            x.here(2, 3, 4, 15, 15);
        };
        for (int i = 0; i < 24 * 24; i++) {
            int from = i / 24;
            int to = i % 24;
            boolean meets = from <= 12 && to >= 10 || from <= 15 && to >= 15;
            if (from <= to) {
                AxesAtDawn x = Bench.after(told);
                due(!meets, x.here(2, 4, 4, from, to));
                due(meets ? 11 : 12, x.count(1));
            }
        }
        for (int from : new int[] {8, 10, 11, 12}) {
            Bench.refused(told, y -> Bench.bit(y.here(2, 7, 4, from, from + 2)));
        }
        Bench.refused(told, y -> Bench.bit(y.here(2, 0, 4, 15, 15)));
        Bench.refused(told, y -> Bench.bit(y.here(2, 0, 4, 0, 23)));
        AxesAtDawn x = Bench.after(told);
        Bench.says(4, "nobody is at two SITES in one HOUR: another DAY, another HAND, the same SITE are no such");
        due(true, x.here(2, 4, 3, 10, 12));
        due(true, x.here(2, 4, 5, 10, 12));
        due(true, x.here(7, 4, 4, 10, 12));
        due(true, x.here(2, 3, 4, 0, 23));
        due(true, x.here(2, 3, 4, 10, 12));
        due(false, x.here(2, 4, 4, 9, 9));
        due(16, x.count(1));
        Bench.says(4, "at two SITES at once: by the first line and by the last");
        AxesAtDawn y = new AxesAtDawn();
        due(true, y.here(0, 0, 0, 0, 0));
        due(false, y.here(0, 1, 0, 0, 0));
        due(true, y.here(0, 1, 0, 1, 1));
        due(false, y.here(0, 0, 0, 1, 1));
        due(2, y.count(1));
        Bench.says(4, "at two SITES at once: not by a line that is gone");
        y.mark(0, false);
        due(true, y.here(0, 2, 0, 2, 2));
        due(false, y.here(0, 3, 0, 2, 2));
        y.mark(0, true);
        due(true, y.here(0, 3, 0, 2, 2));
        due(false, y.here(0, 2, 0, 2, 2));
    }

    private static void eightyLines(AxesAtDawn x) {
        x.layer(0, 0, 5);
        for (int i = 0; i < 80; i++) {
            x.here(i % 10, i % 8, i / 10, i % 24, 23);
        }
    }

    private static void promise4Full() {
        Bench.says(4, "80 such lines at most");
        AxesAtDawn x = new AxesAtDawn();
        for (int i = 0; i < 80; i++) {
            due(i, x.count(1));
            due(true, x.here(i % 10, i % 8, i / 10, i % 24, 23));
        }
        due(80, x.count(1));
        due(false, x.here(0, 0, 999, 0, 0));
        due(80, x.count(1));
        due(0, x.present(0, 999, 0));
        Bench.says(4, "false: 80 are there");
        Bench.Calls full = BoundsTellTest::eightyLines;
        Bench.refused(full, y -> Bench.bit(y.here(0, 0, 999, 0, 0)));
        Bench.refused(full, y -> Bench.bit(y.here(0, 0, 0, 0, 23)));
        Bench.says(4, "80 are there: no more so behind a MARK gone back to");
        AxesAtDawn y = new AxesAtDawn();
        for (int i = 0; i < 79; i++) {
            y.here(0, 0, i, 1, 1);
        }
        y.mark(0, false);
        for (int turn = 0; turn < 3; turn++) {
            due(true, y.here(1, 1, 999, 2, 2));
            due(false, y.here(1, 1, 999, 3, 3));
            due(2, y.present(1, 999, 2));
            due(true, y.mark(0, true));
            due(0, y.present(1, 999, 2));
        }
        due(79, y.count(1));
    }

    private static void promise5Find() {
        Bench.says(5, "a FIND: its number, numbered as they are told");
        AxesAtDawn x = new AxesAtDawn();
        x.layer(0, 0, 1);
        x.layer(7, 9, 2);
        x.here(0, 0, 0, 0, 0);
        x.here(9, 7, 999, 23, 23);
        due(0, x.find(0, 0, 0, 0, 0, 0, 0));
        due(1, x.find(7, 9, 999, 23, 9, 255, 99));
        int[] last = {1, 1, 1, 1, 1, 1, 1, 1, 2, 9, 23, 99, 1, 1, 0, 0, 0, 7, 999, 9};
        int[] first = {0, 0, 0, 0, 0, 0, 0, 0, 1, 0, 0, 0, 1, 1, 0, 0, 0, 0, 0, 0};
        for (int what = 0; what < 20; what++) {
            due(first[what], fact(x, 0, what));
            due(last[what], fact(x, 1, what));
        }
        promise5Others();
        promise5There();
        promise5Days();
        promise5Full();
    }

    private static void promise5Others() {
        Bench.says(5, "NONE: others: SITES 0 to 7, LAYERS 0 to 9, DAYS 0 to 999, HOURS 0 to 23, HANDS 0 to 9");
        Bench.outside(DIG, NONE, 0, 7, v -> y -> y.find(v, 4, 7, 5, 6, 1, 1));
        Bench.outside(DIG, NONE, 0, 9, v -> y -> y.find(2, v, 7, 5, 6, 1, 1));
        Bench.outside(DIG, NONE, 4, 4, v -> y -> y.find(2, v, 7, 5, 6, 1, 1));
        Bench.outside(DIG, NONE, 0, 999, v -> y -> y.find(2, 4, v, 5, 6, 1, 1));
        Bench.outside(DIG, NONE, 0, 23, v -> y -> y.find(2, 4, 7, v, 6, 1, 1));
        Bench.outside(DIG, NONE, 0, 9, v -> y -> y.find(2, 4, 7, 5, v, 1, 1));
        Bench.outside(DIG, NONE, 6, 6, v -> y -> y.find(2, 4, 7, 5, v, 1, 1));
        Bench.says(5, "NONE: others: MARKS as bits (1 rust .. 128 clean)");
        Bench.outside(DIG, NONE, 0, 255, v -> y -> y.find(2, 4, 7, 5, 6, v, 1));
        Bench.says(5, "NONE: others: of a STONE (0 to 99)");
        Bench.outside(DIG, NONE, 0, 99, v -> y -> y.find(2, 4, 7, 5, 6, 1, v));
        Bench.says(5, "the call that the others are refused in place of");
        due(6, Bench.after(DIG).find(2, 4, 7, 5, 6, 255, 99));
    }

    private static void promise5There() {
        Bench.says(5, "NONE: LAYER not told");
        for (int layer = 0; layer < 10; layer++) {
            int l = layer;
            if (layer != 4) {
                Bench.refused(DIG, NONE, y -> y.find(2, l, 7, 5, 6, 1, 1));
            }
        }
        Bench.Calls none = x -> x.here(6, 2, 7, 0, 23);
        Bench.refused(none, NONE, y -> y.find(2, 0, 7, 5, 6, 1, 1));
        Bench.says(5, "NONE: not HERE");
        Bench.refused(DIG, NONE, y -> y.find(2, 4, 7, 5, 5, 1, 1));
        Bench.refused(DIG, NONE, y -> y.find(2, 4, 8, 5, 6, 1, 1));
        Bench.refused(DIG, NONE, y -> y.find(1, 0, 7, 5, 6, 1, 1));
        Bench.refused(DIG, NONE, y -> y.find(6, 3, 999, 19, 8, 1, 1));
        Bench.refused(DIG, NONE, y -> y.find(6, 3, 999, 22, 8, 1, 1));
        due(6, Bench.after(DIG).find(6, 3, 999, 20, 8, 1, 1));
        due(6, Bench.after(DIG).find(6, 3, 999, 21, 8, 1, 1));
        Bench.says(5, "by a HAND that is HERE then: not more so behind a MARK gone back to");
        AxesAtDawn x = Bench.after(DIG);
        x.mark(3, false);
        x.here(0, 2, 7, 5, 5);
        due(6, x.find(2, 4, 7, 5, 0, 1, 1));
        x.mark(3, true);
        due(NONE, x.find(2, 4, 7, 5, 0, 1, 1));
    }

    private static void promise5Days() {
        Bench.says(5, "NONE: a DAY ahead of the one before");
        Bench.Calls told = x -> {
            Bench.dig(x);
            x.here(6, 2, 6, 0, 23);
            x.here(6, 2, 8, 0, 23);
        };
        Bench.refused(told, NONE, y -> y.find(2, 4, 6, 23, 6, 1, 1));
        AxesAtDawn x = Bench.after(told);
        due(6, x.find(2, 4, 7, 0, 6, 1, 1));
        due(7, x.find(2, 4, 8, 23, 6, 1, 1));
        due(NONE, x.find(2, 4, 7, 23, 6, 1, 1));
        due(8, x.find(2, 4, 8, 0, 6, 1, 1));
        Bench.says(5, "a DAY ahead of the one before: one that was refused does not count");
        AxesAtDawn y = Bench.after(told);
        due(NONE, y.find(2, 4, 999, 0, 6, 1, 1));
        due(NONE, y.find(2, 5, 8, 0, 6, 1, 1));
        due(6, y.find(2, 4, 7, 0, 6, 1, 1));
        Bench.says(5, "a DAY ahead of the one before: one that is gone does not count");
        y.mark(0, false);
        due(7, y.find(2, 4, 8, 0, 6, 1, 1));
        y.mark(0, true);
        due(7, y.find(2, 4, 7, 0, 6, 1, 1));
        Bench.says(5, "no DAY ahead: the first FIND has none before it, the second has");
        AxesAtDawn z = new AxesAtDawn();
        z.layer(0, 0, 0);
        z.here(0, 0, 0, 0, 0);
        z.here(0, 0, 1, 0, 0);
        z.mark(0, false);
        due(0, z.find(0, 0, 0, 0, 0, 0, 0));
        due(1, z.find(0, 0, 1, 0, 0, 0, 0));
        due(NONE, z.find(0, 0, 0, 0, 0, 0, 0));
        z.mark(0, true);
        due(0, z.find(0, 0, 1, 0, 0, 0, 0));
        due(NONE, z.find(0, 0, 0, 0, 0, 0, 0));
    }

    private static void fortyFinds(AxesAtDawn x) {
        Bench.dig(x);
        for (int i = 6; i < 40; i++) {
            x.find(2, 4, 7, i % 24, 6, i, i);
        }
    }

    private static void promise5Full() {
        Bench.says(5, "40 at most");
        AxesAtDawn x = Bench.after(DIG);
        for (int i = 6; i < 40; i++) {
            due(i, x.count(0));
            due(i, x.find(2, 4, 7, i % 24, 6, i, i));
        }
        due(40, x.count(0));
        due(NONE, x.find(2, 4, 7, 5, 6, 0, 0));
        due(40, x.count(0));
        due(39, fact(x, 39, 11));
        due(THROWS, fact(x, 40, 11));
        Bench.says(5, "NONE: 40 are there");
        Bench.Calls full = BoundsTellTest::fortyFinds;
        Bench.refused(full, NONE, y -> y.find(2, 4, 7, 5, 6, 0, 0));
        Bench.refused(full, NONE, y -> y.find(6, 3, 999, 20, 8, 0, 0));
        Bench.says(5, "40 are there: no more so behind a MARK gone back to");
        x.mark(2, true);
        due(4, x.find(2, 4, 7, 5, 6, 0, 50));
        due(50, fact(x, 4, 11));
    }

    private static void promise8Present() {
        Bench.says(8, "who is HERE, as bits: HANDS 0 to 9");
        AxesAtDawn x = new AxesAtDawn();
        for (int hand = 0; hand < 10; hand++) {
            due((1 << hand) - 1, x.present(7, 999, 23));
            x.here(hand, 7, 999, 23, 23);
        }
        due(1023, x.present(7, 999, 23));
        x.here(9, 7, 999, 22, 23);
        due(1023, x.present(7, 999, 23));
        due(512, x.present(7, 999, 22));
        due(0, x.present(7, 998, 23));
        due(0, x.present(6, 999, 23));
        due(0, x.present(0, 0, 0));
        Bench.says(8, "NONE: others");
        Bench.outside(DIG, NONE, 0, 7, v -> y -> y.present(v, 5, 9));
        Bench.outside(DIG, NONE, 0, 999, v -> y -> y.present(0, v, 9));
        Bench.outside(DIG, NONE, 0, 23, v -> y -> y.present(0, 5, v));
    }

    private static void promise9Fact() {
        Bench.says(9, "NoSuchElementException: none such");
        for (int what = 0; what < 20; what++) {
            int w = what;
            Bench.outside(DIG, THROWS, 0, 5, v -> y -> y.fact(v, w));
        }
        Bench.refused(DIG, THROWS, y -> y.fact(39, 19));
        Bench.refused(DIG, THROWS, y -> y.fact(40, 19));
        Bench.outside(DIG, THROWS, 0, 19, v -> y -> y.fact(0, v));
        Bench.outside(DIG, THROWS, 0, 19, v -> y -> y.fact(5, v));
        Bench.refused(NEW, THROWS, y -> y.fact(0, 0));
        Bench.says(9, "what 0 to 7: 1 if it has that MARK, 17: SITE, 18: DAY, 19: HAND");
        AxesAtDawn x = Bench.after(DIG);
        due(1, fact(x, 0, 0));
        due(0, fact(x, 0, 7));
        due(2, fact(x, 5, 17));
        due(7, fact(x, 5, 18));
        due(6, fact(x, 5, 19));
        Bench.says(9, "none such: a FIND that is gone");
        x.mark(2, true);
        due(6, fact(x, 3, 19));
        due(THROWS, fact(x, 4, 19));
        promise9First();
        promise9Alone();
        promise9Dawn();
        promise9Twins();
    }

    private static void promise9First() {
        Bench.says(9, "first (1 if no FIND ahead of it, by numbers, has an AGE that is greater or the same)");
        AxesAtDawn x = new AxesAtDawn();
        x.here(0, 0, 0, 0, 0);
        for (int layer = 0; layer < 4; layer++) {
            x.layer(0, layer, 0);
            x.find(0, layer, 0, 0, 0, 0, 0);
        }
        int[][] ages = {{0, 0, 0, 0}, {1, 0, 0, 0}, {0, 1, 1, 2}, {5, 4, 5, 6}, {0, 1, 2, 3}, {0, 9999, 9998, 9999}};
        int[] first = {1, 1, 11, 9, 15, 3};
        for (int i = 0; i < ages.length; i++) {
            for (int layer = 0; layer < 4; layer++) {
                x.layer(0, layer, ages[i][layer]);
            }
            for (int find = 0; find < 4; find++) {
                due(first[i] >> find & 1, fact(x, find, 12));
            }
        }
    }

    private static void promise9Alone() {
        Bench.says(9, "ALONE at a SITE if it is HERE and no other one is; others (how many others were HERE)");
        AxesAtDawn x = new AxesAtDawn();
        x.layer(0, 0, 0);
        x.here(9, 0, 5, 7, 7);
        x.find(0, 0, 5, 7, 9, 0, 0);
        due(1, fact(x, 0, 13));
        due(0, fact(x, 0, 15));
        x.here(9, 0, 5, 7, 8);
        x.here(1, 1, 5, 7, 7);
        x.here(2, 0, 4, 7, 7);
        x.here(3, 0, 5, 6, 6);
        x.here(4, 0, 5, 8, 8);
        due(1, fact(x, 0, 13));
        due(0, fact(x, 0, 15));
        Bench.says(9, "What is told of HERE later counts as if it had been told at once");
        int others = 0;
        for (int hand = 0; hand < 9; hand++) {
            if (x.here(hand, 0, 5, 7, 7)) {
                others++;
            }
            due(0, fact(x, 0, 13));
            due(others, fact(x, 0, 15));
        }
        due(8, others);
        promise9AloneAgain();
        AxesAtDawn y = new AxesAtDawn();
        y.layer(0, 0, 0);
        for (int hand = 0; hand < 10; hand++) {
            y.here(hand, 0, 5, 7, 7);
        }
        y.find(0, 0, 5, 7, 0, 0, 0);
        due(9, fact(y, 0, 15));
    }

    private static void promise9AloneAgain() {
        Bench.says(9, "ALONE .. if .. no other one is: again so when the other one's line is gone");
        AxesAtDawn x = new AxesAtDawn();
        x.layer(0, 0, 0);
        x.here(9, 0, 5, 6, 7);
        x.find(0, 0, 5, 7, 9, 0, 0);
        for (int turn = 0; turn < 2; turn++) {
            x.mark(0, false);
            due(1, fact(x, 0, 13));
            due(1, fact(x, 0, 14));
            due(0, fact(x, 0, 15));
            due(512, x.can(0));
            x.here(8, 0, 5, 0, 23);
            due(0, fact(x, 0, 13));
            due(0, fact(x, 0, 14));
            due(1, fact(x, 0, 15));
            due(256, x.can(0));
            x.mark(0, true);
        }
        due(1, fact(x, 0, 13));
        due(512, x.can(0));
    }

    private static void promise9Dawn() {
        Bench.says(9, "dawn (at how many HOURS of its DAY ahead of its own its HAND was ALONE there)");
        AxesAtDawn x = new AxesAtDawn();
        x.layer(0, 0, 0);
        x.here(0, 0, 5, 0, 23);
        for (int hour = 0; hour < 24; hour++) {
            x.find(0, 0, 5, hour, 0, 0, 0);
        }
        for (int hour = 0; hour < 24; hour++) {
            due(hour, fact(x, hour, 14));
        }
        x.here(0, 0, 4, 0, 23);
        x.here(0, 0, 6, 0, 23);
        x.here(1, 1, 5, 0, 23);
        due(0, fact(x, 0, 14));
        due(23, fact(x, 23, 14));
        x.here(2, 0, 5, 22, 22);
        due(22, fact(x, 22, 14));
        due(22, fact(x, 23, 14));
        x.here(2, 0, 5, 0, 0);
        due(0, fact(x, 0, 14));
        due(0, fact(x, 1, 14));
        due(1, fact(x, 2, 14));
        due(21, fact(x, 23, 14));
        x.here(3, 0, 5, 23, 23);
        due(21, fact(x, 23, 14));
    }

    private static void promise9Twins() {
        Bench.says(9, "twins (how many FINDS are TWINS of it): of one STONE");
        AxesAtDawn x = new AxesAtDawn();
        x.way(0, 1, 500);
        x.layer(0, 0, 0);
        x.layer(1, 0, 0);
        x.here(0, 0, 5, 0, 0);
        x.here(1, 1, 5, 0, 0);
        due(0, x.find(0, 0, 5, 0, 0, 0, 0));
        due(0, fact(x, 0, 16));
        x.find(1, 0, 5, 0, 1, 0, 1);
        due(0, fact(x, 0, 16));
        x.find(0, 0, 5, 0, 0, 0, 0);
        due(0, fact(x, 0, 16));
        for (int i = 3; i < 40; i++) {
            x.find(1, 0, 5, 0, 1, 0, 0);
            due(i - 2, fact(x, 0, 16));
            due(2, fact(x, i, 16));
        }
        due(0, fact(x, 1, 16));
        due(37, fact(x, 2, 16));
    }

    private static void twentySeen(AxesAtDawn x) {
        Bench.dig(x);
        for (int i = 2; i < 20; i++) {
            x.seen(i % 10, i % 8, 7 + i % 2);
        }
    }

    private static void promise16Seen() {
        Bench.says(16, "SEEN, 20 at most: true");
        AxesAtDawn x = new AxesAtDawn();
        for (int i = 0; i < 20; i++) {
            due(i, x.count(2));
            due(true, x.seen(i % 2 * 9, i / 2 % 2 * 7, i / 4 % 2 * 999));
        }
        due(20, x.count(2));
        due(false, x.seen(0, 0, 0));
        due(20, x.count(2));
        Bench.Calls full = BoundsTellTest::twentySeen;
        Bench.refused(full, y -> Bench.bit(y.seen(3, 0, 5)));
        Bench.refused(full, y -> Bench.bit(y.seen(9, 7, 999)));
        Bench.says(16, "20 at most: there is room again behind a MARK gone back to");
        AxesAtDawn z = Bench.after(full);
        z.mark(2, true);
        due(1, z.count(2));
        due(true, z.seen(3, 0, 5));
        Bench.says(16, "false: others");
        Bench.outside(DIG, 0, 0, 9, v -> y -> Bench.bit(y.seen(v, 0, 5)));
        Bench.outside(DIG, 0, 0, 7, v -> y -> Bench.bit(y.seen(3, v, 5)));
        Bench.outside(DIG, 0, 0, 999, v -> y -> Bench.bit(y.seen(3, 0, v)));
    }

    private static void manyGrounds(AxesAtDawn x) {
        Bench.dig(x);
        for (int i = 0; i < 36; i++) {
            x.ground(i % 12, 1L << i % 6, i % 3);
        }
    }

    private static void promise20Ground() {
        Bench.says(20, "CLAIMS 0 to 11 have GROUNDS, 3 at most each");
        AxesAtDawn x = Bench.after(NEW);
        for (int i = 0; i < 36; i++) {
            due(i, x.count(4));
            due(true, x.ground(i % 12, 0, 1));
        }
        for (int claim = 0; claim < 12; claim++) {
            due(false, x.ground(claim, 0, 1));
        }
        due(36, x.count(4));
        Bench.says(20, "3 at most each: of the CLAIM that is told first, and of one told last");
        for (int claim = 0; claim < 12; claim++) {
            AxesAtDawn y = new AxesAtDawn();
            for (int i = 0; i < 3; i++) {
                due(true, y.ground(claim, 0, 1 << i));
            }
            due(false, y.ground(claim, 0, 8));
            due(true, y.ground(11 - claim, 0, 8));
            due(4, y.count(4));
        }
        Bench.says(20, "false: 3 are there");
        Bench.Calls full = BoundsTellTest::manyGrounds;
        due(36, Bench.after(full).count(4));
        for (int claim = 0; claim < 12; claim += 11) {
            int c = claim;
            Bench.refused(full, y -> Bench.bit(y.ground(c, 1, 0)));
            Bench.refused(full, y -> Bench.bit(y.ground(c, 0, 2048)));
        }
        Bench.refused(DIG, y -> Bench.bit(y.ground(12, 1, 0)));
        AxesAtDawn two = Bench.after(DIG);
        due(true, two.ground(2, 1, 0));
        due(false, two.ground(2, 1, 0));
        Bench.says(20, "3 are there: fewer behind a MARK gone back to");
        two.mark(1, true);
        due(3, two.count(4));
        due(true, two.ground(2, 1, 0));
        due(true, two.ground(2, 1, 0));
        due(false, two.ground(2, 1, 0));
        Bench.says(20, "false: no such CLAIM");
        Bench.outside(DIG, 0, 0, 11, v -> y -> Bench.bit(y.ground(v, 1, 0)));
        Bench.outside(DIG, 0, 0, 11, v -> y -> Bench.bit(y.ground(v, 0, 1)));
        promise20Sets();
    }

    private static void promise20Sets() {
        Bench.says(20, "false: FINDS or CLAIMS that are not (bits of FINDS told)");
        due(true, Bench.after(DIG).ground(9, 32, 0));
        due(true, Bench.after(DIG).ground(9, 63, 0));
        for (long finds : new long[] {64, 65, 127, -1, 1L << 32, 1L << 40, Long.MIN_VALUE, Long.MAX_VALUE}) {
            Bench.refused(DIG, y -> Bench.bit(y.ground(9, finds, 0)));
            Bench.refused(DIG, y -> Bench.bit(y.ground(9, finds, 1)));
        }
        AxesAtDawn none = new AxesAtDawn();
        due(false, none.ground(9, 1, 0));
        due(false, none.ground(9, 1, 1));
        Bench.Calls forty = BoundsTellTest::fortyFinds;
        due(true, Bench.after(forty).ground(9, 1L << 39, 0));
        due(true, Bench.after(forty).ground(9, (1L << 40) - 1, 0));
        Bench.refused(forty, y -> Bench.bit(y.ground(9, 1L << 40, 0)));
        Bench.refused(forty, y -> Bench.bit(y.ground(9, 1L << 63, 0)));
        AxesAtDawn back = Bench.after(DIG);
        back.mark(2, true);
        due(false, back.ground(9, 16, 0));
        due(true, back.ground(9, 8, 0));
        Bench.says(20, "false: FINDS or CLAIMS that are not (of CLAIMS 0 to 11)");
        due(true, Bench.after(DIG).ground(9, 0, 2048));
        due(true, Bench.after(DIG).ground(9, 0, 4095));
        Bench.outside(DIG, 0, 0, 4095, v -> y -> Bench.bit(y.ground(9, 0, v)));
        Bench.outside(DIG, 0, 0, 4095, v -> y -> Bench.bit(y.ground(9, 1, v)));
        Bench.says(20, "at least one of them all");
        Bench.refused(DIG, y -> Bench.bit(y.ground(9, 0, 0)));
        due(true, Bench.after(DIG).ground(9, 1, 0));
        due(true, Bench.after(DIG).ground(9, 0, 1));
        due(true, Bench.after(DIG).ground(9, 1, 1));
    }

    private static void fortyPapers(AxesAtDawn x) {
        Bench.dig(x);
        for (int i = 3; i < 40; i++) {
            x.paper(7 + i % 2);
        }
    }

    private static void promise29Paper() {
        Bench.says(29, "a PAPER of a DAY, 40 at most: true");
        AxesAtDawn x = new AxesAtDawn();
        for (int i = 0; i < 40; i++) {
            due(i, x.count(3));
            due(true, x.paper(i % 2 * 999));
        }
        due(40, x.count(3));
        due(false, x.paper(0));
        due(40, x.count(3));
        Bench.Calls full = y -> {
            fortyPapers(y);
            Bench.law(y, "enough when papers = 41;");
        };
        Bench.refused(full, y -> Bench.bit(y.paper(0)));
        Bench.refused(full, y -> Bench.bit(y.paper(999)));
        AxesAtDawn back = Bench.after(full);
        back.mark(2, true);
        due(2, back.count(3));
        due(true, back.paper(0));
        Bench.says(29, "false: others: DAYS 0 to 999");
        Bench.outside(DIG, 0, 0, 999, v -> y -> Bench.bit(y.paper(v)));
    }

    private static void promise31Mark() {
        Bench.says(31, "MARKS 0 to 3: true; false: none such");
        Bench.outside(DIG, 0, 0, 3, v -> y -> Bench.bit(y.mark(v, false)));
        Bench.outside(DIG, 0, 0, 3, v -> y -> Bench.bit(y.mark(v, true)));
        for (int mark = 0; mark < 4; mark++) {
            AxesAtDawn x = new AxesAtDawn();
            due(true, x.mark(mark, false));
            for (int other = 0; other < 4; other++) {
                due(other == mark, x.mark(other, true));
            }
        }
        Bench.says(31, "false: nothing is on it (back)");
        Bench.refused(DIG, y -> Bench.bit(y.mark(0, true)));
        Bench.refused(DIG, y -> Bench.bit(y.mark(3, true)));
        promise31Gone();
        promise31Behind();
        promise31Kept();
    }

    private static void promise31Gone() {
        Bench.says(31, "all behind is gone when one is gone back to");
        AxesAtDawn x = Bench.after(DIG);
        int[] now = {6, 9, 2, 3, 5};
        int[] second = {4, 7, 1, 2, 4};
        int[] first = {3, 5, 1, 2, 3};
        for (int what = 0; what < 5; what++) {
            due(now[what], x.count(what));
        }
        due(true, x.mark(2, true));
        for (int what = 0; what < 5; what++) {
            due(second[what], x.count(what));
        }
        due(true, x.mark(1, true));
        for (int what = 0; what < 5; what++) {
            due(first[what], x.count(what));
        }
        due(0, x.present(2, 7, 3));
        due(NONE, x.each(3));
        Bench.says(31, "gone back to, with nothing behind: nothing is gone");
        due(true, x.mark(1, true));
        for (int what = 0; what < 5; what++) {
            due(first[what], x.count(what));
        }
        Bench.says(31, "gone back to the empty");
        AxesAtDawn y = new AxesAtDawn();
        y.mark(0, false);
        Bench.dig(y);
        due(true, y.mark(0, true));
        for (int what = 0; what < 5; what++) {
            due(0, y.count(what));
        }
        due(1024, y.stories(0));
        due(NONE, y.oldest(NONE));
    }

    private static void promise31Behind() {
        Bench.says(31, "and so are MARKS that were laid behind it");
        AxesAtDawn x = Bench.after(DIG);
        x.mark(0, false);
        x.mark(3, false);
        due(true, x.mark(2, true));
        due(false, x.mark(0, true));
        due(false, x.mark(3, true));
        due(true, x.mark(1, true));
        due(false, x.mark(2, true));
        due(true, x.mark(1, true));
        Bench.says(31, "MARKS that were laid behind it: laid with nothing told between, too, but not ahead of it");
        AxesAtDawn y = new AxesAtDawn();
        for (int mark = 3; mark >= 0; mark--) {
            due(true, y.mark(mark, false));
        }
        due(true, y.mark(1, true));
        due(false, y.mark(0, true));
        due(true, y.mark(2, true));
        due(false, y.mark(1, true));
        due(true, y.mark(3, true));
        due(false, y.mark(2, true));
        Bench.says(31, "a MARK is laid: in place of where it lay");
        AxesAtDawn z = new AxesAtDawn();
        z.mark(0, false);
        z.paper(1);
        z.mark(1, false);
        z.paper(2);
        z.mark(0, false);
        z.paper(3);
        due(true, z.mark(0, true));
        due(2, z.count(3));
        due(true, z.mark(1, true));
        due(1, z.count(3));
        due(false, z.mark(0, true));
    }

    private static void promise31Kept() {
        Bench.says(31, "MARKS hold how many FINDS, lines of HERE, SEEN, PAPERS and GROUNDS there are: no more");
        AxesAtDawn x = new AxesAtDawn();
        x.mark(0, false);
        Bench.dig(x);
        x.mark(0, true);
        int[] left = {0, 0, 0, 0, 0, 2, 35, 5};
        for (int what = 0; what < 8; what++) {
            due(left[what], x.count(what));
        }
        x.here(0, 0, 8, 1, 1);
        due(0, x.find(0, 1, 8, 1, 0, 16, 33));
        due(300, x.oldest(NONE));
        due(1, x.each(0));
        due(0, x.stops(2, 0));
        due(1, x.stops(5, 0));
        x.here(5, 1, 8, 0, 0);
        due(1, x.find(1, 0, 8, 0, 5, 0, 33));
        due(1, fact(x, 0, 16));
        due(0, x.law());
        due(0, x.each(0));
    }

    /** 511 calls, most of them refused. */
    private static void manyCalls(AxesAtDawn x) {
        x.layer(0, 0, 7);
        x.here(0, 0, 0, 0, 1);
        x.find(0, 0, 0, 1, 0, 0, 0);
        for (int i = 0; i < 127; i++) {
            x.layer(8, 0, i);
            x.here(0, 1, 0, 1, 1);
            x.find(0, 1, 0, 1, 0, 0, 0);
            x.each(i);
        }
    }

    private static void used512Times() {
        Bench.says(1, "An object is used for at most 512 calls after it has been made: the 512th is answered, too");
        Bench.Ask[] last = {x -> Bench.bit(x.layer(1, 1, 1)), x -> Bench.bit(x.here(1, 1, 1, 1, 1)), x -> x.can(0),
            x -> x.find(0, 0, 0, 0, 0, 0, 0), x -> x.present(0, 0, 0), x -> x.fact(0, 8), x -> x.fact(1, 8),
            x -> x.count(0), x -> x.law(), x -> x.feed(-1, 'a', 0), x -> Bench.bit(x.mark(4, false))};
        long[] want = {1, 1, 1, 1, 1, 7, THROWS, 1, 0, 1, 0};
        for (int i = 0; i < last.length; i++) {
            due(want[i], Bench.answer(Bench.after(BoundsTellTest::manyCalls), last[i]));
        }
    }

    private static void promise39Count() {
        Bench.says(39, "NONE for another what");
        Bench.outside(DIG, NONE, 0, 7, v -> y -> y.count(v));
        Bench.outside(NEW, NONE, 0, 7, v -> y -> y.count(v));
        Bench.says(39, "FINDS, lines of HERE, SEEN, PAPERS, GROUNDS, RULES told, signs on the TAPE, LAYERS told");
        AxesAtDawn x = Bench.after(DIG);
        int[] want = {6, 9, 2, 3, 5, 2, 35, 5};
        for (int what = 0; what < 8; what++) {
            due(want[what], x.count(what));
        }
    }

    public static void main(String[] args) {
        promise1New();
        promise2Layer();
        promise3Way();
        promise4Here();
        promise5Find();
        promise8Present();
        promise9Fact();
        promise16Seen();
        promise20Ground();
        promise29Paper();
        promise31Mark();
        promise39Count();
        used512Times();
        Bench.end();
    }
}
