import java.math.BigInteger;

/**
 * Each sentence of the document about what is asked of FINDS and CLAIMS (parts 3 to 6 and promises 12 to 15, 17 to
 * 19, 21 to 28, 30) that names a bound: the last that counts and the first that does not, the empty, the full,
 * the ties, and the calls that are refused.
 */
public final class BoundsAskTest {
    private static final int NONE = Bench.NONE;
    private static final int MIN = Bench.MIN;
    private static final int MAX = Bench.MAX;
    private static final Bench.Calls DIG = Bench.DIG;
    private static final Bench.Calls NEW = x -> { };
    
    private static void due(long want, long got) {
        Bench.due(want, got);
    }

    private static void due(boolean want, boolean got) {
        Bench.due(want, got);
    }

    /** So many SITES from 0 on, each with a LAYER 0 of AGE 10 * SITE and HAND SITE there on DAY 5 from 0 to 23. */
    private static AxesAtDawn sites(int many) {
        AxesAtDawn x = new AxesAtDawn();
        for (int site = 0; site < many; site++) {
            x.layer(site, 0, 10 * site);
            x.here(site, site, 5, 0, 23);
        }
        return x;
    }

    private static void finds(AxesAtDawn x, int site, int many, int marks) {
        for (int i = 0; i < many; i++) {
            x.find(site, 0, 5, 0, site, marks, 0);
        }
    }

    private static void promise12Row() {
        Bench.says(12, "NONE: others");
        for (int what = 0; what < 4; what++) {
            int w = what;
            Bench.outside(DIG, NONE, 0, 9, v -> y -> y.row(v, 0, w));
            Bench.outside(DIG, NONE, 0, 2, v -> y -> y.row(3, v, w));
        }
        Bench.outside(DIG, NONE, 0, 3, v -> y -> y.row(3, 0, v));
        Bench.says(12, "ROWS where there is no FIND");
        AxesAtDawn none = new AxesAtDawn();
        for (int i = 0; i < 120; i++) {
            due(0, none.row(i / 12, i / 4 % 3, i % 4));
        }
        Bench.says(12, "0 dawn above 0, 1 first, 2 BARRED or ODD; n, x, N, K");
        AxesAtDawn x = sites(8);
        x.here(8, 7, 4, 0, 1);
        x.here(9, 7, 4, 3, 4);
        due(0, x.find(7, 0, 4, 0, 8, 0, 0));
        due(1, x.find(7, 0, 4, 1, 8, 1, 0));
        due(2, x.find(7, 0, 4, 4, 9, 2, 0));
        Bench.law(x, "bar when rust;odd when under;");
        int[][] want = {{2, 1, 3, 2}, {2, 1, 3, 1}, {2, 1, 3, 2}, {1, 1, 3, 2}, {1, 0, 3, 1}, {1, 1, 3, 2},
            {0, 0, 3, 2}, {0, 0, 3, 1}, {0, 0, 3, 2}};
        for (int i = 0; i < 36; i++) {
            int hand = i / 12 == 0 ? 8 : i / 12 == 1 ? 9 : 0;
            due(want[i / 4][i % 4], x.row(hand, i / 4 % 3, i % 4));
        }
        Bench.says(12, "ROWS of 40 FINDS of one HAND");
        AxesAtDawn full = sites(1);
        finds(full, 0, 40, 1);
        Bench.law(full, "odd when rust;");
        due(40, full.row(0, 2, 0));
        due(40, full.row(0, 2, 1));
        due(40, full.row(0, 2, 2));
        due(40, full.row(9, 2, 3));
        due(0, full.row(9, 2, 0));
        due(0, full.row(0, 0, 3));
        due(1, full.row(0, 1, 3));
    }

    /** HAND 0 has n FINDS, x of them with rust, HAND 1 the others of N, K with rust in all. */
    private static void oddsOf(int n, int x, int all, int sort, long above, long below) {
        AxesAtDawn a = sites(2);
        finds(a, 0, x, 1);
        finds(a, 0, n - x, 0);
        finds(a, 1, sort - x, 1);
        finds(a, 1, all - n - (sort - x), 0);
        Bench.law(a, "odd when rust;");
        due(all, a.row(0, 2, 2));
        due(above, a.odds(0, 2, 0));
        due(below, a.odds(0, 2, 1));
    }

    private static void promise13Odds() {
        Bench.says(13, "NONE: others");
        Bench.outside(DIG, NONE, 0, 9, v -> y -> y.odds(v, 0, 0));
        Bench.outside(DIG, NONE, 0, 9, v -> y -> y.odds(v, 2, 1));
        Bench.outside(DIG, NONE, 0, 2, v -> y -> y.odds(3, v, 0));
        Bench.outside(DIG, NONE, 0, 2, v -> y -> y.odds(3, v, 1));
        Bench.outside(DIG, NONE, 0, 1, v -> y -> y.odds(3, 0, v));
        Bench.says(13, "ODDS where there is no FIND: 0 of 0 drawn are 0 or more for certain");
        for (int i = 0; i < 60; i++) {
            due(1, new AxesAtDawn().odds(i / 6, i / 2 % 3, i % 2));
        }
        Bench.says(13, "ODDS that of n drawn from N x or more are of the K");
        oddsOf(0, 0, 1, 1, 1, 1);
        oddsOf(1, 0, 1, 0, 1, 1);
        oddsOf(1, 1, 1, 1, 1, 1);
        oddsOf(1, 1, 40, 1, 1, 40);
        oddsOf(1, 1, 40, 39, 39, 40);
        oddsOf(1, 0, 40, 39, 1, 1);
        oddsOf(39, 1, 40, 1, 39, 40);
        oddsOf(39, 0, 40, 1, 1, 1);
        oddsOf(40, 20, 40, 20, 1, 1);
        oddsOf(40, 40, 40, 40, 1, 1);
        oddsOf(39, 39, 40, 40, 1, 1);
        oddsOf(39, 38, 40, 39, 1, 1);
        oddsOf(39, 39, 40, 39, 1, 40);
        oddsOf(20, 0, 40, 0, 1, 1);
        Bench.says(13, "fractions in lowest terms");
        oddsOf(2, 1, 4, 2, 5, 6);
        oddsOf(3, 2, 6, 3, 1, 2);
        oddsOf(20, 20, 40, 20, 1, 137846528820L);
        oddsOf(20, 20, 40, 21, 1, 6564120420L);
        oddsOf(20, 1, 40, 20, 137846528819L, 137846528820L);
        oddsOf(2, 2, 40, 20, 19, 78);
    }

    private static BigInteger big(long v) {
        return BigInteger.valueOf(v);
    }

    private static void promise14Luck() {
        Bench.says(14, "LUCK of every a (1 to 9), q (1 to 6), k (0 to q), d (1 to 3), in lowest terms");
        AxesAtDawn x = new AxesAtDawn();
        for (int a = 1; a < 10; a++) {
            for (int q = 1; q < 7; q++) {
                for (int k = 0; k <= q; k++) {
                    BigInteger fewer = BigInteger.ZERO;
                    for (int squares = 0; squares < 1 << q; squares++) {
                        int found = Integer.bitCount(squares);
                        fewer = found >= k ? fewer : fewer.add(big(a).pow(found).multiply(big(10 - a).pow(q - found)));
                    }
                    for (int d = 1; d < 4; d++) {
                        BigInteger below = big(10).pow(q * d);
                        BigInteger above = below.subtract(fewer.pow(d));
                        BigInteger common = above.gcd(below);
                        due(above.divide(common).longValueExact(), x.luck(a, q, k, d, 0));
                        due(below.divide(common).longValueExact(), x.luck(a, q, k, d, 1));
                    }
                }
            }
        }
        Bench.says(14, "k 0: for certain");
        due(1, x.luck(1, 6, 0, 3, 0));
        due(1, x.luck(1, 6, 0, 3, 1));
        Bench.says(14, "NONE: others: a 1 to 9, q 1 to 6, d 1 to 3, k 0 to q");
        Bench.outside(DIG, NONE, 1, 9, v -> y -> y.luck(v, 3, 1, 2, 0));
        Bench.outside(DIG, NONE, 1, 6, v -> y -> y.luck(5, v, 0, 2, 0));
        Bench.outside(DIG, NONE, 1, 6, v -> y -> y.luck(5, v, 1, 2, 1));
        Bench.outside(DIG, NONE, 1, 6, v -> y -> y.luck(5, v, v, 2, 0));
        Bench.outside(DIG, NONE, 1, 3, v -> y -> y.luck(5, 3, 1, v, 0));
        Bench.outside(DIG, NONE, 0, 1, v -> y -> y.luck(5, 3, 1, 2, v));
        for (int q = 1; q < 7; q++) {
            int many = q;
            Bench.outside(DIG, NONE, 0, q, v -> y -> y.luck(5, many, v, 2, 1));
        }
    }

    private static void promise15Can() {
        Bench.says(15, "ALONE at any HOUR of the DAYS (since) ahead of that");
        for (int since = 0; since < 10; since++) {
            for (int ahead = 0; ahead < 12; ahead++) {
                AxesAtDawn x = new AxesAtDawn();
                x.layer(3, 0, 0);
                due(0, Bench.law(x, "since " + since + ";"));
                x.here(9, 3, 20, 0, 0);
                x.find(3, 0, 20, 0, 9, 0, 0);
                x.here(0, 3, 20 - ahead, 23, 23);
                x.here(1, 3, 20 - ahead, ahead == 0 ? 1 : 0, 1);
                x.here(2, 3, 20 + ahead, 5, 5);
                x.here(3, 4, 20 - ahead, 5, 5);
                x.here(4, 3, 20 - ahead, 6, 6);
                x.here(5, 3, 20 - ahead, 6, 6);
                due(ahead >= 1 && ahead <= since ? 3 : 0, x.can(0));
            }
        }
        Bench.says(15, "ALONE at an HOUR of its DAY ahead of its own");
        AxesAtDawn x = new AxesAtDawn();
        x.layer(3, 0, 0);
        x.here(9, 3, 20, 0, 23);
        for (int hour = 0; hour < 24; hour++) {
            due(hour, x.find(3, 0, 20, hour, 9, 0, 0));
            due(hour > 0 ? 512 : 0, x.can(hour));
        }
        x.here(8, 3, 20, 0, 11);
        for (int hour = 0; hour < 24; hour++) {
            due(hour > 12 ? 512 : 0, x.can(hour));
        }
        Bench.says(15, "DAYS ahead of DAY 0 there are none");
        AxesAtDawn y = new AxesAtDawn();
        y.layer(0, 0, 0);
        Bench.law(y, "since 9;");
        y.here(0, 0, 0, 1, 1);
        y.here(1, 0, 999, 1, 1);
        y.here(2, 0, 991, 1, 1);
        y.find(0, 0, 0, 1, 0, 0, 0);
        y.find(0, 0, 999, 1, 1, 0, 0);
        due(0, y.can(0));
        due(4, y.can(1));
        promise15All();
    }

    private static void promise15All() {
        Bench.says(15, "who CAN, as bits: HANDS 0 to 9");
        AxesAtDawn x = new AxesAtDawn();
        x.layer(7, 9, 0);
        for (int hand = 0; hand < 10; hand++) {
            x.here(hand, 7, 999, 2 * hand, 2 * hand);
        }
        x.here(0, 7, 999, 23, 23);
        x.find(7, 9, 999, 23, 0, 0, 0);
        due(1023, x.can(0));
        due(1023, x.may(0));
        x.find(7, 9, 999, 18, 9, 0, 0);
        due(511, x.can(1));
        Bench.says(15, "NONE: none such");
        Bench.outside(DIG, NONE, 0, 5, v -> y -> y.can(v));
        Bench.says(17, "NONE: none such");
        Bench.outside(DIG, NONE, 0, 5, v -> y -> y.may(v));
        Bench.says(18, "NONE: none such");
        Bench.outside(DIG, NONE, 0, 5, v -> y -> y.put(v));
        Bench.says(24, "NONE: none such");
        Bench.outside(DIG, NONE, 0, 5, v -> y -> y.doubted(v));
    }

    private static void promise17May() {
        Bench.says(17, "SEEN: each FIND of this SITE on this DAY or on the (since) DAYS behind it");
        for (int since = 0; since < 10; since++) {
            for (int ahead = -2; ahead < 12; ahead++) {
                AxesAtDawn x = new AxesAtDawn();
                x.layer(3, 0, 0);
                Bench.law(x, "since " + since + ";");
                x.here(0, 3, 20, 1, 1);
                x.here(1, 3, 20, 2, 2);
                x.here(2, 3, 20, 3, 3);
                x.find(3, 0, 20, 3, 2, 0, 0);
                due(3, x.can(0));
                due(true, x.seen(1, 3, 20 - ahead));
                boolean counts = ahead >= 0 && ahead <= since;
                due(counts ? 2 : 3, x.may(0));
                Bench.says(18, "SEEN ..: each FIND .. which that HAND CAN have put was PUT");
                due(counts ? 1 : 0, x.put(0));
                Bench.says(17, "SEEN: each FIND of this SITE on this DAY or on the (since) DAYS behind it");
            }
        }
        Bench.says(17, "by one that was SEEN so and CAN");
        AxesAtDawn x = Bench.after(DIG);
        due(8, x.can(0));
        due(8, x.may(0));
        due(true, x.seen(4, 0, 5));
        due(8, x.may(0));
        Bench.says(17, "of one that was SEEN those SEEN: all of them");
        AxesAtDawn three = new AxesAtDawn();
        three.layer(0, 0, 0);
        for (int hand = 0; hand < 4; hand++) {
            three.here(hand, 0, 10 + hand, 0, 0);
        }
        three.find(0, 0, 13, 0, 3, 0, 0);
        due(7, three.can(0));
        three.seen(2, 0, 12);
        due(4, three.may(0));
        three.seen(0, 0, 13);
        due(5, three.may(0));
        three.seen(9, 0, 13);
        due(5, three.may(0));
        three.seen(1, 0, 11);
        due(7, three.may(0));
        Bench.says(17, "at a SITE");
        AxesAtDawn y = sites(2);
        y.here(2, 0, 4, 0, 0);
        finds(y, 0, 1, 0);
        due(4, y.can(0));
        y.seen(2, 1, 5);
        y.seen(2, 1, 4);
        due(0, y.put(0));
        y.seen(2, 0, 4);
        due(1, y.put(0));
        Bench.says(17, "SEEN the same line twice");
        y.seen(2, 0, 4);
        due(4, y.may(0));
        due(4, y.count(2));
    }

    private static void promise18Put() {
        Bench.says(18, "BARRED ones were PUT; ODD ones and TWINS alone were not");
        AxesAtDawn x = sites(2);
        x.way(0, 1, 999);
        finds(x, 0, 2, 1);
        finds(x, 1, 1, 0);
        due(2, x.fact(2, 16));
        for (int find = 0; find < 3; find++) {
            due(0, x.put(find));
        }
        Bench.law(x, "odd when rust;");
        due(0, x.put(0));
        Bench.law(x, "bar when rust;");
        due(1, x.put(0));
        due(1, x.put(1));
        due(0, x.put(2));
        Bench.says(18, "BARRED ones were PUT: with nobody who CAN, too");
        due(0, x.can(0));
        due(0, x.may(0));
        due(0, x.stories(0));
    }

    private static void promise19Stories() {
        Bench.says(19, "STORIES where nothing was PUT: each set of HANDS is one");
        AxesAtDawn x = new AxesAtDawn();
        due(1024, x.stories(0));
        for (int what = 1; what < 5; what++) {
            due(0, x.stories(what));
        }
        Bench.says(19, "NONE: another what");
        Bench.outside(DIG, NONE, 0, 4, v -> y -> y.stories(v));
        Bench.outside(NEW, NONE, 0, 4, v -> y -> y.stories(v));
        Bench.says(19, "NONE: none (but 0: 0)");
        AxesAtDawn none = sites(1);
        finds(none, 0, 1, 1);
        Bench.law(none, "bar when rust;");
        due(0, none.stories(0));
        for (int what = 1; what < 6; what++) {
            due(NONE, none.stories(what));
        }
        Bench.says(19, "each FIND that was PUT has one of the set: ten HANDS are needed");
        AxesAtDawn ten = new AxesAtDawn();
        ten.layer(0, 0, 0);
        for (int hand = 0; hand < 10; hand++) {
            ten.here(hand, 0, 10 * hand, 0, 1);
            ten.find(0, 0, 10 * hand, 1, hand, hand == 9 ? 0 : 1, 0);
        }
        Bench.law(ten, "bar when rust;");
        int[] nine = {2, 9, 511, 511, 511};
        for (int what = 0; what < 5; what++) {
            due(nine[what], ten.stories(what));
        }
        Bench.law(ten, "bar when 1;");
        int[] all = {1, 10, 1023, 1023, 1023};
        for (int what = 0; what < 5; what++) {
            due(all[what], ten.stories(what));
        }
        promise19Twins();
        promise19Least();
    }

    private static void promise19Twins() {
        Bench.says(19, "of each two TWINS one FIND has one among those");
        AxesAtDawn x = sites(2);
        x.way(0, 1, 999);
        finds(x, 0, 1, 0);
        x.find(1, 0, 5, 9, 1, 0, 0);
        due(0, x.can(0));
        due(2, x.can(1));
        int[] one = {512, 1, 2, 2, 2};
        for (int what = 0; what < 5; what++) {
            due(one[what], x.stories(what));
        }
        Bench.says(19, "of two TWINS neither has anybody: none");
        AxesAtDawn y = sites(2);
        y.way(0, 1, 999);
        finds(y, 0, 1, 0);
        due(1024, y.stories(0));
        finds(y, 1, 1, 0);
        due(0, y.stories(0));
        due(NONE, y.stories(1));
        y.way(0, 1, 100);
        due(1024, y.stories(0));
    }

    private static void promise19Least() {
        Bench.says(19, "how many HANDS the least have, the first of these (as bits the least), in all, in some");
        // FIND 0 by 0 or 9, FIND 1 by 9 or 3, FIND 2 by 0 or 3 or 9 with 5
        AxesAtDawn x = new AxesAtDawn();
        int[][] who = {{0, 9}, {9, 3}, {3, 0}};
        for (int site = 0; site < 3; site++) {
            x.layer(site, 0, 0);
            x.here(who[site][0], site, 10 * site, 0, 0);
            x.here(who[site][1], site, 10 * site, 1, 2);
            x.find(site, 0, 10 * site, 2, who[site][1], 1, 0);
        }
        Bench.law(x, "bar when rust;");
        due(1 | 512, x.can(0));
        due(8 | 512, x.can(1));
        due(1 | 8, x.can(2));
        int[] want = {4 * 128, 2, 1 | 8, 0, 1 | 8 | 512};
        for (int what = 0; what < 5; what++) {
            due(want[what], x.stories(what));
        }
        x.seen(3, 2, 20);
        int[] seen = {3 * 128, 2, 1 | 8, 8, 1 | 8 | 512};
        for (int what = 0; what < 5; what++) {
            due(seen[what], x.stories(what));
        }
    }

    private static void promise21Standing() {
        Bench.says(21, "NONE: no such HAND");
        Bench.outside(DIG, NONE, NONE, 9, v -> y -> y.standing(v));
        Bench.says(22, "NONE: no such HAND");
        Bench.outside(DIG, NONE, NONE, 9, v -> y -> y.oldest(v));
        Bench.says(21, "CLAIMS that STAND without a HAND (NONE: with all)");
        // GROUNDS of 0: {0}; 1: {1, 2}; 2: CLAIMS 0 and 1, or {2}; 3: {3, 4}; 11: {5} and CLAIM 3
        AxesAtDawn x = Bench.after(DIG);
        x.ground(11, 32, 1 << 3);
        int[] want = {2063, 2063, 2063, 2063, 4, 2057, 2063, 7, 2063, 2063, 2063};
        for (int hand = -1; hand < 10; hand++) {
            due(want[hand + 1], x.standing(hand));
        }
        Bench.says(21, "where there is no GROUND none STANDS");
        for (int hand = -1; hand < 10; hand++) {
            due(0, new AxesAtDawn().standing(hand));
        }
        promise21Itself();
    }

    private static void promise21Itself() {
        Bench.says(21, "a CLAIM that needs itself in the end does not (unless by another GROUND)");
        AxesAtDawn x = sites(2);
        finds(x, 0, 1, 0);
        finds(x, 1, 1, 0);
        x.ground(0, 0, 1);
        x.ground(1, 1, 1 << 1);
        x.ground(2, 1, 1 << 3);
        x.ground(3, 1, 1 << 2);
        due(0, x.standing(NONE));
        x.ground(3, 2, 0);
        due(1 << 2 | 1 << 3, x.standing(NONE));
        due(1 << 3, x.standing(0));
        due(0, x.standing(1));
        x.ground(0, 2, 0);
        due(1 | 1 << 2 | 1 << 3, x.standing(NONE));
        Bench.says(21, "all of some GROUND of it do: a row of all 12, told one way or the other");
        for (int step : new int[] {1, 11}) {
            AxesAtDawn row = sites(2);
            finds(row, 0, 1, 0);
            for (int i = 0; i < 12; i++) {
                int claim = (i * step + (step == 11 ? 11 : 0)) % 12;
                row.ground(claim, claim == 11 ? 1 : 0, claim == 11 ? 0 : 1 << claim + 1);
            }
            due(12, row.count(4));
            due(4095, row.standing(NONE));
            due(0, row.standing(0));
        }
        Bench.says(21, "needs itself in the end: a ring of all 12, told one way or the other");
        for (int step : new int[] {1, 11}) {
            AxesAtDawn ring = sites(2);
            finds(ring, 0, 1, 0);
            finds(ring, 1, 1, 0);
            for (int i = 0; i < 12; i++) {
                int claim = i * step % 12;
                ring.ground(claim, 1, 1 << (claim + 1) % 12);
            }
            due(0, ring.standing(NONE));
            ring.ground(7, 2, 0);
            due(4095, ring.standing(NONE));
            due(1 << 7, ring.standing(0));
            due(0, ring.standing(1));
        }
    }

    private static void promise22Oldest() {
        Bench.says(22, "NONE: none");
        for (int hand = -1; hand < 10; hand++) {
            due(NONE, new AxesAtDawn().oldest(hand));
        }
        Bench.says(22, "the greatest AGE of FINDS without a HAND (NONE: of all)");
        AxesAtDawn x = sites(2);
        x.layer(0, 0, 0);
        finds(x, 0, 1, 0);
        due(0, x.oldest(NONE));
        due(NONE, x.oldest(0));
        for (int hand = 1; hand < 10; hand++) {
            due(0, x.oldest(hand));
        }
        finds(x, 1, 1, 0);
        x.layer(1, 0, 9999);
        due(9999, x.oldest(NONE));
        due(9999, x.oldest(0));
        due(0, x.oldest(1));
        due(9999, x.oldest(9));
        x.layer(7, 0, 9999);
        x.layer(1, 0, 0);
        due(0, x.oldest(NONE));
    }

    private static void promise23Cut() {
        Bench.says(23, "NONE: no such CLAIM");
        Bench.outside(DIG, NONE, 0, 11, v -> y -> y.cut(v, 0));
        Bench.outside(DIG, NONE, 0, 11, v -> y -> y.cut(v, 1));
        Bench.says(23, "NONE: another what");
        Bench.outside(DIG, NONE, 0, 3, v -> y -> y.cut(0, v));
        Bench.outside(DIG, NONE, 0, 3, v -> y -> y.cut(11, v));
        Bench.says(23, "NONE: it does not STAND");
        for (int what = 0; what < 4; what++) {
            int w = what;
            due(NONE, new AxesAtDawn().cut(0, what));
            Bench.refused(DIG, NONE, y -> y.cut(11, w));
        }
        AxesAtDawn itself = sites(1);
        finds(itself, 0, 1, 0);
        itself.ground(0, 1, 1);
        due(NONE, itself.cut(0, 0));
        Bench.says(23, "how many FINDS, the first, second, third of them; NONE: fewer than that, more than 3");
        AxesAtDawn x = sites(1);
        finds(x, 0, 40, 0);
        x.ground(0, 1L << 39, 0);
        x.ground(1, 1L << 39 | 1L << 20, 0);
        x.ground(1, 1L << 38, 0);
        x.ground(2, 1L << 39, 1 << 1);
        x.ground(2, 1L << 1 | 1L << 2, 0);
        x.ground(3, 1L << 7, 0);
        x.ground(3, 1L << 3, 0);
        x.ground(3, 1L << 5, 0);
        x.ground(4, 0, 1 << 3);
        x.ground(4, 1L << 30, 0);
        int[][] want = {{1, 39, -1, -1}, {2, 20, 38, -1}, {2, 1, 39, -1}, {3, 3, 5, 7}, {-1, -1, -1, -1}};
        for (int i = 0; i < 20; i++) {
            due(want[i / 4][i % 4], x.cut(i / 4, i % 4));
        }
        for (int i = 19; i >= 0; i--) {
            due(want[i / 4][i % 4], x.cut(i / 4, i % 4));
        }
        promise23Order();
    }

    private static void promise23Order() {
        Bench.says(23, "of as many the first in order");
        AxesAtDawn x = sites(1);
        finds(x, 0, 40, 0);
        x.ground(0, (1L << 40) - 1, 0);
        due(0, x.cut(0, 1));
        x.ground(0, (1L << 40) - 2, 0);
        due(1, x.cut(0, 0));
        due(1, x.cut(0, 1));
        // 0 with 39 comes ahead of 1 with 2, though as bits it is more
        x.ground(1, 1 | 2, 0);
        x.ground(1, 1L << 39 | 4, 0);
        due(2, x.cut(1, 0));
        due(0, x.cut(1, 1));
        due(2, x.cut(1, 2));
        x.ground(1, 1L << 39 | 8, 0);
        due(2, x.cut(1, 0));
        due(0, x.cut(1, 1));
        due(39, x.cut(1, 2));
        // ones that lie side by side
        x.ground(4, 16, 0);
        x.ground(4, 32, 0);
        due(4, x.cut(4, 1));
        due(5, x.cut(4, 2));
        x.ground(4, 64, 0);
        int[] side = {3, 4, 5, 6};
        for (int what = 0; what < 4; what++) {
            due(side[what], x.cut(4, what));
        }
        // a single one is less than any two
        x.ground(2, 1 | 1L << 39, 0);
        x.ground(2, 2 | 1L << 39, 0);
        x.ground(2, 4 | 1L << 39, 0);
        due(1, x.cut(2, 0));
        due(39, x.cut(2, 1));
        x.ground(3, 1 | 8 | 16, 0);
        x.ground(3, 2 | 8 | 32, 0);
        x.ground(3, 4 | 16 | 32, 0);
        due(2, x.cut(3, 0));
        due(0, x.cut(3, 1));
        due(5, x.cut(3, 2));
    }

    private static void promise24Doubted() {
        Bench.says(24, "FINDS that are BARRED, ODD, or of a HAND that is in some least STORY (of the fewest HANDS)");
        AxesAtDawn x = sites(3);
        finds(x, 0, 1, 1);
        finds(x, 1, 1, 2);
        finds(x, 2, 1, 4);
        for (int find = 0; find < 3; find++) {
            due(0, x.doubted(find));
        }
        Bench.law(x, "bar when under;odd when rust;");
        due(1, x.doubted(0));
        due(1, x.doubted(1));
        due(0, x.doubted(2));
        Bench.says(24, "of a HAND that is in some least STORY (of the fewest HANDS): not so in a larger one alone");
        x.here(2, 1, 4, 0, 0);
        due(4, x.stories(4));
        due(1, x.doubted(2));
        x.here(3, 1, 4, 1, 1);
        due(12, x.stories(4));
        due(1, x.doubted(2));
        x.seen(3, 1, 4);
        due(8, x.stories(4));
        due(0, x.doubted(2));
        Bench.says(24, "of a HAND that is in some least STORY: where there is no STORY there is no such HAND");
        AxesAtDawn y = sites(2);
        finds(y, 0, 1, 1);
        finds(y, 0, 1, 2);
        finds(y, 0, 1, 0);
        Bench.law(y, "bar when rust;odd when under;");
        due(0, y.stories(0));
        due(1, y.doubted(0));
        due(1, y.doubted(1));
        due(0, y.doubted(2));
        Bench.says(24, "the least STORY may have no HAND");
        Bench.law(y, "odd when under;");
        due(0, y.stories(1));
        due(0, y.doubted(0));
        due(1, y.doubted(1));
    }

    private static void promise25Settled() {
        Bench.says(25, "one without GROUNDS, too");
        due(4095, new AxesAtDawn().settled());
        AxesAtDawn x = sites(2);
        finds(x, 0, 1, 1);
        finds(x, 1, 1, 0);
        Bench.says(25, "SETTLED if it STANDS without all DOUBTED FINDS, or does not with all");
        x.ground(0, 1, 0);
        x.ground(1, 2, 0);
        x.ground(2, 1, 0);
        x.ground(2, 2, 0);
        x.ground(3, 1, 1 << 3);
        x.ground(11, 1 | 2, 0);
        due(4095, x.settled());
        Bench.law(x, "odd when rust;");
        due(4095 & ~(1 | 2048), x.settled());
        Bench.law(x, "odd when 1;");
        due(1 << 3 | 0x7f0, x.settled());
        for (int claim = 0; claim < 12; claim++) {
            x.ground(claim, 1, 0);
        }
        due(0, x.settled());
    }

    private static void promise26Again() {
        Bench.says(26, "NONE: others: SITES 0 to 7 (b NONE: one)");
        Bench.outside(DIG, NONE, 0, 7, v -> y -> y.again(v, NONE));
        Bench.outside(DIG, NONE, 0, 7, v -> y -> y.again(v, 0));
        Bench.outside(DIG, NONE, 0, 7, v -> y -> y.again(v, v));
        Bench.outside(DIG, NONE, 0, 7, v -> y -> y.again(v, v + 1));
        Bench.outside(DIG, NONE, NONE, 7, v -> y -> y.again(0, v));
        Bench.outside(DIG, NONE, NONE, 7, v -> y -> y.again(7, v));
        for (int site = 0; site < 8; site++) {
            int s = site;
            Bench.refused(DIG, NONE, y -> y.again(s, s));
            due(12, new AxesAtDawn().again(site, NONE));
            due(12, new AxesAtDawn().again(site, (site + 1) % 8));
        }
        Bench.says(26, "NONE: more than 10 DOUBTED FINDS there");
        for (int many = 8; many < 14; many++) {
            AxesAtDawn x = sites(3);
            finds(x, 0, many, 1);
            finds(x, 0, 5, 0);
            finds(x, 1, many - 6, 1);
            finds(x, 2, 6, 1);
            Bench.law(x, "odd when rust;");
            x.ground(0, 1, 0);
            x.ground(1, 3L << many + 5, 0);
            due(many > 10 ? NONE : 11, x.again(0, NONE));
            due(many > 10 ? NONE : 11, x.again(1, 2));
            due(many > 10 ? NONE : 11, x.again(2, 1));
            due(many + many - 6 > 10 ? NONE : 12, x.again(0, 1));
            due(NONE, x.again(0, 2));
        }
        promise26Good();
    }

    private static void promise26Good() {
        Bench.says(26, "it is good for so many CLAIMS as are SETTLED whatever comes out");
        AxesAtDawn x = sites(8);
        for (int site = 0; site < 8; site++) {
            finds(x, site, 1, 1);
        }
        Bench.law(x, "odd when rust;");
        x.ground(0, 1, 0);
        x.ground(1, 1 | 128, 0);
        x.ground(2, 1, 0);
        x.ground(2, 128, 0);
        x.ground(3, 64, 0);
        due(8, Integer.bitCount(x.settled()));
        due(9, x.again(0, NONE));
        due(8, x.again(7, NONE));
        due(9, x.again(6, NONE));
        due(8, x.again(1, NONE));
        due(11, x.again(0, 7));
        due(11, x.again(7, 0));
        due(10, x.again(0, 6));
        due(9, x.again(6, 7));
        due(8, x.again(1, 2));
        promise26Outcomes();
    }

    private static void promise26Outcomes() {
        Bench.says(26, "SETTLED whatever comes out: each of the DOUBTED FINDS there may stand by itself");
        for (int a = 0; a < 8; a++) {
            for (int b = 0; b < 8; b++) {
                int c = a == 3 || b == 3 ? a == 6 || b == 6 ? 5 : 6 : 3;
                if (a == b) {
                    continue;
                }
                AxesAtDawn x = sites(8);
                for (int site = 0; site < 8; site++) {
                    finds(x, site, 1, 1);
                }
                Bench.law(x, "odd when rust;");
                // with a and b it STANDS, without both it does not, with a alone it needs c, which stays DOUBTED
                x.ground(0, 1L << a | 1L << b, 0);
                x.ground(0, 1L << a | 1L << c, 0);
                due(11, x.again(a, b));
                due(11, x.again(b, a));
                x.ground(0, 1L << a, 0);
                due(12, x.again(a, b));
            }
        }
    }

    private static void promise27Where() {
        Bench.says(27, "NONE: others (many 1 or 2)");
        for (int what = 0; what < 3; what++) {
            int w = what;
            Bench.outside(DIG, NONE, 1, 2, v -> y -> y.where(v, w));
        }
        Bench.says(27, "NONE: others (what 0, 1, 2: the SITES)");
        Bench.outside(DIG, NONE, 0, 1, v -> y -> y.where(1, v));
        Bench.outside(DIG, NONE, 0, 2, v -> y -> y.where(2, v));
        Bench.says(27, "of equal ones the first (the pair in order by its first, then its second)");
        AxesAtDawn none = new AxesAtDawn();
        int[] want = {12, 0, 12, 0, 1};
        for (int i = 0; i < 5; i++) {
            due(want[i], none.where(i < 2 ? 1 : 2, i < 2 ? i : i - 2));
        }
        for (int site = 0; site < 8; site++) {
            AxesAtDawn x = sites(8);
            finds(x, site, 1, 1);
            Bench.law(x, "odd when rust;");
            x.ground(0, 1, 0);
            due(site, x.where(1, 1));
            due(12, x.where(1, 0));
            due(0, x.where(2, 1));
            due(site == 0 ? 1 : site, x.where(2, 2));
        }
        for (int pair = 0; pair < 64; pair++) {
            int a = pair / 8;
            int b = pair % 8;
            if (a < b) {
                AxesAtDawn x = sites(8);
                finds(x, b, 1, 1);
                finds(x, a, 1, 1);
                Bench.law(x, "odd when rust;");
                x.ground(5, 3, 0);
                due(11, x.where(1, 0));
                due(0, x.where(1, 1));
                due(12, x.where(2, 0));
                due(a, x.where(2, 1));
                due(b, x.where(2, 2));
            }
        }
        promise27Over();
    }

    private static void promise27Over() {
        Bench.says(27, "NONE: all with more than 10 (those are passed over; 40 FINDS are too few for all)");
        for (int many = 9; many < 13; many++) {
            AxesAtDawn x = sites(4);
            finds(x, 0, many, 1);
            finds(x, 1, 11, 1);
            finds(x, 2, 1, 1);
            Bench.law(x, "odd when rust;");
            x.ground(0, 1, 0);
            x.ground(1, 1L << many + 11, 0);
            due(11, x.where(1, 0));
            due(many > 10 ? 2 : 0, x.where(1, 1));
            due(many > 9 ? 11 : 12, x.where(2, 0));
            due(many > 10 ? 2 : 0, x.where(2, 1));
            due(many > 9 ? 3 : 2, x.where(2, 2));
        }
        Bench.says(27, "those are passed over: where all pairs with one SITE have more than 10");
        for (int full = 0; full < 8; full++) {
            AxesAtDawn x = sites(8);
            for (int site = 0; site < 8; site++) {
                finds(x, site, site == full ? 10 : 1, 1);
            }
            Bench.law(x, "odd when rust;");
            x.ground(0, 1L << full, 0);
            due(12, x.where(1, 0));
            due(full, x.where(1, 1));
            due(11, x.where(2, 0));
            due(full == 0 ? 1 : 0, x.where(2, 1));
            due(full == 0 || full == 1 ? 2 : 1, x.where(2, 2));
        }
    }

    private static void promise28Rules() {
        Bench.says(28, "NONE: another what");
        Bench.outside(DIG, NONE, 0, 1, v -> y -> y.rules(v));
        Bench.outside(NEW, NONE, 0, 1, v -> y -> y.rules(v));
        Bench.says(28, "where nothing is DOUBTED: no RULE is needed");
        due(0, new AxesAtDawn().rules(0));
        due(0, new AxesAtDawn().rules(1));
        Bench.says(28, "each DOUBTED FIND that somebody CAN have put");
        AxesAtDawn x = sites(1);
        finds(x, 0, 1, 1);
        Bench.law(x, "odd when rust;rule 7 stops 1;");
        due(0, x.rules(0));
        x.here(1, 0, 4, 0, 0);
        due(1, x.rules(0));
        due(128, x.rules(1));
        Bench.law(x, "rule 7 stops 1;");
        due(0, x.rules(0));
        Bench.says(28, "NONE: none does");
        Bench.law(x, "odd when rust;rule 7 stops 0;");
        due(NONE, x.rules(0));
        due(NONE, x.rules(1));
        Bench.law(x, "odd when rust;");
        due(NONE, x.rules(0));
        due(NONE, x.rules(1));
        promise28Fewest();
    }

    private static void promise28Fewest() {
        Bench.says(28, "with the fewest, of as many the least, by which each is stopped by one");
        AxesAtDawn x = sites(1);
        for (int mark = 0; mark < 8; mark++) {
            x.find(0, 0, 5, 1, 0, 1 << mark, 0);
        }
        String[] marks = {"rust", "under", "soil", "hole", "worn", "fresh", "turned", "clean"};
        StringBuilder eight = new StringBuilder("odd when 1;");
        for (int n = 0; n < 8; n++) {
            eight.append("rule ").append(n).append(" stops ").append(marks[n]).append(";");
        }
        Bench.law(x, eight.toString());
        due(8, x.rules(0));
        due(255, x.rules(1));
        Bench.law(x, "odd when 1;rule 0 stops rust;rule 7 stops not rust;rule 1 stops not rust;rule 2 stops rust;");
        due(2, x.rules(0));
        due(3, x.rules(1));
        Bench.law(x, "odd when 1;rule 7 stops 1;rule 6 stops 1;");
        due(1, x.rules(0));
        due(64, x.rules(1));
        Bench.law(x, "odd when 1;rule 0 stops rust;rule 1 stops not rust;rule 7 stops 1;");
        due(1, x.rules(0));
        due(128, x.rules(1));
        Bench.law(x, "odd when 1;rule 0 stops not clean;rule 3 stops not rust;rule 5 stops rust;rule 6 stops clean;");
        due(2, x.rules(0));
        due(1 | 8, x.rules(1));
        Bench.law(x, eight.toString().replace("rule 7 stops clean;", ""));
        due(NONE, x.rules(0));
        due(NONE, x.rules(1));
    }

    private static void enough(int day, AxesAtDawn x, String e) {
        due(0, Bench.law(x, "bar when rust;odd when under;enough when " + e + ";"));
        due(day, x.enough());
    }

    private static void promise30Enough() {
        Bench.says(30, "ENOUGH: the first DAY (0 to 999) on which enough is not 0; NONE: on none");
        AxesAtDawn x = new AxesAtDawn();
        due(NONE, x.enough());
        enough(0, x, "1");
        enough(NONE, x, "0");
        enough(0, x, "day = 0");
        enough(1, x, "day");
        enough(999, x, "day = 999");
        enough(999, x, "998 < day");
        enough(NONE, x, "999 < day");
        enough(NONE, x, "day = 1000");
        enough(0, x, "day - 1");
        enough(1, x, "0 - day");
        enough(500, x, "day = 700 or day = 500");
        Bench.says(30, "where there is nothing all facts but day are 0");
        enough(NONE, x, "finds+barred+odd+pairs+most+dawns+papers");
        Bench.says(30, "papers (told up to it)");
        x.paper(999);
        x.paper(0);
        x.paper(500);
        x.paper(500);
        enough(0, x, "papers");
        enough(NONE, x, "papers = 2");
        enough(500, x, "papers = 3");
        enough(999, x, "papers = 4");
        enough(NONE, x, "papers = 5");
        enough(499, x, "papers = 1 and 498 < day");
        enough(NONE, x, "papers = 1 and 499 < day");
        promise30Finds();
    }

    private static void promise30Finds() {
        Bench.says(30, "of FINDS up to it: finds, barred, odd (not barred), most, dawns");
        AxesAtDawn x = new AxesAtDawn();
        int[] days = {0, 0, 7, 7, 7, 999};
        int[] marks = {1, 2, 3, 0, 2, 1};
        int[] hands = {0, 0, 9, 0, 9, 9};
        x.layer(0, 0, 0);
        x.here(0, 0, 0, 0, 0);
        x.here(0, 0, 7, 1, 3);
        x.here(9, 0, 7, 2, 5);
        x.here(9, 0, 999, 1, 2);
        int[] hours = {0, 0, 2, 2, 5, 2};
        for (int i = 0; i < 6; i++) {
            due(i, x.find(0, 0, days[i], hours[i], hands[i], marks[i], 0));
        }
        enough(0, x, "finds = 2");
        enough(7, x, "2 < finds");
        enough(7, x, "finds = 5");
        enough(999, x, "finds = 6");
        enough(NONE, x, "finds = 3 or finds = 4 or 6 < finds");
        enough(0, x, "barred = 1");
        enough(7, x, "barred = 2");
        enough(999, x, "barred = 3");
        enough(NONE, x, "3 < barred");
        enough(0, x, "odd = 1");
        enough(7, x, "odd = 2");
        enough(NONE, x, "2 < odd");
        enough(0, x, "most = 2");
        enough(7, x, "most = 3");
        enough(NONE, x, "3 < most");
        enough(7, x, "dawns = 2");
        enough(999, x, "dawns = 3");
        enough(NONE, x, "dawns = 1");
        enough(6, x, "finds = 2 and day = 6");
        enough(NONE, x, "finds = 2 and day = 7");
        enough(998, x, "finds = 5 and day = 998");
        promise30Pairs();
    }

    private static void promise30Pairs() {
        Bench.says(30, "pairs (of TWINS)");
        AxesAtDawn x = new AxesAtDawn();
        x.way(0, 1, 999);
        for (int site = 0; site < 2; site++) {
            x.layer(site, 0, 0);
        }
        for (int i = 0; i < 12; i++) {
            x.here(i % 2, i % 2, 10 * i, 0, 0);
            x.find(i % 2, 0, 10 * i, 0, i % 2, 0, 0);
        }
        int pairs = 0;
        for (int i = 0; i < 12; i++) {
            pairs += (i + 1) / 2;
            enough(i == 0 ? 0 : 10 * i, x, "pairs = " + pairs);
        }
        enough(NONE, x, pairs + " < pairs");
        Bench.says(30, "pairs (of TWINS): 20 FINDS each at two SITES, of one STONE");
        AxesAtDawn full = sites(2);
        full.way(0, 1, 999);
        finds(full, 0, 20, 0);
        finds(full, 1, 20, 0);
        enough(5, full, "pairs = 400");
        enough(5, full, "most = 20 and finds = 40");
    }

    public static void main(String[] args) {
        promise12Row();
        promise13Odds();
        promise14Luck();
        promise15Can();
        promise17May();
        promise18Put();
        promise19Stories();
        promise21Standing();
        promise22Oldest();
        promise23Cut();
        promise24Doubted();
        promise25Settled();
        promise26Again();
        promise27Where();
        promise28Rules();
        promise30Enough();
        Bench.end();
    }
}
