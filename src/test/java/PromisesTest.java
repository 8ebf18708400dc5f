import java.util.NoSuchElementException;

/** Each promise of the document by itself: ordinary calls, edges, and what is refused. */
public final class PromisesTest {
    private static final int NONE = AxesAtDawn.NONE;
    private static final int MIN = Integer.MIN_VALUE;
    private static final int MAX = Integer.MAX_VALUE;
    private static final long THROWS = Long.MIN_VALUE;
    private static int promise;
    private static int number;
    private static int wrong;

    private interface Call {
        int answer();
    }

    private static void start(int p) {
        promise = p;
        number = 0;
    }

    private static void due(long want, long got) {
        number++;
        if (got != want) {
            wrong++;
            StackTraceElement at = new Throwable().getStackTrace()[1];
            if (!at.getMethodName().startsWith("promise") && !at.getMethodName().startsWith("law")) {
                at = new Throwable().getStackTrace()[2];
            }
            System.out.println("promise " + promise + ", check " + number + " (line " + at.getLineNumber()
                    + "): answered " + got + ", due is " + want);
        }
    }

    private static void due(boolean want, boolean got) {
        due(want ? 1 : 0, got ? 1 : 0);
    }

    private static long thrown(Call call) {
        try {
            return call.answer();
        } catch (NoSuchElementException e) {
            return THROWS;
        }
    }

    private static long fact(AxesAtDawn x, int find, int what) {
        return thrown(() -> x.fact(find, what));
    }

    private static void feed(AxesAtDawn x, String text) {
        for (int from = 0; from < text.length(); from += 24) {
            long[] v = new long[3];
            for (int i = 0; i < 24; i++) {
                v[i / 8] = v[i / 8] << 8 | (from + i < text.length() ? text.charAt(from + i) : 0);
            }
            x.feed(v[0], v[1], v[2]);
        }
    }

    private static int law(AxesAtDawn x, String text) {
        feed(x, text);
        return x.law();
    }

    private static int fault(String text) {
        return law(new AxesAtDawn(), text);
    }

    /** SITES 0 to 2 with LAYERS; HAND 0 ALONE at SITE 0 on DAY 10 at 5 to 7, then with 1. */
    private static AxesAtDawn dig() {
        AxesAtDawn x = new AxesAtDawn();
        x.layer(0, 0, 100);
        x.layer(0, 1, 200);
        x.layer(1, 0, 150);
        x.layer(2, 4, 50);
        x.here(0, 0, 10, 5, 12);
        x.here(1, 0, 10, 8, 14);
        x.here(2, 1, 11, 6, 9);
        return x;
    }

    private static void promise1() {
        start(1);
        AxesAtDawn x = new AxesAtDawn();
        for (int what = 0; what < 8; what++) {
            due(0, x.count(what));
        }
        due(0, x.present(0, 0, 0));
        due(NONE, x.each(0));
        due(NONE, x.oldest(NONE));
        due(1024, x.stories(0));
        due(NONE, x.enough());
        due(NONE, x.stops(0, 0));
        due(-1, AxesAtDawn.NONE);
    }

    private static void promise2() {
        start(2);
        AxesAtDawn x = new AxesAtDawn();
        due(true, x.layer(0, 0, 0));
        due(true, x.layer(7, 9, 9999));
        due(2, x.count(7));
        due(true, x.layer(7, 9, 5));
        due(2, x.count(7));
        due(false, x.layer(8, 0, 0));
        due(false, x.layer(-1, 0, 0));
        due(false, x.layer(0, 10, 0));
        due(false, x.layer(0, -1, 0));
        due(false, x.layer(0, 0, -1));
        due(false, x.layer(0, 0, 10000));
        due(false, x.layer(MIN, MAX, MIN));
        due(2, x.count(7));
        x.here(0, 7, 1, 1, 1);
        x.find(7, 9, 1, 1, 0, 0, 0);
        due(5, x.oldest(NONE));
        x.layer(7, 9, 77);
        due(77, x.oldest(NONE));
        due(77, fact(x, 0, 8));
        x.layer(7, 9, -1);
        due(77, fact(x, 0, 8));
    }

    private static void promise3() {
        start(3);
        AxesAtDawn x = dig();
        x.find(0, 0, 10, 8, 0, 0, 33);
        x.find(1, 0, 11, 7, 2, 0, 33);
        due(0, fact(x, 0, 16));
        due(true, x.way(1, 0, 101));
        due(1, fact(x, 0, 16));
        due(1, fact(x, 1, 16));
        due(true, x.way(0, 1, 100));
        due(0, fact(x, 0, 16));
        due(true, x.way(0, 1, 999));
        due(1, fact(x, 1, 16));
        due(false, x.way(0, 1, 1000));
        due(false, x.way(0, 1, -1));
        due(false, x.way(0, 0, 1));
        due(false, x.way(8, 0, 1));
        due(false, x.way(0, 8, 1));
        due(false, x.way(-1, 0, 1));
        due(false, x.way(0, -1, 1));
        due(1, fact(x, 1, 16));
        due(true, x.way(0, 1, 0));
        due(0, fact(x, 1, 16));
        due(0, law(x, "far 0;"));
        due(0, fact(x, 1, 16));
        due(true, x.way(0, 1, 1));
        due(1, fact(x, 1, 16));
    }

    private static void promise4() {
        start(4);
        AxesAtDawn x = new AxesAtDawn();
        due(true, x.here(0, 0, 0, 0, 23));
        due(true, x.here(9, 7, 999, 23, 23));
        due(false, x.here(0, 1, 0, 5, 6));
        due(false, x.here(0, 1, 0, 23, 23));
        due(true, x.here(0, 1, 1, 5, 6));
        due(true, x.here(0, 0, 0, 3, 4));
        due(true, x.here(0, 2, 1, 7, 9));
        due(false, x.here(0, 3, 1, 6, 7));
        due(false, x.here(0, 3, 1, 0, 5));
        due(true, x.here(0, 3, 1, 0, 4));
        due(false, x.here(1, 0, 0, 5, 4));
        due(false, x.here(10, 0, 0, 5, 5));
        due(false, x.here(-1, 0, 0, 5, 5));
        due(false, x.here(1, 8, 0, 5, 5));
        due(false, x.here(1, -1, 0, 5, 5));
        due(false, x.here(1, 0, 1000, 5, 5));
        due(false, x.here(1, 0, -1, 5, 5));
        due(false, x.here(1, 0, 0, -1, 5));
        due(false, x.here(1, 0, 0, 5, 24));
        due(false, x.here(1, 0, 0, MIN, MAX));
        due(6, x.count(1));
        for (int i = 6; i < 80; i++) {
            due(true, x.here(2, 0, i, 1, 2));
        }
        due(false, x.here(2, 0, 500, 1, 2));
        due(80, x.count(1));
        due(0, x.present(0, 500, 1));
        due(4, x.present(0, 79, 1));
    }

    private static void promise5() {
        start(5);
        AxesAtDawn x = dig();
        due(0, x.find(0, 0, 10, 5, 0, 0, 0));
        due(1, x.find(0, 1, 10, 14, 1, 255, 99));
        due(NONE, x.find(0, 2, 10, 5, 0, 0, 0));
        due(NONE, x.find(0, 0, 10, 4, 0, 0, 0));
        due(NONE, x.find(0, 0, 10, 13, 0, 0, 0));
        due(NONE, x.find(0, 0, 10, 8, 2, 0, 0));
        due(NONE, x.find(1, 0, 10, 8, 0, 0, 0));
        due(NONE, x.find(8, 0, 10, 5, 0, 0, 0));
        due(NONE, x.find(-1, 0, 10, 5, 0, 0, 0));
        due(NONE, x.find(0, 10, 10, 5, 0, 0, 0));
        due(NONE, x.find(0, -1, 10, 5, 0, 0, 0));
        due(NONE, x.find(0, 0, 1000, 5, 0, 0, 0));
        due(NONE, x.find(0, 0, 10, 24, 0, 0, 0));
        due(NONE, x.find(0, 0, 10, -1, 0, 0, 0));
        due(NONE, x.find(0, 0, 10, 5, 10, 0, 0));
        due(NONE, x.find(0, 0, 10, 5, -1, 0, 0));
        due(NONE, x.find(0, 0, 10, 5, 0, 256, 0));
        due(NONE, x.find(0, 0, 10, 5, 0, -1, 0));
        due(NONE, x.find(0, 0, 10, 5, 0, 0, 100));
        due(NONE, x.find(0, 0, 10, 5, 0, 0, -1));
        due(2, x.find(1, 0, 11, 6, 2, 0, 0));
        due(NONE, x.find(0, 0, 10, 5, 0, 0, 0));
        AxesAtDawn y = dig();
        due(0, y.find(1, 0, 11, 6, 2, 0, 0));
        due(NONE, y.find(0, 0, 10, 5, 0, 0, 0));
        for (int i = 3; i < 40; i++) {
            due(i, x.find(1, 0, 11, 6, 2, 0, 0));
        }
        due(NONE, x.find(1, 0, 11, 6, 2, 0, 0));
        due(40, x.count(0));
    }

    private static void promise6() {
        start(6);
        AxesAtDawn x = new AxesAtDawn();
        due(0, x.feed(0, 0, 0));
        due(0, x.feed(-1, MIN, 0x7f1f09000b80ffL));
        due(4, x.feed(0x200a7e4100000000L, 0, 0));
        due(12, x.feed(0x2020202020202020L, 0, 0));
        due(0, x.law() & 15 ^ 1);
        due(0, x.count(6));
        // "since 4;" told over three numbers, the highest byte first
        due(1, x.feed('s', 0, 0));
        due(3, x.feed(0, (long) 'i' << 56 | 'n', 0));
        due(8, x.feed(0, 0, 'c' * 0x100000000L | 'e' << 24 | ' ' << 16 | '4' << 8 | ';'));
        due(0, x.law());
        for (int i = 1; i <= 41; i++) {
            due(24 * i, x.feed(0x2020202020202020L, 0x2020202020202020L, 0x0a0a0a0a0a0a0a0aL));
        }
        due(1000, x.feed(0x2020202020202020L, 0x2020202020202020L, 0x4141414141414141L));
        due(1000, x.feed(0x4141414141414141L, 0, 0));
        due(0, x.law());
        due(0, x.count(6));
    }

    private static void promise7() {
        start(7);
        lawFaults();
        lawTooMany();
        lawTooDeep();
        lawStays();
        lawLongest();
        lawValues();
    }

    private static void lawFaults() {
        due(0, fault(""));
        due(0, fault(" \n "));
        due(0, fault("since 0;far 0;"));
        due(0, fault("bar when rust;odd when 1;rule 7 stops 0;since 9;far 999;enough when odd;"));
        due(0, fault("bar\nwhen\n1and rust;rule7stops(1)*2;since0009;far0999;"));
        due(1, fault("when"));
        due(1, fault("?"));
        due(1 + 16 * 2, fault("  Bar"));
        due(1 + 16 * 3, fault("bar"));
        due(1 + 16 * 5, fault("bar  "));
        due(1 + 16 * 4, fault("bar odd"));
        due(1 + 16 * 9, fault("bar when ;"));
        due(1 + 16 * 10, fault("bar when 1"));
        due(1 + 16 * 11, fault("bar when 1 bar when 1;"));
        due(1 + 16 * 9, fault("bar when 12345;"));
        due(0, fault("bar when 1234;"));
        due(1 + 16 * 9, fault("bar when rusty;"));
        due(1 + 16 * 9, fault("bar when abcdefghi;"));
        due(1, fault("barbarbar when 1;"));
        due(1 + 16 * 12, fault("bar when 1<2<3;"));
        due(1 + 16 * 12, fault("bar when 1<2=3;"));
        due(0, fault("bar when (1<2)<3;"));
        due(1 + 16 * 9, fault("bar when -1;"));
        due(1 + 16 * 10, fault("bar when 1);"));
        due(1 + 16 * 11, fault("bar when (1;"));
        due(1 + 16 * 10, fault("bar when ();"));
        due(1 + 16 * 14, fault("bar when 1 and;"));
        due(1 + 16 * 12, fault("bar when not;"));
        due(1 + 16 * 9, fault("bar when finds;"));
        due(1 + 16 * 9, fault("odd when odd;"));
        due(0, fault("enough when odd;"));
        due(1 + 16 * 12, fault("enough when soil;"));
        due(1, fault("barz when 1;"));
        due(1 + 16 * 9, fault("bar when rustz;"));
        due(1 + 16 * 9, fault("bar when agea;"));
        due(1 + 16 * 5, fault("rule x stops 1;"));
        due(4 + 16 * 5, fault("rule 8 stops 1;"));
        due(4 + 16 * 5, fault("rule 9999 x"));
        due(1 + 16 * 5, fault("rule 99999 x"));
        due(1 + 16 * 7, fault("rule 1 when 1;"));
        due(3 + 16 * 20, fault("rule 1 stops 1;rule 01 stops 1;"));
        due(3 + 16 * 14, fault("since 1;far 2;since 1;"));
        due(3 + 16 * 6, fault("far 1;far x"));
        due(3 + 16 * 14, fault("enough when 1;enough"));
        due(4 + 16 * 6, fault("since 10;"));
        due(4 + 16 * 4, fault("far 1000;"));
        due(1 + 16 * 6, fault("since ;"));
        due(1 + 16 * 8, fault("since 3 x"));
        due(1 + 16 * 7, fault("since 3"));
        due(1 + 16 * 14, fault("bar when rust ! ;"));
    }

    private static void lawTooMany() {
        String bar = "bar when 0;";
        String odd = "odd when 0;";
        due(0, fault(bar.repeat(6) + odd.repeat(6)));
        due(5 + 16 * 66, fault(bar.repeat(7)));
        due(5 + 16 * 66, fault(odd.repeat(6) + "odd ?"));
        due(1 + 16 * 66, fault(odd.repeat(6) + "odder"));
        due(5 + 16 * 132, fault(bar.repeat(6) + odd.repeat(7)));
    }

    private static void lawTooDeep() {
        due(0, fault("bar when ((((1))));"));
        due(0, fault("bar when not not not not 1;"));
        due(5 + 16 * 14, fault("bar when (((((1)))));"));
        due(5 + 16 * 14, fault("bar when ((((((1))))));"));
        due(5 + 16 * 29, fault("bar when not not not not not 1;"));
        due(5 + 16 * 29, fault("bar when not not not not not not;"));
        due(5 + 16 * 16, fault("bar when (not(((rust))));"));
        due(5 + 16 * 20, fault("bar when ((((1 and (1)))));"));
        due(5 + 16 * 19, fault("bar when ((((1 or (1)))));"));
        due(5 + 16 * 16, fault("bar when ((((1<(1)))));"));
        due(5 + 16 * 16, fault("bar when ((((1=(1)))));"));
        due(5 + 16 * 16, fault("bar when ((((1+(1)))));"));
        due(5 + 16 * 16, fault("bar when ((((1-(1)))));"));
        due(5 + 16 * 16, fault("bar when ((((1*(1)))));"));
        due(1 + 16 * 14, fault("bar when (((((day)))));"));
        due(1 + 16 * 14, fault("bar when (((((;"));
        due(1 + 16 * 14, fault("bar when ((((("));
        due(0, fault("bar when ((((1)*(1))))<not not not not 2;"));
    }

    private static void lawStays() {
        AxesAtDawn x = dig();
        x.find(0, 0, 10, 8, 0, 1, 0);
        due(0, law(x, "bar when rust;rule 3 stops 1;"));
        due(2, x.each(0));
        due(1 + 16 * 9, law(x, "odd when ?"));
        due(0, x.count(6));
        due(2, x.each(0));
        due(1, x.count(5));
        due(0, law(x, "odd when rust;"));
        due(1, x.each(0));
        due(0, x.count(5));
        due(0, law(x, ""));
        due(0, x.each(0));
        // since and far are 3 and 100 again in a LAW without them
        x.here(5, 0, 7, 1, 1);
        x.here(6, 0, 6, 1, 1);
        x.find(1, 0, 11, 7, 2, 0, 0);
        x.way(0, 1, 101);
        law(x, "since 0;far 500;");
        due(1, x.can(0));
        due(0, fact(x, 0, 16));
        law(x, "odd when 0;");
        due(1 | 1 << 5, x.can(0));
        due(1, fact(x, 0, 16));
        x.way(0, 1, 100);
        due(0, fact(x, 0, 16));
    }

    private static void lawLongest() {
        String bar = "bar when " + "1-".repeat(495) + "1";
        due(1000, (bar + ";").length() - 1);
        due(1 + 16 * 1000, fault(bar + ";"));
        due(0, fault(bar.replaceFirst("1-", "") + ";"));
        due(0, fault("bar when " + "0 or ".repeat(197) + "1;"));
        due(0, fault("bar when " + "1*".repeat(494) + "1;"));
        AxesAtDawn x = dig();
        x.find(0, 0, 10, 8, 0, 1, 0);
        due(0, law(x, "bar when 493=" + "1+".repeat(492) + "1;"));
        due(2, x.each(0));
        due(0, law(x, "odd when 0;".repeat(6) + "bar when 0;".repeat(5) + "bar when " + "not not rust*1+".repeat(50)
                + "0=50;"));
        due(2, x.each(0));
        due(0, law(x, "bar when 1-(1-(1-(1-(1-1<1)*1<2)*1<2)*1<2);"));
    }

    /** The E is barred exactly if it is not 0. */
    private static void lawIs(boolean so, String e) {
        AxesAtDawn x = dig();
        x.find(0, 1, 10, 9, 0, 1 | 4, 42);
        due(0, law(x, "bar when " + e + ";"));
        due(so ? 2 : 0, x.each(0));
    }

    private static void lawValues() {
        lawIs(true, "1");
        lawIs(false, "0");
        lawIs(true, "1 or 0 and 1");
        lawIs(false, "1 or 1 and 0");
        lawIs(true, "0 and 0 or 1");
        lawIs(false, "not 1 or 0");
        lawIs(true, "not 0*5 = 5");
        lawIs(true, "2+3*4 = 14");
        lawIs(true, "(2+3)*4 = 20");
        lawIs(true, "9-3-2 = 4");
        lawIs(true, "2-3 < 0");
        lawIs(false, "3 < 3");
        lawIs(true, "(5 and 7) = 1");
        lawIs(true, "(0 or 7) = 1");
        lawIs(true, "not 7 = 0");
        lawIs(true, "(1 < 2) + (2 = 2) = 2");
        lawIs(true, "2-3");
        lawIs(true, "9999*9999*9999 < 0");
        lawIs(false, "4096*4096*256");
        lawIs(true, "rust and soil and not under");
        lawIs(true, "rust+under+soil+hole+worn+fresh+turned+clean = 2");
        lawIs(true, "age = 200 and layer = 1 and hour = 9 and stone = 42");
        lawIs(true, "first = 1 and alone = 0 and dawn = 3 and others = 1 and twins = 0");
    }

    private static void promise8() {
        start(8);
        AxesAtDawn x = dig();
        due(0, x.present(0, 10, 4));
        due(1, x.present(0, 10, 5));
        due(3, x.present(0, 10, 8));
        due(3, x.present(0, 10, 12));
        due(2, x.present(0, 10, 13));
        due(0, x.present(0, 9, 8));
        due(0, x.present(1, 10, 8));
        due(0, x.present(7, 999, 23));
        due(NONE, x.present(8, 10, 8));
        due(NONE, x.present(-1, 10, 8));
        due(NONE, x.present(0, 1000, 8));
        due(NONE, x.present(0, -1, 8));
        due(NONE, x.present(0, 10, 24));
        due(NONE, x.present(0, 10, -1));
    }

    private static void promise9() {
        start(9);
        AxesAtDawn x = dig();
        for (int mark = 0; mark < 8; mark++) {
            x.find(0, mark % 2, 10, 9, 0, 1 << mark, 10 + mark);
        }
        for (int find = 0; find < 8; find++) {
            for (int mark = 0; mark < 8; mark++) {
                due(find == mark ? 1 : 0, fact(x, find, mark));
            }
        }
        due(100, fact(x, 0, 8));
        due(200, fact(x, 1, 8));
        due(1, fact(x, 1, 9));
        due(9, fact(x, 1, 10));
        due(11, fact(x, 1, 11));
        due(1, fact(x, 0, 12));
        due(1, fact(x, 1, 12));
        due(0, fact(x, 2, 12));
        due(0, fact(x, 3, 12));
        due(0, fact(x, 0, 13));
        due(3, fact(x, 0, 14));
        due(1, fact(x, 0, 15));
        due(0, fact(x, 0, 16));
        due(0, fact(x, 0, 17));
        due(10, fact(x, 0, 18));
        due(0, fact(x, 0, 19));
        x.here(3, 0, 10, 6, 9);
        due(1, fact(x, 0, 14));
        due(2, fact(x, 0, 15));
        x.find(1, 0, 11, 8, 2, 0, 12);
        due(1, fact(x, 8, 13));
        due(2, fact(x, 8, 14));
        due(0, fact(x, 8, 15));
        due(1, fact(x, 8, 17));
        due(11, fact(x, 8, 18));
        due(2, fact(x, 8, 19));
        x.here(2, 1, 11, 2, 3);
        x.here(2, 1, 11, 3, 7);
        due(6, fact(x, 8, 14));
        x.layer(0, 0, 201);
        due(1, fact(x, 0, 12));
        due(0, fact(x, 1, 12));
        x.here(2, 1, 11, 0, 0);
        due(7, fact(x, 8, 14));
        due(THROWS, fact(x, 9, 0));
        due(THROWS, fact(x, -1, 0));
        due(THROWS, fact(x, 0, 20));
        due(THROWS, fact(x, 0, -1));
        due(THROWS, fact(x, MAX, MIN));
    }

    private static void promise10() {
        start(10);
        AxesAtDawn x = dig();
        x.find(0, 0, 10, 9, 0, 1, 0);
        x.find(0, 0, 10, 9, 0, 2, 0);
        x.find(0, 0, 10, 9, 0, 3, 0);
        x.find(0, 0, 10, 9, 0, 4, 0);
        due(0, law(x, "odd when soil;odd when under;bar when 0;bar when rust;"));
        due(2, x.each(0));
        due(1, x.each(1));
        due(2, x.each(2));
        due(1, x.each(3));
        due(0, law(x, "odd when rust;"));
        due(1, x.each(0));
        due(0, x.each(1));
        due(NONE, x.each(4));
        due(NONE, x.each(-1));
    }

    private static void promise11() {
        start(11);
        AxesAtDawn x = dig();
        x.find(0, 0, 10, 9, 0, 1, 0);
        x.find(0, 0, 10, 9, 0, 2, 0);
        due(NONE, x.stops(0, 0));
        due(0, law(x, "rule 0 stops rust;rule 7 stops under*5;"));
        due(1, x.stops(0, 0));
        due(0, x.stops(0, 1));
        due(0, x.stops(7, 0));
        due(1, x.stops(7, 1));
        due(NONE, x.stops(1, 0));
        due(NONE, x.stops(8, 0));
        due(NONE, x.stops(-1, 0));
        due(NONE, x.stops(0, 2));
        due(NONE, x.stops(0, -1));
        due(2, x.count(5));
    }

    /** HAND 0 has FINDS 0, 1, 2 behind an HOUR ALONE, HAND 1 has 3, 4, HAND 2 has 5 behind one. */
    private static AxesAtDawn rows() {
        AxesAtDawn x = dig();
        x.find(0, 0, 10, 9, 0, 1, 1);
        x.find(0, 1, 10, 9, 0, 0, 2);
        x.find(0, 1, 10, 10, 0, 0, 3);
        x.find(0, 0, 10, 9, 1, 2, 4);
        x.find(0, 0, 10, 8, 1, 0, 5);
        x.find(1, 0, 11, 8, 2, 0, 6);
        law(x, "bar when rust;odd when under;");
        return x;
    }

    private static void promise12() {
        start(12);
        AxesAtDawn x = rows();
        int[][] want = {{3, 3, 6, 4}, {2, 0, 6, 4}, {1, 1, 6, 4}, {0, 0, 6, 4}};
        for (int hand = 0; hand < 4; hand++) {
            for (int what = 0; what < 4; what++) {
                due(want[hand][what], x.row(hand, 0, what));
            }
        }
        due(2, x.row(0, 1, 1));
        due(2, x.row(0, 1, 3));
        due(1, x.row(0, 2, 1));
        due(1, x.row(1, 2, 1));
        due(2, x.row(1, 2, 3));
        due(NONE, x.row(10, 0, 0));
        due(NONE, x.row(-1, 0, 0));
        due(NONE, x.row(0, 3, 0));
        due(NONE, x.row(0, -1, 0));
        due(NONE, x.row(0, 0, 4));
        due(NONE, x.row(0, 0, -1));
        due(0, new AxesAtDawn().row(9, 2, 3));
    }

    private static void promise13() {
        start(13);
        AxesAtDawn x = rows();
        // 3 of the 4 of 6 by 3 draws: 4 / 20
        due(1, x.odds(0, 0, 0));
        due(5, x.odds(0, 0, 1));
        due(1, x.odds(1, 0, 0));
        due(1, x.odds(1, 0, 1));
        due(2, x.odds(2, 0, 0));
        due(3, x.odds(2, 0, 1));
        // 2 of the 2 of 6 by 3 draws: 4 / 20
        due(5, x.odds(0, 1, 1));
        // 1 or more of the 2 of 6 by 2 draws: 1 - 6 / 15
        due(3, x.odds(1, 2, 0));
        due(5, x.odds(1, 2, 1));
        due(1, x.odds(9, 2, 0));
        due(1, x.odds(9, 2, 1));
        due(NONE, x.odds(10, 0, 0));
        due(NONE, x.odds(-1, 0, 0));
        due(NONE, x.odds(0, 3, 0));
        due(NONE, x.odds(0, -1, 0));
        due(NONE, x.odds(0, 0, 2));
        due(NONE, x.odds(0, 0, -1));
        due(1, new AxesAtDawn().odds(0, 0, 0));
        due(1, new AxesAtDawn().odds(0, 0, 1));
        AxesAtDawn y = dig();
        for (int i = 0; i < 20; i++) {
            y.find(0, 0, 10, 9, 0, 1, 0);
            y.find(0, 0, 10, 9, 1, 0, 0);
        }
        law(y, "bar when rust;");
        due(1, y.odds(0, 2, 0));
        due(137846528820L, y.odds(0, 2, 1));
    }

    private static void promise14() {
        start(14);
        AxesAtDawn x = new AxesAtDawn();
        due(1, x.luck(5, 1, 1, 1, 0));
        due(2, x.luck(5, 1, 1, 1, 1));
        due(1, x.luck(9, 6, 0, 3, 0));
        due(1, x.luck(9, 6, 0, 3, 1));
        // 0.1 to the sixth, of three: 1 - (1 - 1e-6)^3
        due(2999997000001L, x.luck(1, 6, 6, 3, 0));
        due(1000000000000000000L, x.luck(1, 6, 6, 3, 1));
        due(9, x.luck(9, 1, 1, 1, 0));
        due(10, x.luck(9, 1, 1, 1, 1));
        // 2 or more of 3 by 0.2: 3 * 4 * 8 + 8 = 104 of 1000
        due(13, x.luck(2, 3, 2, 1, 0));
        due(125, x.luck(2, 3, 2, 1, 1));
        // of two such: 1 - (112 / 125)^2
        due(15625 - 12544, x.luck(2, 3, 2, 2, 0));
        due(15625, x.luck(2, 3, 2, 2, 1));
        due(NONE, x.luck(0, 1, 1, 1, 0));
        due(NONE, x.luck(10, 1, 1, 1, 0));
        due(NONE, x.luck(5, 0, 0, 1, 0));
        due(NONE, x.luck(5, 7, 1, 1, 0));
        due(NONE, x.luck(5, 2, 3, 1, 0));
        due(NONE, x.luck(5, 2, -1, 1, 0));
        due(NONE, x.luck(5, 2, 1, 0, 0));
        due(NONE, x.luck(5, 2, 1, 4, 0));
        due(NONE, x.luck(5, 2, 1, 1, 2));
        due(NONE, x.luck(5, 2, 1, 1, -1));
    }

    private static void promise15() {
        start(15);
        AxesAtDawn x = dig();
        x.here(5, 0, 7, 20, 20);
        x.here(6, 0, 6, 20, 20);
        x.here(4, 0, 10, 15, 15);
        x.here(4, 0, 11, 9, 9);
        due(0, x.find(0, 0, 10, 5, 0, 0, 0));
        due(1, x.find(0, 0, 10, 6, 0, 0, 0));
        due(2, x.find(0, 0, 10, 14, 1, 0, 0));
        due(3, x.find(0, 0, 10, 15, 4, 0, 0));
        due(4, x.find(0, 0, 11, 9, 4, 0, 0));
        due(1 << 5, x.can(0));
        due(1 << 5 | 1, x.can(1));
        due(1 << 5 | 3, x.can(2));
        due(1 << 5 | 3, x.can(3));
        due(1 << 4 | 3, x.can(4));
        law(x, "since 4;");
        due(1 << 6 | 1 << 5, x.can(0));
        law(x, "since 0;");
        due(0, x.can(0));
        due(1, x.can(1));
        due(0, x.can(4));
        x.here(7, 0, 10, 5, 5);
        due(0, x.can(1));
        x.here(8, 0, 10, 0, 0);
        due(1 << 8, x.can(1));
        due(NONE, x.can(5));
        due(NONE, x.can(-1));
    }

    private static void promise16() {
        start(16);
        AxesAtDawn x = new AxesAtDawn();
        due(false, x.seen(10, 0, 0));
        due(false, x.seen(-1, 0, 0));
        due(false, x.seen(0, 8, 0));
        due(false, x.seen(0, -1, 0));
        due(false, x.seen(0, 0, 1000));
        due(false, x.seen(0, 0, -1));
        due(0, x.count(2));
        for (int i = 0; i < 20; i++) {
            due(true, x.seen(i % 10, i % 8, 999 * (i % 2)));
        }
        due(false, x.seen(0, 0, 0));
        due(20, x.count(2));
    }

    private static void promise17() {
        start(17);
        AxesAtDawn x = dig();
        x.find(0, 0, 10, 14, 1, 0, 0);
        due(3, x.can(0));
        x.here(5, 0, 8, 1, 1);
        due(3 | 1 << 5, x.may(0));
        x.seen(7, 0, 10);
        due(3 | 1 << 5, x.may(0));
        x.seen(5, 0, 7);
        due(1 << 5, x.may(0));
        x.seen(0, 1, 10);
        x.seen(0, 0, 6);
        x.seen(0, 0, 11);
        due(1 << 5, x.may(0));
        x.seen(0, 0, 10);
        due(1 << 5 | 1, x.may(0));
        law(x, "since 2;");
        due(1, x.may(0));
        due(NONE, x.may(1));
        due(NONE, x.may(-1));
    }

    private static void promise18() {
        start(18);
        AxesAtDawn x = dig();
        x.find(0, 0, 10, 5, 0, 1, 0);
        x.find(0, 0, 10, 9, 0, 0, 0);
        due(0, x.put(0));
        due(0, x.put(1));
        x.seen(0, 0, 10);
        due(0, x.put(0));
        due(1, x.put(1));
        law(x, "bar when rust;");
        due(1, x.put(0));
        due(0, x.can(0));
        law(x, "odd when rust;");
        due(0, x.put(0));
        due(NONE, x.put(2));
        due(NONE, x.put(-1));
    }

    private static void promise19() {
        start(19);
        AxesAtDawn x = new AxesAtDawn();
        due(1024, x.stories(0));
        for (int what = 1; what < 5; what++) {
            due(0, x.stories(what));
        }
        due(NONE, x.stories(5));
        due(NONE, x.stories(-1));
        AxesAtDawn y = dig();
        y.way(0, 1, 500);
        y.find(0, 0, 10, 14, 1, 0, 7);
        y.find(1, 0, 11, 9, 2, 0, 7);
        y.here(2, 0, 9, 4, 4);
        // TWINS: one of 0, 1, 2 is enough (2 may have put either)
        due(7, y.can(0));
        due(4, y.can(1));
        due(1024 - 128, y.stories(0));
        due(1, y.stories(1));
        due(1, y.stories(2));
        due(0, y.stories(3));
        due(7, y.stories(4));
        y.seen(1, 0, 10);
        due(512, y.stories(0));
        due(2, y.stories(2));
        due(2, y.stories(3));
        due(2, y.stories(4));
        y.here(6, 2, 20, 3, 8);
        y.find(2, 4, 20, 8, 6, 1, 9);
        law(y, "bar when rust;");
        due(256, y.stories(0));
        due(2, y.stories(1));
        due(2 | 64, y.stories(2));
        due(2 | 64, y.stories(3));
        y.mark(0, false);
        for (int hand = 0; hand < 10; hand++) {
            y.here(hand, 2, 30 + 10 * hand, 0, 5);
            y.find(2, 4, 30 + 10 * hand, 4, hand, 1, 20 + hand);
        }
        due(1, y.stories(0));
        due(10, y.stories(1));
        due(1023, y.stories(2));
        due(1023, y.stories(3));
        due(1023, y.stories(4));
        y.mark(0, true);
        due(256, y.stories(0));
        y.find(2, 4, 20, 3, 6, 1, 9);
        due(0, y.stories(0));
        due(NONE, y.stories(1));
        due(NONE, y.stories(2));
        due(NONE, y.stories(3));
        due(NONE, y.stories(4));
    }

    /** FINDS 0 to 5, of HANDS 0, 0, 1, 1, 2, 2, at SITES 0, 0, 0, 0, 1, 1. */
    private static AxesAtDawn leaning() {
        AxesAtDawn x = dig();
        x.find(0, 0, 10, 5, 0, 1, 1);
        x.find(0, 1, 10, 5, 0, 2, 2);
        x.find(0, 0, 10, 9, 1, 1, 3);
        x.find(0, 0, 10, 9, 1, 0, 4);
        x.find(1, 0, 11, 7, 2, 1, 5);
        x.find(1, 0, 11, 7, 2, 0, 6);
        return x;
    }

    private static void promise20() {
        start(20);
        AxesAtDawn x = leaning();
        due(true, x.ground(0, 1, 0));
        due(true, x.ground(0, 63, 4095));
        due(true, x.ground(0, 0, 1));
        due(false, x.ground(0, 1, 0));
        due(true, x.ground(11, 1, 0));
        due(false, x.ground(12, 1, 0));
        due(false, x.ground(-1, 1, 0));
        due(false, x.ground(1, 64, 0));
        due(false, x.ground(1, -1, 0));
        due(false, x.ground(1, 1L << 40, 0));
        due(false, x.ground(1, Long.MIN_VALUE, 0));
        due(false, x.ground(1, 0, 4096));
        due(false, x.ground(1, 1, -1));
        due(false, x.ground(1, 0, 0));
        due(4, x.count(4));
        due(true, new AxesAtDawn().ground(0, 0, 2));
        due(false, new AxesAtDawn().ground(0, 1, 0));
    }

    private static void promise21() {
        start(21);
        AxesAtDawn x = leaning();
        x.ground(0, 1 | 4, 0);
        x.ground(1, 16, 1);
        x.ground(2, 0, 2);
        x.ground(3, 0, 16);
        x.ground(4, 0, 8);
        x.ground(5, 0, 32);
        x.ground(5, 32, 0);
        due(1 | 2 | 4 | 32, x.standing(NONE));
        due(32, x.standing(0));
        due(32, x.standing(1));
        due(1, x.standing(2));
        due(1 | 2 | 4 | 32, x.standing(9));
        due(NONE, x.standing(10));
        due(NONE, x.standing(-2));
        // a chain told backwards
        AxesAtDawn y = leaning();
        for (int claim = 0; claim < 11; claim++) {
            y.ground(claim, 0, 1 << claim + 1);
        }
        due(0, y.standing(NONE));
        y.ground(11, 1, 0);
        due(4095, y.standing(NONE));
        due(0, y.standing(0));
    }

    private static void promise22() {
        start(22);
        AxesAtDawn x = leaning();
        due(200, x.oldest(NONE));
        due(150, x.oldest(0));
        due(200, x.oldest(2));
        due(200, x.oldest(9));
        due(NONE, x.oldest(10));
        due(NONE, x.oldest(-2));
        AxesAtDawn y = dig();
        y.layer(0, 0, 0);
        due(NONE, y.oldest(NONE));
        y.find(0, 0, 10, 9, 0, 0, 0);
        due(0, y.oldest(NONE));
        due(NONE, y.oldest(0));
    }

    private static void promise23() {
        start(23);
        AxesAtDawn x = leaning();
        x.ground(0, 2 | 4 | 8, 0);
        due(1, x.cut(0, 0));
        due(1, x.cut(0, 1));
        due(NONE, x.cut(0, 2));
        x.ground(0, 4 | 16, 0);
        due(2, x.cut(0, 1));
        x.ground(0, 32, 0);
        due(2, x.cut(0, 0));
        due(2, x.cut(0, 1));
        due(5, x.cut(0, 2));
        due(NONE, x.cut(0, 3));
        x.ground(1, 1, 0);
        x.ground(1, 8, 0);
        x.ground(1, 16, 0);
        due(3, x.cut(1, 0));
        due(0, x.cut(1, 1));
        due(3, x.cut(1, 2));
        due(4, x.cut(1, 3));
        x.ground(2, 0, 1 << 1);
        x.ground(2, 2, 0);
        due(NONE, x.cut(2, 0));
        due(NONE, x.cut(2, 1));
        due(NONE, x.cut(3, 0));
        due(NONE, x.cut(12, 0));
        due(NONE, x.cut(-1, 0));
        due(NONE, x.cut(0, 4));
        due(NONE, x.cut(0, -1));
        x.ground(4, 0, 3);
        due(NONE, x.cut(5, 0));
        // 2 and 5 fell CLAIM 0, and with it CLAIM 4
        due(2, x.cut(4, 0));
        due(2, x.cut(4, 1));
        due(5, x.cut(4, 2));
    }

    private static void promise24() {
        start(24);
        AxesAtDawn x = leaning();
        due(0, x.doubted(0));
        law(x, "bar when 0;odd when under;");
        due(0, x.doubted(0));
        due(1, x.doubted(1));
        // FIND 5 was put by HAND 2: all its FINDS are DOUBTED
        x.seen(2, 1, 11);
        due(1, x.doubted(4));
        due(1, x.doubted(5));
        due(0, x.doubted(2));
        law(x, "bar when rust and alone and dawn;");
        due(1, x.doubted(4));
        due(0, x.doubted(0));
        // FIND 0 is put by nobody: no STORY, so that only what is BARRED is DOUBTED
        law(x, "bar when rust;");
        due(0, x.stories(0));
        due(1, x.doubted(0));
        due(0, x.doubted(1));
        due(1, x.doubted(4));
        due(0, x.doubted(5));
        due(NONE, x.doubted(6));
        due(NONE, x.doubted(-1));
    }

    private static void promise25() {
        start(25);
        AxesAtDawn x = leaning();
        due(4095, x.settled());
        x.ground(0, 1, 0);
        x.ground(1, 2, 0);
        x.ground(2, 1, 0);
        x.ground(2, 2, 0);
        x.ground(3, 1 | 2, 0);
        x.ground(4, 1, 1 << 4);
        due(4095, x.settled());
        law(x, "odd when rust;");
        // DOUBTED: 0, 2, 4
        due(4095 & ~(1 | 8), x.settled());
        law(x, "odd when rust or under;");
        due(4095 & ~(1 | 2 | 4 | 8), x.settled());
    }

    private static void promise26() {
        start(26);
        AxesAtDawn x = leaning();
        law(x, "odd when rust;");
        x.ground(0, 1, 0);
        x.ground(1, 16, 0);
        x.ground(2, 1 | 16, 0);
        x.ground(3, 1, 0);
        x.ground(3, 16, 0);
        due(8, Integer.bitCount(x.settled()));
        due(9, x.again(0, NONE));
        due(9, x.again(1, NONE));
        due(8, x.again(7, NONE));
        due(12, x.again(0, 1));
        due(12, x.again(1, 0));
        due(9, x.again(0, 7));
        due(NONE, x.again(0, 0));
        due(NONE, x.again(8, NONE));
        due(NONE, x.again(-1, NONE));
        due(NONE, x.again(-1, 0));
        due(NONE, x.again(0, 8));
        due(NONE, x.again(0, -2));
        AxesAtDawn z = leaning();
        law(z, "odd when rust;");
        z.ground(0, 1 | 16, 0);
        z.ground(0, 4, 0);
        // without 0 and 2, or with 2, it is SETTLED, but not with 0 alone
        due(11, z.again(0, NONE));
        due(11, z.again(1, NONE));
        z.ground(1, 4 | 16, 0);
        z.ground(1, 1, 0);
        z.ground(1, 2 | 4, 0);
        due(11, z.again(0, NONE));
        due(12, z.again(0, 1));
        AxesAtDawn y = dig();
        law(y, "odd when rust;");
        for (int i = 0; i < 10; i++) {
            y.find(0, 0, 10, 9, 0, 1, i);
        }
        y.find(0, 0, 10, 9, 0, 0, 50);
        due(12, y.again(0, NONE));
        y.ground(5, 1023, 0);
        due(12, y.again(0, NONE));
        due(11, y.again(1, NONE));
        y.find(0, 0, 10, 9, 0, 1, 51);
        due(NONE, y.again(0, NONE));
        due(NONE, y.again(1, 0));
        due(11, y.again(1, NONE));
    }

    private static void promise27() {
        start(27);
        AxesAtDawn x = leaning();
        due(12, x.where(1, 0));
        due(0, x.where(1, 1));
        due(0, x.where(2, 1));
        due(1, x.where(2, 2));
        law(x, "odd when rust;");
        x.ground(0, 16, 0);
        due(12, x.where(1, 0));
        due(1, x.where(1, 1));
        due(12, x.where(2, 0));
        due(0, x.where(2, 1));
        due(1, x.where(2, 2));
        x.ground(1, 1, 0);
        due(11, x.where(1, 0));
        due(0, x.where(1, 1));
        due(12, x.where(2, 0));
        due(NONE, x.where(1, 2));
        due(NONE, x.where(1, 3));
        due(NONE, x.where(2, 3));
        due(NONE, x.where(1, -1));
        due(NONE, x.where(0, 0));
        due(NONE, x.where(3, 0));
        AxesAtDawn y = dig();
        law(y, "odd when rust;");
        for (int i = 0; i < 11; i++) {
            y.find(0, 0, 10, 9, 0, 1, i);
        }
        due(1, y.where(1, 1));
        due(1, y.where(2, 1));
        due(2, y.where(2, 2));
        // 11 at SITE 0 and 11 each at all others
        AxesAtDawn z = new AxesAtDawn();
        law(z, "odd when 1;");
        for (int site = 0; site < 3; site++) {
            z.layer(site, 0, 1);
            z.here(site, site, site, 0, 5);
            for (int i = 0; i < 11; i++) {
                z.find(site, 0, site, 0, site, 0, 0);
            }
        }
        due(3, z.where(1, 1));
        due(3, z.where(2, 1));
        due(4, z.where(2, 2));
        promise27AllFull();
    }

    /** With 6 at each of 6 SITES and 2 at one, most pairs have more than 10. */
    private static void promise27AllFull() {
        AxesAtDawn x = new AxesAtDawn();
        law(x, "odd when 1;");
        for (int site = 0; site < 7; site++) {
            x.layer(site, 0, 1);
            x.here(site, site, site, 0, 5);
            for (int i = 0; i < (site == 3 ? 2 : 6); i++) {
                x.find(site, 0, site, 0, site, 0, 0);
            }
        }
        due(NONE, x.again(0, 1));
        due(12, x.again(0, 3));
        due(0, x.where(2, 1));
        due(3, x.where(2, 2));
    }

    private static void promise28() {
        start(28);
        AxesAtDawn x = new AxesAtDawn();
        due(0, x.rules(0));
        due(0, x.rules(1));
        due(NONE, x.rules(2));
        due(NONE, x.rules(-1));
        AxesAtDawn y = dig();
        y.find(0, 0, 10, 9, 0, 1, 0);
        y.find(0, 0, 10, 9, 0, 2, 0);
        y.find(0, 0, 10, 9, 0, 4, 0);
        y.find(0, 0, 10, 5, 0, 8, 0);
        due(0, law(y, "odd when 1;rule 1 stops rust;rule 2 stops under;rule 3 stops soil;"));
        due(3, y.rules(0));
        due(2 | 4 | 8, y.rules(1));
        law(y, "odd when 1;rule 1 stops rust;rule 2 stops under;rule 3 stops soil;rule 7 stops soil+rust;");
        due(2, y.rules(0));
        due(4 | 128, y.rules(1));
        law(y, "odd when 1;rule 0 stops rust;rule 2 stops under;rule 6 stops 1;rule 7 stops 1;");
        due(1, y.rules(0));
        due(64, y.rules(1));
        law(y, "odd when 1;rule 0 stops rust;rule 2 stops under;");
        due(NONE, y.rules(0));
        due(NONE, y.rules(1));
        law(y, "odd when rust or hole;rule 0 stops rust;rule 2 stops under;");
        due(1, y.rules(1));
        // nobody CAN have put the one that is DOUBTED
        law(y, "odd when hole;");
        due(0, y.rules(0));
        due(0, y.rules(1));
    }

    private static void promise29() {
        start(29);
        AxesAtDawn x = new AxesAtDawn();
        due(false, x.paper(-1));
        due(false, x.paper(1000));
        due(0, x.count(3));
        for (int i = 0; i < 40; i++) {
            due(true, x.paper(i % 2 == 0 ? 999 : 0));
        }
        due(false, x.paper(5));
        due(40, x.count(3));
        law(x, "enough when papers = 40;");
        due(999, x.enough());
        law(x, "enough when papers = 20;");
        due(0, x.enough());
    }

    private static void promise30() {
        start(30);
        AxesAtDawn x = leaning();
        due(NONE, x.enough());
        String[] texts = {"0", "1", "day = 999", "day*day = 625", "finds", "5 < finds", "finds = 7", "barred = 2",
            "barred = 3", "odd", "1 < odd", "most = 2", "3 < most", "dawns", "0 < pairs", "papers", "1 < papers",
            "papers = 2 and day < 20"};
        int[] days = {NONE, 0, 999, 25, 10, 11, NONE, 10, 11, 10, NONE, 10, NONE, 11, NONE, 3, 20, NONE};
        x.paper(20);
        x.paper(3);
        for (int i = 0; i < texts.length; i++) {
            due(0, law(x, "bar when rust;odd when rust or under;enough when " + texts[i] + ";"));
            due(days[i], x.enough());
        }
        AxesAtDawn y = dig();
        y.way(0, 1, 500);
        y.find(0, 0, 10, 9, 0, 0, 1);
        y.find(0, 0, 10, 9, 0, 0, 1);
        y.find(1, 0, 11, 7, 2, 0, 1);
        law(y, "enough when pairs = 2;");
        due(11, y.enough());
        law(y, "enough when pairs = 1;");
        due(NONE, y.enough());
        law(y, "enough when 2 < pairs;");
        due(NONE, y.enough());
        y.here(2, 1, 12, 0, 3);
        y.find(1, 0, 12, 1, 2, 0, 1);
        law(y, "enough when pairs = 4;");
        due(12, y.enough());
        law(y, "enough when dawns = 4;");
        due(12, y.enough());
        law(y, "enough when dawns = 3 and finds = 3;");
        due(11, y.enough());
        law(y, "enough when most = 3;");
        due(NONE, y.enough());
        law(y, "enough when finds = 4 and most = 2;");
        due(12, y.enough());
        // TWINS bar a FIND from its own DAY on, whenever the other one came
        law(y, "bar when twins;enough when barred;");
        due(10, y.enough());
    }

    private static void promise31() {
        start(31);
        AxesAtDawn x = dig();
        due(false, x.mark(4, false));
        due(false, x.mark(-1, false));
        due(false, x.mark(-1, true));
        due(false, x.mark(0, true));
        x.find(0, 0, 10, 9, 0, 0, 0);
        x.ground(0, 1, 0);
        due(true, x.mark(2, false));
        x.find(0, 0, 10, 10, 0, 0, 0);
        x.here(5, 5, 5, 5, 5);
        x.seen(1, 1, 1);
        x.paper(4);
        x.ground(1, 2, 0);
        x.ground(0, 2, 0);
        due(true, x.mark(0, false));
        x.paper(5);
        due(true, x.mark(3, false));
        due(true, x.mark(0, true));
        due(1, x.count(3));
        due(false, x.mark(3, true));
        due(true, x.mark(0, true));
        due(true, x.mark(2, true));
        due(1, x.count(0));
        due(3, x.count(1));
        due(0, x.count(2));
        due(0, x.count(3));
        due(1, x.count(4));
        due(0, x.present(5, 5, 5));
        due(1, x.standing(NONE));
        due(false, x.mark(0, true));
        due(true, x.mark(2, true));
        // laid anew, 2 lies behind 1
        due(true, x.mark(1, false));
        x.paper(1);
        due(true, x.mark(2, false));
        due(true, x.mark(1, true));
        due(false, x.mark(2, true));
        due(0, x.count(3));
        due(4, x.count(7));
        law(x, "bar when rust;rule 1 stops 1;");
        x.mark(1, true);
        due(1, x.count(5));
        due(true, x.here(0, 3, 9, 1, 1));
        x.mark(1, true);
        due(true, x.here(0, 4, 9, 1, 1));
    }

    /** HAND 1 ALONE at SITE 0 for all HOURS of DAY 3, HAND 2 with 3 at SITE 1 on DAY 4. */
    private static AxesAtDawn known() {
        AxesAtDawn x = new AxesAtDawn();
        x.layer(0, 0, 50);
        x.layer(0, 3, 90);
        x.layer(1, 2, 70);
        x.here(1, 0, 3, 0, 23);
        x.here(2, 1, 4, 0, 23);
        x.here(3, 1, 4, 0, 23);
        return x;
    }

    private static void promise32() {
        start(32);
        AxesAtDawn x = known();
        due(true, x.skill(0, 0, 0));
        due(true, x.skill(9, 9, 9));
        due(false, x.skill(10, 0, 0));
        due(false, x.skill(-1, 0, 0));
        due(false, x.skill(1, 10, 0));
        due(false, x.skill(1, -1, 0));
        due(false, x.skill(1, 0, 10));
        due(false, x.skill(1, 0, -1));
        due(0, x.world(5, 2));
        due(true, x.skill(1, 0, 9));
        due(9, x.world(5, 2));
        due(0, x.world(5, 1));
        due(true, x.skill(1, 9, 0));
        due(0, x.world(5, 2));
        due(0, x.world(5, 0));
    }

    private static void promise33() {
        start(33);
        AxesAtDawn x = known();
        x.skill(2, 9, 0);
        due(0, x.world(5, 0));
        due(true, x.wealth(1, 2, 9));
        due(true, x.world(5, 0) > 10);
        int found = x.world(5, 0);
        due(false, x.wealth(1, 2, 10));
        due(false, x.wealth(1, 2, -1));
        due(false, x.wealth(1, 3, 1));
        due(false, x.wealth(1, 10, 1));
        due(false, x.wealth(1, -1, 1));
        due(false, x.wealth(8, 2, 1));
        due(false, x.wealth(-1, 2, 1));
        due(found, x.world(5, 0));
        x.layer(1, 2, 71);
        due(found, x.world(5, 0));
        due(71, x.world(5, 4));
        due(true, x.wealth(1, 2, 0));
        due(0, x.world(5, 0));
    }

    private static void promise34() {
        start(34);
        AxesAtDawn x = known();
        x.skill(2, 9, 0);
        x.wealth(1, 2, 9);
        due(true, x.shows(0, 0, 9));
        due(true, x.shows(7, 9, 0));
        due(false, x.shows(8, 0, 0));
        due(false, x.shows(-1, 0, 0));
        due(false, x.shows(0, 10, 0));
        due(false, x.shows(0, -1, 0));
        due(false, x.shows(0, 0, 10));
        due(false, x.shows(0, 0, -1));
        int clean = 0;
        for (int k = 0; k < x.world(5, 0); k++) {
            due(0, x.found(5, k, 1) & 127);
            clean += x.found(5, k, 1) >> 7;
        }
        due(true, clean > 5);
        AxesAtDawn y = known();
        y.skill(1, 9, 9);
        y.shows(0, 0, 9);
        int rusty = 0;
        for (int k = 0; k < y.world(5, 1); k++) {
            due(0, y.found(5, k, 1) & 254);
            rusty += y.found(5, k, 1);
        }
        due(true, rusty > 5);
    }

    private static int draw(long[] g) {
        g[0] = (g[0] * 1103515245L + 12345L) % 2147483648L;
        return (int) (g[0] / 65536 % 10);
    }

    private static void promise35() {
        start(35);
        AxesAtDawn x = new AxesAtDawn();
        for (int what = 0; what < 3; what++) {
            due(0, x.world(0, what));
        }
        due(NONE, x.world(0, 3));
        due(NONE, x.world(0, 4));
        due(NONE, x.world(-1, 0));
        due(NONE, x.world(10000, 0));
        due(NONE, x.world(0, 5));
        due(NONE, x.world(0, -1));
        // one HOUR, ALONE: DRAWS told one by one
        x.here(4, 0, 0, 7, 7);
        x.layer(0, 2, 11);
        x.layer(0, 5, 22);
        x.skill(4, 9, 9);
        x.wealth(0, 2, 9);
        x.wealth(0, 5, 9);
        for (int seed = 0; seed < 60; seed++) {
            long[] g = {seed};
            boolean put = draw(g) < 9;
            int layer = draw(g) % 2 == 0 ? 2 : 5;
            boolean found = draw(g) < 9 && (put || draw(g) < 9);
            due(found && !put ? 1 : 0, x.world(seed, 0));
            due(found && put ? 1 : 0, x.world(seed, 1));
            due(!found && put ? 1 : 0, x.world(seed, 2));
            due(found ? 4 : NONE, x.world(seed, 3));
            due(found ? layer == 2 ? 11 : 22 : NONE, x.world(seed, 4));
            due(found ? layer : NONE, x.found(seed, 0, 2));
        }
        for (int seed = 0; seed < 9; seed++) {
            due(NONE, x.world(seed, 5));
        }
        // without a LAYER nothing is drawn for one that would be put, nor sought
        AxesAtDawn y = new AxesAtDawn();
        y.here(4, 0, 0, 7, 9);
        y.skill(4, 9, 9);
        due(0, y.world(3, 1) + y.world(3, 0) + y.world(3, 2));
    }

    private static void promise36() {
        start(36);
        AxesAtDawn x = new AxesAtDawn();
        x.here(4, 0, 0, 7, 7);
        x.layer(0, 2, 11);
        x.skill(4, 9, 9);
        x.shows(0, 0, 5);
        x.shows(3, 0, 9);
        x.shows(7, 9, 1);
        law(x, "bar when rust and hole;odd when hole and first and alone and dawn = 0 and others = 0"
                + " and twins = 0 and hour = 7 and age = 11 and layer = 2;");
        for (int seed = 0; seed < 60; seed++) {
            long[] g = {seed};
            boolean put = draw(g) < 9;
            draw(g);
            if (!put || draw(g) == 9) {
                due(NONE, x.found(seed, 0, 0));
                continue;
            }
            int[] shows = {5, 0, 0, 9, 0, 0, 0, 1};
            int marks = 0;
            for (int m = 0; m < 8; m++) {
                marks |= draw(g) < shows[m] ? 1 << m : 0;
            }
            int ten = draw(g);
            due(1, x.found(seed, 0, 0));
            due(marks, x.found(seed, 0, 1));
            due(2, x.found(seed, 0, 2));
            due(4, x.found(seed, 0, 3));
            due(ten * 10 + draw(g), x.found(seed, 0, 4));
            due((marks & 8) == 0 ? 0 : (marks & 1) == 1 ? 2 : 1, x.found(seed, 0, 5));
            due(NONE, x.found(seed, 1, 0));
        }
        due(NONE, x.found(-1, 0, 0));
        due(NONE, x.found(10000, 0, 0));
        due(NONE, x.found(1, -1, 0));
        due(NONE, x.found(1, 0, 6));
        due(NONE, x.found(1, 0, -1));
        due(NONE, x.found(1, MAX, 0));
        // first: by what was FOUND ahead in this WORLD, not by FINDS told
        AxesAtDawn y = known();
        y.find(0, 3, 3, 0, 1, 0, 0);
        y.skill(1, 9, 9);
        law(y, "bar when first;");
        due(2, y.found(1, 0, 5));
        due(1, y.found(1, 0, 3));
        int oldest = y.found(1, 0, 2);
        for (int k = 1; k < y.world(1, 1); k++) {
            due(y.found(1, k, 2) > oldest ? 2 : 0, y.found(1, k, 5));
            oldest = Math.max(oldest, y.found(1, k, 2));
        }
        promise36Facts();
        promise36Order();
    }

    /** A FOUND one has the STONE, the LAYER and the HOUR that the LAW asks for. */
    private static void promise36Facts() {
        AxesAtDawn x = known();
        x.way(0, 1, 999);
        x.skill(1, 9, 9);
        law(x, "bar when stone < 30;odd when layer = 3;");
        int barred = 0;
        for (int k = 0; k < x.world(4, 1); k++) {
            int due = x.found(4, k, 4) < 30 ? 2 : x.found(4, k, 2) == 3 ? 1 : 0;
            due(due, x.found(4, k, 5));
            barred += due / 2;
        }
        due(true, barred > 0);
        // all are FOUND one an HOUR, ALONE, from 0 on: dawn is the HOUR
        AxesAtDawn y = known();
        y.skill(2, 9, 0);
        y.skill(3, 9, 0);
        y.wealth(1, 2, 9);
        law(y, "bar when others = 1 and not alone and dawn = 0 and twins = 0;");
        due(y.world(4, 0), y.rates(5, 1) - y.rates(4, 1));
        y.skill(1, 9, 9);
        law(y, "bar when others = 0 and alone and dawn = hour;");
        due(y.rates(5, 3), y.rates(5, 4));
        due(0, y.rates(5, 1));
        // FINDS told with the same STONE are no TWINS of what is FOUND
        y.way(0, 1, 999);
        law(y, "bar when twins;");
        for (int stone = 0; stone < 40; stone++) {
            y.find(1, 2, 4, 5, 2, 0, stone);
        }
        due(0, y.rates(20, 4));
    }

    /** What was put first at a SITE is FOUND first, each out of its own LAYER. */
    private static void promise36Order() {
        AxesAtDawn x = new AxesAtDawn();
        for (int layer = 0; layer < 10; layer++) {
            x.layer(7, layer, layer);
        }
        x.here(1, 7, 0, 0, 23);
        x.here(2, 7, 1, 0, 23);
        x.skill(1, 0, 5);
        x.skill(2, 9, 0);
        for (int seed = 0; seed < 40; seed++) {
            long[] g = {seed};
            int[] layers = new int[24];
            int put = 0;
            for (int hour = 0; hour < 24; hour++) {
                if (draw(g) < 5 && put < 9) {
                    layers[put++] = draw(g);
                }
                for (int i = put > 0 ? 2 : 0; i < 3; i++) {
                    draw(g);
                }
            }
            due(Math.min(put, x.world(seed, 1)), x.world(seed, 1));
            due(put, x.world(seed, 1) + x.world(seed, 2));
            for (int k = 0; k < x.world(seed, 1); k++) {
                due(layers[k], x.found(seed, k, 2));
                due(2, x.found(seed, k, 3));
            }
        }
    }

    private static void promise37() {
        start(37);
        AxesAtDawn x = known();
        x.skill(1, 6, 3);
        x.skill(2, 5, 9);
        x.wealth(0, 0, 4);
        x.wealth(1, 2, 7);
        x.shows(1, 3, 8);
        x.shows(2, 5, 2);
        law(x, "bar when under;odd when soil;");
        int[] all = new int[6];
        for (int seed = 0; seed < 20; seed++) {
            for (int k = 0; x.found(seed, k, 0) != NONE; k++) {
                int base = x.found(seed, k, 0) * 3;
                all[base]++;
                all[base + 1] += x.found(seed, k, 5) == 2 ? 1 : 0;
                all[base + 2] += x.found(seed, k, 5) == 1 ? 1 : 0;
            }
            for (int what = 0; what < 6; what++) {
                due(all[what], x.rates(seed + 1, what));
            }
        }
        due(true, all[1] > 0 && all[2] > 0 && all[4] > 0 && all[5] > 0);
        due(NONE, x.rates(0, 0));
        due(NONE, x.rates(-1, 0));
        due(NONE, x.rates(21, 0));
        due(NONE, x.rates(1, 6));
        due(NONE, x.rates(1, -1));
        law(x, "");
        due(0, x.rates(20, 1));
        due(all[0], x.rates(20, 0));
    }

    private static void promise38() {
        start(38);
        AxesAtDawn x = known();
        due(0, thrown(() -> x.parted(1, 0)));
        due(0, thrown(() -> x.parted(20, 1)));
        x.skill(1, 9, 9);
        x.shows(4, 0, 5);
        x.shows(6, 0, 5);
        int[] by = new int[8];
        for (int seed = 0; seed < 3; seed++) {
            for (int k = 0; x.found(seed, k, 0) != NONE; k++) {
                for (int m = 0; m < 8; m++) {
                    by[m] += x.found(seed, k, 1) >> m & 1;
                }
            }
        }
        due(by[4] >= by[6] ? 4 : 6, thrown(() -> x.parted(3, 0)));
        due(Math.max(by[4], by[6]), thrown(() -> x.parted(3, 1)));
        for (int m = 0; m < 8; m++) {
            for (int i = 0; i < 8; i++) {
                x.shows(i, 0, i == m ? 9 : 1);
            }
            due(m, thrown(() -> x.parted(20, 0)));
        }
        // all MARKS on what LAY there alone: below 0, the first of the least bad
        AxesAtDawn y = known();
        y.skill(2, 9, 0);
        y.wealth(1, 2, 9);
        for (int m = 0; m < 8; m++) {
            y.shows(m, m == 5 ? 3 : 9, 0);
        }
        due(5, thrown(() -> y.parted(20, 0)));
        due(true, thrown(() -> y.parted(20, 1)) < -20);
        due(THROWS, thrown(() -> x.parted(0, 0)));
        due(THROWS, thrown(() -> x.parted(21, 0)));
        due(THROWS, thrown(() -> x.parted(-1, 0)));
        due(THROWS, thrown(() -> x.parted(1, 2)));
        due(THROWS, thrown(() -> x.parted(1, -1)));
    }

    private static void promise39() {
        start(39);
        AxesAtDawn x = leaning();
        x.seen(0, 0, 0);
        x.paper(0);
        x.paper(0);
        x.ground(0, 1, 0);
        x.ground(0, 1, 0);
        x.ground(1, 1, 0);
        law(x, "rule 0 stops 1;rule 7 stops 0;");
        feed(x, "since");
        int[] want = {6, 3, 1, 2, 3, 2, 5, 4};
        for (int what = 0; what < 8; what++) {
            due(want[what], x.count(what));
        }
        due(NONE, x.count(8));
        due(NONE, x.count(-1));
        due(NONE, x.count(MAX));
    }

    public static void main(String[] args) {
        promise1();
        promise2();
        promise3();
        promise4();
        promise5();
        promise6();
        promise7();
        promise8();
        promise9();
        promise10();
        promise11();
        promise12();
        promise13();
        promise14();
        promise15();
        promise16();
        promise17();
        promise18();
        promise19();
        promise20();
        promise21();
        promise22();
        promise23();
        promise24();
        promise25();
        promise26();
        promise27();
        promise28();
        promise29();
        promise30();
        promise31();
        promise32();
        promise33();
        promise34();
        promise35();
        promise36();
        promise37();
        promise38();
        promise39();
        System.out.println(wrong == 0 ? "all promises are kept" : wrong + " answers are not as due");
        if (wrong != 0) {
            System.exit(1);
        }
    }
}
