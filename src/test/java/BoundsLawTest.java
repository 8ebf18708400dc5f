/**
 * Each sentence of the document about the TAPE and the LAW (part 2 and promises 6, 7, 10, 11) that names a bound:
 * the last that is taken, the first that is refused, the empty, the full, the wrap-around, and what stays.
 */
public final class BoundsLawTest {
    private static final int NONE = Bench.NONE;
    private static final int MIN = Bench.MIN;
    private static final int MAX = Bench.MAX;
    private static final Bench.Calls DIG = Bench.DIG;
    private static final String[] FACTS = {"rust", "under", "soil", "hole", "worn", "fresh", "turned", "clean", "age",
        "layer", "hour", "stone", "first", "alone", "dawn", "others", "twins"};
    private static final String[] DAY_FACTS = {"day", "finds", "barred", "odd", "pairs", "most", "dawns", "papers"};
    private static final String[] OTHER_WORDS = {"bar", "when", "rule", "stops", "since", "far", "enough", "and", "or",
        "rus", "rustt", "ru", "none", "put", "site", "hand"};

    private static void due(long want, long got) {
        Bench.due(want, got);
    }

    private static int fault(String text) {
        return Bench.law(new AxesAtDawn(), text);
    }

    /** The FAULT that is due at the place of the first sign of what stands behind the first |. */
    private static void faultAt(int kind, String text) {
        due(kind + 16 * text.indexOf('|'), fault(text.replaceFirst("[|]", "")));
    }

    private static void fine(String text) {
        due(0, fault(text));
    }

    private static void promise6Signs() {
        Bench.says(6, "others than 10 and 32 .. 126 are left out: how many there are");
        for (int sign = 0; sign < 256; sign++) {
            boolean taken = sign == 10 || sign >= 32 && sign <= 126;
            for (int place = 0; place < 24; place += 1 + sign % 5) {
                long eight = (long) sign << 8 * (7 - place % 8);
                long[] v = {0, 0, 0};
                v[place / 8] = eight;
                AxesAtDawn x = new AxesAtDawn();
                due(taken ? 1 : 0, x.feed(v[0], v[1], v[2]));
                due(taken ? 1 : 0, x.count(6));
            }
        }
        due(0, new AxesAtDawn().feed(-1, MIN, Long.MIN_VALUE));
        due(0, new AxesAtDawn().feed(0, 0, 0));
        Bench.says(6, "up to 24 signs come behind the TAPE: the bytes of a, b, c, of each the highest first");
        AxesAtDawn x = Bench.after(DIG);
        x.law();
        due(24, x.feed(0x6f6464207768656eL, 0x2073746f6e65203dL, 0x2037202a20313b20L));
        due(0, x.law());
        for (int find = 0; find < 6; find++) {
            due(x.fact(find, 11) == 7 ? 1 : 0, x.each(find));
        }
        due(9, x.feed(0x6f64642077680080L, 0x656e0000000000ffL, 0x1f7f0b0900000020L));
        due(11, x.feed(0, 0x31000000L, 0x3b));
        due(0, x.law());
        due(1, x.each(5));
    }

    private static void promise6Full() {
        Bench.says(6, "what is beyond 1,000 is left out");
        AxesAtDawn x = Bench.after(DIG);
        x.law();
        Bench.feed(x, " ".repeat(980));
        due(980, x.count(6));
        due(1000, x.feed(0x626172207768656eL, 0x2031203b3b3b3b3bL, 0x3b3b3b3b3b3b3b3bL));
        due(1000, x.count(6));
        due(1000, x.feed(0x4141414141414141L, 0x4141414141414141L, 0x4141414141414141L));
        due(1 + 16 * 992, x.law());
        due(0, x.count(6));
        due(0, x.feed(0, 0, 0));
        AxesAtDawn y = new AxesAtDawn();
        Bench.feed(y, " ".repeat(987) + "bar when 1 ;");
        due(999, y.count(6));
        due(1000, y.feed(' ', '?', '?'));
        due(0, y.law());
        AxesAtDawn z = new AxesAtDawn();
        Bench.feed(z, " ".repeat(989) + "bar when 1;");
        due(1000, z.count(6));
        due(0, z.law());
        AxesAtDawn w = new AxesAtDawn();
        Bench.feed(w, "\n".repeat(990) + "bar when 1;");
        due(1000, w.count(6));
        due(1 + 16 * 1000, w.law());
        Bench.Calls full = v -> {
            Bench.dig(v);
            Bench.feed(v, " ".repeat(965));
        };
        Bench.says(6, "what is beyond 1,000 is left out: it changes nothing");
        Bench.refused(full, 1000, v -> v.feed(0x3b3b3b3b3b3b3b3bL, 0x3b3b3b3b3b3b3b3bL, 0x3b3b3b3b3b3b3b3bL));
        Bench.says(6, "others are left out: it changes nothing");
        Bench.refused(DIG, 35, v -> v.feed(0x7f80ff1f0b090d01L, -1, 0));
    }

    private static void promise7Tape() {
        Bench.says(7, "what reads it takes it: it is empty then");
        AxesAtDawn x = Bench.after(DIG);
        due(35, x.count(6));
        due(0, x.law());
        due(0, x.count(6));
        Bench.says(7, "what reads it takes it: with a FAULT, too");
        Bench.feed(x, "bar when ?;");
        due(11, x.count(6));
        due(1 + 16 * 9, x.law());
        due(0, x.count(6));
        Bench.says(7, "an empty TAPE is a LAW without lines");
        due(0, x.law());
        due(0, x.count(5));
        for (int find = 0; find < 6; find++) {
            due(0, x.each(find));
        }
        fine("");
        fine(" ");
        fine("\n");
        fine(" \n\n ".repeat(200));
    }

    private static void promise7Tokens() {
        Bench.says(7, "All else is none: FAULT 1, at each sign that no token begins with");
        for (char sign = 33; sign < 127; sign++) {
            if ("()<=+-*;".indexOf(sign) < 0 && !Character.isLowerCase(sign) && !Character.isDigit(sign)) {
                faultAt(1, "|" + sign);
                faultAt(1, "bar when |" + sign + ";");
                faultAt(1, "bar when 1|" + sign + ";");
                faultAt(1, "bar when 1;  |" + sign);
                faultAt(1, "bar|" + sign + "when 1;");
                faultAt(1, "since 1|" + sign + ";");
                faultAt(1, "bar when ((((1))))|" + sign);
            }
        }
        Bench.says(7, "signs ( ) < = + - * ; are tokens, but can't stand anywhere: FAULT 1");
        for (char sign : "()<=+-*;".toCharArray()) {
            faultAt(1, "|" + sign);
            faultAt(1, "bar |" + sign + " when 1;");
            faultAt(1, "rule |" + sign + "1 stops 1;");
            faultAt(1, "far |" + sign + "1;");
            if (sign != '(') {
                faultAt(1, "bar when |" + sign + ";");
                faultAt(1, "bar when 1+|" + sign + ";");
                faultAt(1, "bar when (|" + sign + "1);");
            } else {
                faultAt(1, "bar when 1|(1);");
            }
        }
        Bench.says(7, "blanks (10, 32) between where one likes");
        fine("bar when 1;odd when 1;");
        fine("\n bar \n when\n\n1 ; \n");
        fine("bar when1<rust;rule3stops(1);since2;far3;enough when1;");
        fine("bar when not(1)and(1)or not(rust);");
        faultAt(1, "|barwhen 1;");
        faultAt(1, "bar when |notrust;");
        faultAt(1, "bar when 1 |andrust;");
        faultAt(1, "|ba r when 1;");
        faultAt(1, "bar when 1 |2;");
        promise7Words();
    }

    private static void promise7Words() {
        Bench.says(7, "WORDS (letters a .. z, 8 at most): a longer WORD at its first sign");
        faultAt(1, "bar when |abcdefgh;");
        faultAt(1, "bar when |abcdefghi;");
        faultAt(1, "bar when |rustrustrust;");
        faultAt(1, "bar when |underunder;");
        faultAt(1, "|" + "z".repeat(1000));
        faultAt(1, "|barbarbar when 1;");
        faultAt(1, "bar when 1 |andandand 1;");
        faultAt(1, "bar |whenwhenwhen 1;");
        faultAt(1, "bar when |rustz;");
        faultAt(1, "bar when |rusta;");
        faultAt(1, "bar when |arust;");
        faultAt(1, "|barz when 1;");
        faultAt(1, "bar when rust|A;");
        faultAt(1, "bar when rust|`;");
        faultAt(1, "bar when rust|{;");
        Bench.says(7, "NUMBERS (1 to 4 digits): a longer NUMBER at its first sign");
        for (String number : new String[] {"0", "9", "00", "99", "000", "999", "0000", "9999"}) {
            fine("bar when " + number + ";");
        }
        for (String number : new String[] {"00000", "10000", "99999", "000000001", "1".repeat(60)}) {
            faultAt(1, "bar when |" + number + ";");
            faultAt(1, "rule |" + number + " stops 1;");
            faultAt(1, "since |" + number + ";");
            faultAt(1, "far |" + number + ";");
        }
        fine("rule 0007 stops 1;since 0009;far 0999;");
        faultAt(1, "bar when 9999|/;");
        faultAt(1, "bar when 9999|:;");
        Bench.says(7, "NUMBERS: a letter may stand right behind");
        fine("bar when 1and 2or 3;");
        fine("bar when 1234and rust;");
        fine("rule 7stops 1;");
        faultAt(1, "since 3|x;");
        faultAt(1, "bar when 1|rust;");
        Bench.says(7, "WORDS: a NUMBER behind is a token of its own");
        faultAt(1, "bar when rust|1;");
        faultAt(1, "bar|1 when 1;");
    }

    private static void promise7Ends() {
        Bench.says(7, "the end being one at the text's length");
        String whole = "bar when ( 1 + rust ) ;";
        for (String start : new String[] {"bar", "bar when", "bar when (", "bar when ( 1", "bar when ( 1 +",
            "bar when ( 1 + rust", "bar when ( 1 + rust )", "odd", "odd when", "odd when not", "odd when 1 and",
            "odd when 1 <", "rule", "rule 1", "rule 1 stops", "since", "since 1", "far", "far 1", "enough",
            "enough when", "enough when day", "bar when 1; odd", "since 1; far"}) {
            faultAt(1, start + "|");
            faultAt(1, start + "  |");
            faultAt(1, start + " \n \n|");
        }
        fine(whole);
        fine(whole + "   \n");
        Bench.says(7, "1 it can't stand there");
        faultAt(1, "|when");
        faultAt(1, "|1");
        faultAt(1, "|;");
        faultAt(1, "bar when 1;|;");
        faultAt(1, "bar |stops 1;");
        faultAt(1, "odd |1;");
        faultAt(1, "bar when 1 |bar when 1;");
        faultAt(1, "bar when (1|;");
        faultAt(1, "bar when 1|);");
        faultAt(1, "bar when (|);");
        faultAt(1, "bar when 1 and |and 1;");
        faultAt(1, "bar when 1 |not 1;");
        faultAt(1, "rule |rule");
        faultAt(1, "rule |stops");
        faultAt(1, "rule 1 |when 1;");
        faultAt(1, "rule 1 |1 stops 1;");
        faultAt(1, "since 1 |1;");
        faultAt(1, "far |far");
        faultAt(1, "enough |stops day;");
        faultAt(1, "|enoug when 1;");
        faultAt(1, "|enoughs when 1;");
        faultAt(1, "bar when 1;|rust");
        Bench.says(7, "TEST: SUM, or SUM < SUM, or SUM = SUM: no second of them");
        for (String signs : new String[] {"<<", "<=", "=<", "=="}) {
            faultAt(1, "bar when 1" + signs.charAt(0) + "2|" + signs.charAt(1) + "3;");
            faultAt(1, "bar when 1" + signs.charAt(0) + "|" + signs.charAt(1) + "3;");
            fine("bar when (1" + signs.charAt(0) + "2)" + signs.charAt(1) + "3;");
            fine("bar when 1" + signs.charAt(0) + "2 and 2" + signs.charAt(1) + "3;");
        }
    }

    private static void promise7Facts() {
        Bench.says(7, "Facts of a FIND (bar, odd, rule), facts of enough");
        for (String fact : FACTS) {
            fine("bar when " + fact + ";odd when 1+" + fact + ";rule 1 stops not " + fact + ";");
            faultAt(1, "enough when |" + fact + ";");
            faultAt(1, "enough when 1 and |" + fact + ";");
        }
        for (String fact : DAY_FACTS) {
            fine("enough when " + fact + ";");
            faultAt(1, "bar when |" + fact + ";");
            faultAt(1, "odd when 1<|" + fact + ";");
            faultAt(1, "rule 1 stops (|" + fact + ");");
            faultAt(1, "enough when 1;bar when |" + fact + ";");
        }
        for (String word : OTHER_WORDS) {
            faultAt(1, "bar when |" + word + ";");
            faultAt(1, "enough when |" + word + ";");
        }
        faultAt(1, "bar when dawn |dawn;");
        faultAt(1, "bar when not|;");
    }

    private static void promise7Times() {
        Bench.says(7, "5 one too many: the word bar, odd of a seventh (bar 6 at most, odd likewise)");
        for (String word : new String[] {"bar", "odd"}) {
            String other = word.equals("bar") ? "odd" : "bar";
            String line = word + " when 1;";
            fine(line.repeat(6));
            fine((line + other + " when rust;").repeat(6));
            faultAt(5, line.repeat(6) + "|" + line);
            faultAt(5, line.repeat(6) + "since 1;" + "|" + word);
            faultAt(5, line.repeat(6) + " |" + word + " ? when");
            faultAt(1, line.repeat(6) + "|" + word + "word");
            faultAt(5, (line + other + " when rust;").repeat(6) + "|" + word + " when 1;");
            faultAt(1, line.repeat(5) + word + " |" + word + " when 1;");
        }
        Bench.says(7, "rule N 0 to 7, each once");
        AxesAtDawn x = new AxesAtDawn();
        for (int n = 7; n >= 0; n--) {
            Bench.feed(x, "rule " + n + " stops 1;");
        }
        due(0, x.law());
        due(8, x.count(5));
        Bench.says(7, "3 the N of a rule that is told (rule N 0 to 7, each once)");
        for (int n = 0; n < 8; n++) {
            faultAt(3, "rule " + n + " stops 1;rule |" + n + " stops 1;");
            faultAt(3, "rule " + n + " stops 0;rule " + (n ^ 1) + " stops 0;rule |000" + n + "?");
            fine("rule " + n + " stops 1;rule " + (n + 1) % 8 + " stops 1;");
        }
        Bench.says(7, "3 the word since, far, enough a second time (once each)");
        faultAt(3, "since 1;|since 1;");
        faultAt(3, "far 1;|far 1;");
        faultAt(3, "enough when 1;|enough when 1;");
        faultAt(3, "since 3;far 1;enough when 0;|since");
        faultAt(3, "since 3;far 100;enough when 0;|far ?");
        faultAt(3, "since 3;far 100;enough when 0;bar when 1;|enough enough");
        fine("since 1;far 1;enough when 1;");
        Bench.says(7, "4 a NUMBER that is not as told: rule N 0 to 7, since N 0 to 9, far N 0 to 999");
        for (int n = 0; n < 12; n++) {
            String rule = "rule |" + n + " stops 1;";
            String since = "since |" + n + ";";
            due(n < 8 ? 0 : 4 + 16 * 5, fault(rule.replace("|", "")));
            due(n < 10 ? 0 : 4 + 16 * 6, fault(since.replace("|", "")));
        }
        for (String n : new String[] {"8", "9", "10", "0008", "9999"}) {
            faultAt(4, "rule |" + n + " stops 1;");
            faultAt(4, "rule |" + n + "?");
        }
        faultAt(4, "since |10;");
        faultAt(4, "since |9999;");
        faultAt(4, "since |10?");
        faultAt(4, "far |1000;");
        faultAt(4, "far |9999;");
        faultAt(4, "far |1000?");
        fine("far 0;since 0;");
        fine("far 999;since 9;");
    }

    /** So many of not and (, the bits of kinds telling which. */
    private static String opened(int kinds, int many) {
        StringBuilder text = new StringBuilder();
        for (int i = 0; i < many; i++) {
            text.append((kinds >> i & 1) == 1 ? "(" : "not ");
        }
        return text.toString();
    }

    private static String around(int kinds, int many, String part) {
        return opened(kinds, many) + part + ")".repeat(Integer.bitCount(kinds & (1 << many) - 1));
    }

    private static void promise7Deep() {
        Bench.says(7, "no PART lies within 5 of not and ( )");
        for (int kinds = 0; kinds < 32; kinds++) {
            for (String part : new String[] {"1", "rust", "0000"}) {
                for (int many = 0; many < 5; many++) {
                    fine("bar when " + around(kinds, many, part) + ";");
                    fine("odd when 1 < " + around(kinds, many, part) + ";");
                }
                faultAt(5, "bar when " + around(kinds, 5, "|" + part) + ";");
                faultAt(5, "rule 1 stops 1 and " + around(kinds, 5, "|" + part) + ";");
            }
            fine("enough when " + around(kinds, 4, "day") + ";");
            faultAt(5, "enough when " + around(kinds, 5, "|day") + ";");
            Bench.says(7, "5 one too many: not, or a PART, within 5 others");
            faultAt(5, "bar when " + around(kinds, 5, "|not 1") + ";");
            faultAt(5, "bar when " + around(kinds, 5, "|(1)") + ";");
            faultAt(5, "bar when " + around(kinds, 5, "|not"));
            faultAt(5, "bar when " + around(kinds, 5, "|(?") + ";");
            Bench.says(7, "wrong the least: what can't stand there has 1, within 5 others, too");
            for (String part : new String[] {"", ";", ")", "day", "when", "?", "12345", "abcdefghi", "*1", "A(1)"}) {
                faultAt(1, "bar when " + opened(kinds, 5) + "|" + part);
            }
            Bench.says(7, "no PART lies within 5 of not and ( )");
        }
        promise7DeepAgain();
    }

    private static void promise7DeepAgain() {
        fine("bar when ((((1))))+((((1))))<not not not not 1 and(not(not 1));");
        fine("bar when ((((1)+(1))+(1))+(1))+(1);");
        faultAt(5, "bar when ((((1))))+(((((|1)))));");
        faultAt(5, "bar when not not not not 1 or not not not not not |1;");
        faultAt(5, "bar when ((((1+(|1)))));");
        faultAt(5, "bar when ((((1*not |1))));");
        faultAt(5, "bar when ((((1 and not |1))));");
        faultAt(5, "bar when not(not(1<(|1)));");
        fine("bar when not(not(1<1));");
        fine("bar when " + "(1)+".repeat(200) + "1;");
        fine("bar when " + "not 1+".repeat(150) + "1;");
    }

    private static void promise7Stays() {
        Bench.says(7, "its FAULT (the one ahead stays then)");
        for (String text : new String[] {"bar when 1", "odd when 1;bar ?", "rule 1 stops 1;rule 1 stops 1;",
            "since 0;since 0;", "far 0;far 1000;", "enough when 1;enough", "bar when 1;".repeat(7),
            "since 0;far 999;rule 0 stops 1;odd when (((((1)))));", "when", "enough when rust;"}) {
            Bench.Calls told = x -> {
                Bench.dig(x);
                x.law();
                Bench.law(x, "bar when rust and under;odd when worn;rule 2 stops rust;since 2;enough when 3<finds;");
                Bench.feed(x, text);
            };
            Bench.Calls without = x -> {
                Bench.dig(x);
                x.law();
                Bench.law(x, "bar when rust and under;odd when worn;rule 2 stops rust;since 2;enough when 3<finds;");
            };
            Bench.same(told, x -> x.law(), without);
        }
        promise7Without();
        Bench.says(7, "Without a FAULT it is the LAW from then on: nothing is left of the one ahead");
        AxesAtDawn x = Bench.after(DIG);
        x.law();
        due(0, Bench.law(x, "bar when 1;odd when 1;rule 0 stops 1;rule 7 stops 1;enough when 1;since 9;far 999;"));
        due(2, x.each(0));
        due(2, x.count(5));
        due(0, x.enough());
        due(0, Bench.law(x, "rule 7 stops 0;"));
        due(0, x.each(0));
        due(1, x.count(5));
        due(NONE, x.stops(0, 0));
        due(0, x.stops(7, 0));
        due(NONE, x.enough());
        due(2, x.fact(0, 16));
    }

    private static void promise7Without() {
        Bench.says(7, "since N 0 to 9 (3 without), far N 0 to 999 (100 without): by each LAW, not by the one ahead");
        String[] texts = {"odd when 0;", "since 9;far 999;", "", "far 0;since 0;", "since 4;", "far 101;", "\n"};
        int[] since = {3, 9, 3, 0, 4, 3, 3};
        int[] far = {100, 999, 100, 0, 100, 101, 100};
        AxesAtDawn x = new AxesAtDawn();
        for (int site = 0; site < 8; site++) {
            x.layer(site, 0, 0);
            x.here(9, site, 500 + site, 0, 0);
            x.find(site, 0, 500 + site, 0, 9, 0, 77);
        }
        int[] ways = {0, 1, 99, 100, 101, 102, 998};
        for (int i = 0; i < 7; i++) {
            x.way(0, 1 + i, ways[i]);
            x.here(i, 0, 500 - (i < 5 ? i : i + 4), 3, 3);
        }
        x.here(7, 0, 495, 3, 3);
        for (int i = 0; i < texts.length; i++) {
            due(0, Bench.law(x, texts[i]));
            int who = 0;
            for (int hand = 0; hand < 8; hand++) {
                int ahead = hand == 7 ? 5 : hand < 5 ? hand : hand + 4;
                who |= ahead > 0 && ahead <= since[i] ? 1 << hand : 0;
            }
            due(who, x.can(0));
            int twins = 0;
            for (int way : ways) {
                twins += way > far[i] ? 1 : 0;
            }
            due(twins, x.fact(0, 16));
        }
    }

    /** The E is 1 or more things at once: told as a bar line, it bars exactly if it is not 0. */
    private static void value(boolean so, String e) {
        AxesAtDawn x = Bench.after(DIG);
        x.law();
        due(0, Bench.law(x, "bar when " + e + ";"));
        due(so ? 2 : 0, x.each(0));
    }

    private static void promise7Values() {
        Bench.says(7, "ints wrap");
        value(true, "0<(4634*10)*(4634*10)");
        value(true, "(4634*10+1)*(4634*10+1)<0");
        value(true, "(8192*4)*(8192*8)<0");
        value(true, "0<(8192*4)*(8192*8)-1");
        value(true, "0<0-(8192*4)*(8192*8)-1");
        value(true, "(8192*4)*(8192*8)-1+1<0");
        value(true, "(8192*4)*(8192*8)=0-(8192*4)*(8192*8)");
        value(false, "(8192*8)*(8192*8)");
        value(true, "not((8192*8)*(8192*8))");
        value(true, "(8192*8)*(8192*8)+1=1");
        value(true, "9999*9999=9998*9999+9999");
        value(true, "9999*9999*9999*9999*9999*9999=9999*9999*9999*(9999*9999*9999)");
        Bench.says(7, "Of not, and, or, < and = comes 1 or 0; what is not 0 is so");
        for (int n : new int[] {1, 2, 7, 9999}) {
            value(true, "" + n);
            value(true, "0-" + n);
            value(true, "(not " + n + ")=0");
            value(true, "(not(0-" + n + "))=0");
            value(true, "(" + n + " and " + n + ")=1");
            value(true, "(" + n + " or 0)=1");
            value(true, "(0 or " + n + ")=1");
            value(true, "(0-" + n + " and 5)=1");
            value(true, "(0-" + n + " or 0)=1");
            value(false, n + " and 0");
            value(false, "0 and " + n);
        }
        value(false, "0");
        value(true, "(not 0)=1");
        value(false, "0 or 0");
        value(true, "(0<1)=1");
        value(true, "(1<1)+(2<1)=0");
        value(true, "(0-1<0)=1");
        value(true, "(5=5)=1");
        value(true, "(5=6)+(6=5)=0");
        promise7Order();
    }

    private static void promise7Order() {
        Bench.says(7, "E: TEST { and TEST or or TEST }, from the left");
        value(false, "1 or 1 and 0");
        value(true, "0 and 0 or 1");
        value(true, "0 and 1 or 1");
        value(false, "1 or 0 and 0");
        value(true, "1 or (1 and 0)");
        Bench.says(7, "SUM: PRODUCT { + or - PRODUCT }; PRODUCT: PART { * PART }");
        value(true, "9-3-2=4");
        value(true, "9-3+2=8");
        value(true, "9-(3+2)=4");
        value(true, "2+3*4=14");
        value(true, "2*3+4=10");
        value(true, "2*3*4=24");
        value(true, "1+1<1+2");
        Bench.says(7, "not PART");
        value(true, "not 0+5=6");
        value(false, "not 1+0");
        value(true, "not 0*5=5");
        value(true, "not 0=1");
        value(true, "not not 5=1");
        value(true, "not(0+5)=0");
        value(true, "not 3<1");
        Bench.says(7, "a LAW as long as the TAPE");
        value(true, "1" + "+1".repeat(492) + "=493");
        value(false, "1" + "-1".repeat(490) + "+489");
        Bench.says(7, "a LAW as long as the TAPE, read again and again");
        AxesAtDawn x = Bench.after(DIG);
        x.law();
        for (int turn = 0; turn < 5; turn++) {
            due(0, Bench.law(x, "1+".repeat(480).replaceFirst("1", "bar when 1") + turn + " = 480;"));
            due(turn == 0 ? 2 : 0, x.each(5));
            due(0, Bench.law(x, "bar when " + "rust*".repeat(190) + "1;"));
            due(2, x.each(0));
            due(0, x.each(2));
        }
        fine("bar when 1;".repeat(6) + " ".repeat(934));
        faultAt(1, "bar when " + "1+".repeat(495) + "1|");
    }

    private static void promise10Each() {
        Bench.says(10, "BARRED (2) if a bar line's E is not 0, else ODD (1) if an odd line's is not, else none (0)");
        for (int i = 0; i < 36; i++) {
            AxesAtDawn x = Bench.after(DIG);
            x.law();
            StringBuilder text = new StringBuilder();
            for (int line = 0; line < 6; line++) {
                text.append("odd when ").append(line == i / 6 ? "0-1;" : "0;");
                text.append("bar when ").append(line == i % 6 ? "worn;" : "0;");
            }
            due(0, Bench.law(x, text.toString()));
            due(1, x.each(0));
            due(2, x.each(2));
        }
        Bench.says(10, "lines of rule and enough bar nothing, nor make it odd");
        String zeros = "bar when 0;".repeat(6) + "odd when 0;".repeat(6);
        StringBuilder others = new StringBuilder(zeros);
        for (int rule = 0; rule < 8; rule++) {
            others.append("rule ").append(rule).append(" stops 1;");
        }
        String[] texts = {zeros, others + "enough when 1;", others.substring(66), others.substring(132)};
        for (String text : texts) {
            AxesAtDawn y = Bench.after(DIG);
            y.law();
            due(0, Bench.law(y, text));
            for (int find = 0; find < 6; find++) {
                due(0, y.each(find));
            }
        }
        AxesAtDawn x = Bench.after(DIG);
        due(2, x.each(0));
        due(0, x.each(1));
        due(1, x.each(2));
        Bench.says(10, "age (as its LAYER has it now); what is told later counts as if it had been told at once");
        AxesAtDawn now = Bench.after(DIG);
        now.law();
        Bench.law(now, "bar when 1 = age;odd when alone;");
        due(0, now.each(0));
        due(1, now.each(1));
        now.layer(0, 0, 1);
        now.here(8, 1, 5, 14, 14);
        due(2, now.each(0));
        due(0, now.each(1));
        now.layer(0, 0, 2);
        due(0, now.each(0));
        Bench.says(10, "NONE: none such");
        Bench.outside(DIG, NONE, 0, 5, v -> y -> y.each(v));
        x.mark(1, true);
        due(1, x.each(2));
        due(NONE, x.each(3));
    }

    private static void promise11Stops() {
        Bench.says(11, "1 or 0: what is not 0 is so");
        AxesAtDawn x = Bench.after(DIG);
        x.law();
        Bench.law(x, "rule 0 stops 0-stone;rule 1 stops 9999;rule 6 stops 0;rule 7 stops rust;");
        int[][] want = {{1, 1, 1, 1, 0, 1}, {1, 1, 1, 1, 1, 1}, {0, 0, 0, 0, 0, 0}, {1, 1, 0, 0, 0, 1}};
        int[] rules = {0, 1, 6, 7};
        for (int find = 0; find < 6; find++) {
            for (int i = 0; i < 4; i++) {
                due(want[i][find], x.stops(rules[i], find));
            }
            Bench.says(11, "NONE: a RULE that is not told");
            for (int rule = 2; rule < 6; rule++) {
                due(NONE, x.stops(rule, find));
            }
            Bench.says(11, "1 or 0: what is not 0 is so");
        }
        Bench.says(11, "NONE: no such FIND, a RULE that is not told");
        Bench.outside(DIG, NONE, 0, 7, v -> y -> y.stops(v, 0));
        Bench.outside(DIG, NONE, 2, 2, v -> y -> y.stops(v, 0));
        Bench.outside(DIG, NONE, 0, 5, v -> y -> y.stops(2, v));
        Bench.outside(DIG, NONE, 0, 5, v -> y -> y.stops(v, v));
        Bench.refused(DIG, NONE, y -> y.stops(0, 0));
        Bench.refused(DIG, NONE, y -> y.stops(7, 5));
        Bench.refused(DIG, NONE, y -> y.stops(0, 6));
    }

    public static void main(String[] args) {
        promise6Signs();
        promise6Full();
        promise7Tape();
        promise7Tokens();
        promise7Ends();
        promise7Facts();
        promise7Times();
        promise7Deep();
        promise7Stays();
        promise7Values();
        promise10Each();
        promise11Stops();
        Bench.end();
    }
}
