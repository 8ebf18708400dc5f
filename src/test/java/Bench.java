import java.util.ArrayList;
import java.util.HashMap;
import java.util.List;
import java.util.Map;
import java.util.NoSuchElementException;
import java.util.stream.IntStream;

/**
 * What the tests of bounds share: the sentence of the document that a check is about, answers that are due, and
 * refused calls, behind which an object looks as one without them.
 */
final class Bench {
    static final int NONE = AxesAtDawn.NONE;
    static final int MIN = Integer.MIN_VALUE;
    static final int MAX = Integer.MAX_VALUE;
    /** Stands for a NoSuchElementException; no call answers it. */
    static final long THROWS = Long.MIN_VALUE;

    /** The ordinary state behind which calls are refused. */
    static final Calls DIG = Bench::dig;

    private static final int[] DAYS = {0, 4, 5, 6, 7, 999};
    private static final int[] FINDS = {0, 1, 2, 3, 4, 5, 6, 7, 38, 39};
    private static final List<List<Ask>> LOOKS = new ArrayList<>();
    private static final Map<Calls, long[]> SEEN_ALREADY = new HashMap<>();

    private static int promise;
    private static String sentence;
    private static int checks;
    private static int wrong;

    private Bench() { }

    interface Calls {
        void on(AxesAtDawn x);
    }

    interface Ask {
        long of(AxesAtDawn x);
    }

    /** The call with that argument. */
    interface With {
        Ask arg(int v);
    }

    /** Names the promise and the sentence that the checks behind this are about. */
    static void says(int aPromise, String aSentence) {
        promise = aPromise;
        sentence = aSentence;
    }

    static void due(long want, long got) {
        checks++;
        if (got != want) {
            tellWrong("answered " + got + ", due is " + want);
        }
    }

    static void due(boolean want, boolean got) {
        due(bit(want), bit(got));
    }

    static void due(long want, AxesAtDawn x, Ask ask) {
        due(want, answer(x, ask));
    }

    private static void tellWrong(String what) {
        wrong++;
        StringBuilder at = new StringBuilder();
        for (StackTraceElement e : new Throwable().getStackTrace()) {
            if (!e.getClassName().equals("Bench") && !e.getMethodName().equals("main")) {
                at.append(" ").append(e.getLineNumber());
            }
        }
        System.out.println("promise " + promise + ", \"" + sentence + "\" (lines" + at + "): " + what);
    }

    static long bit(boolean b) {
        return b ? 1 : 0;
    }

    /** A machine's exception is not caught: it ends the test. */
    static long answer(AxesAtDawn x, Ask ask) {
        try {
            return ask.of(x);
        } catch (NoSuchElementException e) {
            return e.getClass() == NoSuchElementException.class ? THROWS : THROWS + 1;
        }
    }

    static AxesAtDawn after(Calls told) {
        AxesAtDawn x = new AxesAtDawn();
        told.on(x);
        return x;
    }

    /** The call is answered so, and the object looks as if it had not been made. */
    static void refused(Calls told, long want, Ask call) {
        due(want, answer(after(told), call));
        same(told, call, told);
    }

    /** Behind the call the object looks as one that was told only the other calls. */
    static void same(Calls told, Ask call, Calls others) {
        checks++;
        long[] without = SEEN_ALREADY.computeIfAbsent(others, Bench::looks);
        long[] with = looks(x -> {
            told.on(x);
            answer(x, call);
        });
        for (int i = 0; i < with.length; i++) {
            if (with[i] != without[i]) {
                tellWrong("look " + i + " is " + with[i] + " behind the refused call, " + without[i] + " without");
                return;
            }
        }
    }

    static void refused(Calls told, Ask call) {
        refused(told, 0, call);
    }

    /** A call with an argument outside of its bounds is refused: next to them, far off, or like one by its low bits. */
    static void outside(Calls told, long want, int low, int high, With call) {
        for (int v : outside(low, high)) {
            refused(told, want, call.arg(v));
        }
    }

    static int[] outside(int low, int high) {
        return IntStream.of(low - 1, high + 1, low - 2, high + 2, low - 32, low + 32, low - 64, low + 64, low + 128,
                low + 256, low + 512, low + 1024, low + 4096, low + 65536, low + (1 << 30), MIN, MIN + low + 1, MAX)
                .filter(v -> v < low || v > high).toArray();
    }

    /** All that an object answers; each group on a new one, so that none is called more than 512 times. */
    private static long[] looks(Calls told) {
        if (LOOKS.isEmpty()) {
            listLooks();
        }
        long[] all = new long[LOOKS.stream().mapToInt(List::size).sum()];
        int at = 0;
        for (List<Ask> group : LOOKS) {
            AxesAtDawn x = after(told);
            for (Ask look : group) {
                all[at++] = answer(x, look);
            }
        }
        return all;
    }

    private static void listLooks() {
        for (int site = 0; site < 8; site++) {
            LOOKS.add(whoIsThere(site));
        }
        LOOKS.add(facts());
        LOOKS.add(judged());
        LOOKS.add(rows());
        LOOKS.add(claims());
        LOOKS.add(worlds());
        LOOKS.add(tape());
        LOOKS.add(marks(1));
        LOOKS.add(marks(3));
        for (int what = 1; what < 6; what++) {
            LOOKS.add(room(what));
        }
    }

    private static List<Ask> whoIsThere(int site) {
        List<Ask> group = new ArrayList<>();
        for (int i = 0; i < DAYS.length * 24; i++) {
            int day = DAYS[i % DAYS.length];
            int hour = i / DAYS.length;
            group.add(x -> x.present(site, day, hour));
        }
        return group;
    }

    private static List<Ask> facts() {
        List<Ask> group = new ArrayList<>();
        for (int find : FINDS) {
            for (int what = 0; what < 20; what++) {
                int w = what;
                group.add(x -> x.fact(find, w));
            }
        }
        return group;
    }

    private static List<Ask> judged() {
        List<Ask> group = new ArrayList<>();
        for (int find : FINDS) {
            group.add(x -> x.each(find));
            group.add(x -> x.can(find));
            group.add(x -> x.may(find));
            group.add(x -> x.put(find));
            group.add(x -> x.doubted(find));
            for (int rule = 0; rule < 8; rule++) {
                int r = rule;
                group.add(x -> x.stops(r, find));
            }
        }
        return group;
    }

    private static List<Ask> rows() {
        List<Ask> group = new ArrayList<>();
        for (int i = 0; i < 180; i++) {
            int hand = i / 18;
            int sort = i / 6 % 3;
            int what = i % 6;
            group.add(x -> what < 4 ? x.row(hand, sort, what) : x.odds(hand, sort, what - 4));
        }
        return group;
    }

    private static List<Ask> claims() {
        List<Ask> group = new ArrayList<>();
        for (int i = 0; i < 48; i++) {
            int n = i;
            group.add(x -> x.cut(n / 4, n % 4));
            group.add(x -> x.again(n / 6, n % 6));
        }
        for (int i = 0; i < 11; i++) {
            int n = i;
            group.add(x -> x.standing(n - 1));
            group.add(x -> x.oldest(n - 1));
            group.add(x -> x.again(n, NONE));
            group.add(x -> x.stories(n));
            group.add(x -> x.where(1 + n / 3, n % 3));
        }
        group.add(x -> x.settled());
        group.add(x -> x.rules(0));
        group.add(x -> x.rules(1));
        group.add(x -> x.enough());
        return group;
    }

    private static List<Ask> worlds() {
        List<Ask> group = new ArrayList<>();
        for (int i = 0; i < 72; i++) {
            int n = i;
            group.add(x -> x.found(n / 36 * 77, n / 6 % 6, n % 6));
        }
        for (int i = 0; i < 6; i++) {
            int n = i;
            group.add(x -> x.world(77, n));
            group.add(x -> x.rates(6, n));
            group.add(x -> x.parted(6, n));
        }
        for (int i = 0; i < 8; i++) {
            int n = i;
            group.add(x -> x.count(n));
        }
        return group;
    }

    /** What is on the TAPE shows by reading it; then how long the WAYS are, by what is far. */
    private static List<Ask> tape() {
        List<Ask> group = new ArrayList<>();
        group.add(x -> x.law());
        for (int find : FINDS) {
            group.add(x -> x.each(find));
            group.add(x -> x.may(find));
        }
        for (int far = 0; far < 1000; far += 111) {
            int f = far;
            group.add(x -> law(x, "far " + f + ";"));
            for (int find : FINDS) {
                group.add(x -> x.fact(find, 16));
            }
        }
        return group;
    }

    /** Where the MARKS lie shows by going back to them, in one order or the other. */
    private static List<Ask> marks(int step) {
        List<Ask> group = new ArrayList<>();
        for (int i = 0; i < 8; i++) {
            int mark = i * step & 3;
            group.add(x -> bit(x.mark(mark, true)));
            for (int what = 0; what < 8; what++) {
                int w = what;
                group.add(x -> x.count(w));
            }
        }
        return group;
    }

    /** How much room there is: what is full is not fuller than it seems. */
    private static List<Ask> room(int what) {
        List<Ask> group = new ArrayList<>();
        for (int i = 0; i < 85; i++) {
            int n = i;
            switch (what) {
                case 1 -> group.add(x -> bit(x.here(n % 10, 6, 100 + n, 3, 3)));
                case 2 -> group.add(x -> bit(x.seen(n % 10, n % 8, n)));
                case 3 -> group.add(x -> bit(x.paper(n)));
                case 4 -> group.add(x -> bit(x.ground(n % 12, 0, 1)));
                default -> group.add(x -> x.find(6, 3, 999, 20 + n % 2, 8, 0, 0));
            }
        }
        group.add(x -> x.count(what % 5));
        return group;
    }

    static void feed(AxesAtDawn x, String text) {
        for (int from = 0; from < text.length(); from += 24) {
            long[] v = new long[3];
            for (int i = 0; i < 24; i++) {
                v[i / 8] = v[i / 8] << 8 | (from + i < text.length() ? text.charAt(from + i) : 0);
            }
            x.feed(v[0], v[1], v[2]);
        }
    }

    static int law(AxesAtDawn x, String text) {
        feed(x, text);
        return x.law();
    }

    /**
     * Something of all there is: 6 FINDS, 9 lines of HERE, 2 SEEN, 3 PAPERS, 5 GROUNDS, MARKS 1 and 2, a LAW and
     * an unread TAPE.
     */
    static void dig(AxesAtDawn x) {
        x.layer(0, 0, 100);
        x.layer(0, 1, 300);
        x.layer(1, 0, 200);
        x.layer(2, 4, 50);
        x.layer(6, 3, 9000);
        x.way(0, 1, 150);
        x.way(1, 2, 999);
        x.way(0, 2, 555);
        x.here(3, 0, 5, 6, 12);
        x.here(4, 0, 5, 9, 12);
        x.here(3, 1, 5, 13, 15);
        x.here(4, 1, 6, 8, 10);
        x.here(5, 1, 6, 8, 10);
        x.find(0, 0, 5, 10, 3, 3, 7);
        x.find(1, 0, 5, 14, 3, 1, 7);
        x.find(1, 0, 6, 9, 4, 16, 9);
        x.seen(3, 1, 5);
        x.paper(5);
        x.paper(9);
        x.ground(0, 1, 0);
        x.ground(1, 6, 0);
        x.ground(2, 0, 3);
        x.mark(1, false);
        x.here(6, 2, 7, 0, 23);
        x.here(8, 6, 999, 20, 21);
        x.find(2, 4, 7, 3, 6, 32, 7);
        x.ground(2, 4, 0);
        x.mark(2, false);
        x.here(1, 0, 0, 0, 5);
        x.here(3, 0, 7, 0, 1);
        x.find(0, 1, 7, 1, 3, 0, 0);
        x.seen(6, 2, 7);
        x.paper(0);
        x.find(2, 4, 7, 5, 6, 1, 9);
        x.ground(3, 24, 0);
        knowAll(x);
        law(x, "bar when rust and under;odd when worn;rule 2 stops rust;rule 5 stops not rust;since 2;"
                + "enough when 3<finds;");
        feed(x, "odd when fresh; bar when hour = 14;");
    }

    private static void knowAll(AxesAtDawn x) {
        for (int i = 0; i < 10; i++) {
            x.skill(i, 9 - i / 2, i / 2 + 3);
        }
        x.wealth(0, 0, 5);
        x.wealth(0, 1, 6);
        x.wealth(1, 0, 7);
        x.wealth(2, 4, 8);
        x.wealth(6, 3, 9);
        for (int i = 0; i < 8; i++) {
            x.shows(i, i, 9 - i);
        }
    }

    static void end() {
        System.out.println(checks + " checks, " + wrong + " not as due");
        if (wrong != 0) {
            System.exit(1);
        }
    }
}
