import java.util.ArrayList;
import java.util.List;

/**
 * What is asked changes nothing, and what is told counts from then on: behind asking for all there is and one call
 * more, an object looks as one that was only told.
 */
public final class AskedTest {
    private static final int NONE = Bench.NONE;

    /** Asks for each thing that can be worked out, some of it twice. */
    private static void askAll(AxesAtDawn x) {
        for (int i = 0; i < 10; i++) {
            x.each(i);
            x.can(i % 6);
            x.may(i);
            x.put(i);
            x.doubted(i);
            x.stops(i, i % 3);
            x.stories(i % 6);
            x.standing(i - 1);
            x.oldest(i - 1);
            x.row(i, i % 3, i % 4);
            x.odds(i, i % 3, i % 2);
            x.cut(i, i % 3);
            x.again(i, i % 2 - 1);
            x.world(i * 11, i % 5);
            x.found(77, i, i % 6);
            x.rates(i * 2, i % 6);
            x.count(i);
            x.present(i, 5, 9);
            Bench.answer(x, y -> y.parted(20, 1));
        }
        for (int find = 0; find < 6; find++) {
            int f = find;
            Bench.answer(x, y -> y.fact(f, 8 + f));
        }
        for (int what = 0; what < 3; what++) {
            x.where(1, what);
            x.where(2, what);
            x.rules(what);
        }
        x.settled();
        x.enough();
        x.luck(3, 4, 2, 3, 0);
    }

    private static List<Bench.Ask> tellings() {
        List<Bench.Ask> all = new ArrayList<>();
        all.add(x -> Bench.bit(x.layer(0, 0, 4000)));
        all.add(x -> Bench.bit(x.layer(0, 7, 1)));
        all.add(x -> Bench.bit(x.way(0, 1, 1)));
        all.add(x -> Bench.bit(x.way(1, 2, 0)));
        all.add(x -> Bench.bit(x.here(7, 0, 5, 6, 11)));
        all.add(x -> Bench.bit(x.here(7, 2, 7, 1, 2)));
        all.add(x -> Bench.bit(x.here(9, 1, 3, 0, 9)));
        all.add(x -> x.find(2, 4, 7, 9, 6, 3, 7));
        all.add(x -> x.find(6, 3, 999, 21, 8, 255, 9));
        all.add(x -> x.feed(0x6f64642077686574L, 0, 0));
        all.add(x -> x.law());
        all.add(x -> Bench.bit(x.seen(3, 0, 5)));
        all.add(x -> Bench.bit(x.seen(3, 0, 4)));
        all.add(x -> Bench.bit(x.ground(0, 2, 0)));
        all.add(x -> Bench.bit(x.ground(3, 4, 0)));
        all.add(x -> Bench.bit(x.ground(11, 0, 1)));
        all.add(x -> Bench.bit(x.paper(3)));
        all.add(x -> Bench.bit(x.paper(0)));
        for (int mark = 0; mark < 4; mark++) {
            int m = mark;
            all.add(x -> Bench.bit(x.mark(m, false)));
            all.add(x -> Bench.bit(x.mark(m, true)));
        }
        for (int hand = 0; hand < 10; hand++) {
            int h = hand;
            all.add(x -> Bench.bit(x.skill(h, 0, 9)));
            all.add(x -> Bench.bit(x.skill(h, 9, 0)));
        }
        all.add(x -> Bench.bit(x.wealth(0, 0, 0)));
        all.add(x -> Bench.bit(x.wealth(0, 1, 9)));
        all.add(x -> Bench.bit(x.wealth(2, 4, 0)));
        for (int mark = 0; mark < 8; mark++) {
            int m = mark;
            all.add(x -> Bench.bit(x.shows(m, 9, 0)));
        }
        return all;
    }

    /** So that papers, FINDS and what is BARRED all show in the DAY of enough. */
    private static void dig(AxesAtDawn x, String enough) {
        Bench.dig(x);
        x.law();
        Bench.law(x, "bar when rust and under;odd when worn;rule 2 stops rust;rule 5 stops not rust;since 2;"
                + "enough when " + enough + ";");
        Bench.feed(x, "odd when fresh; bar when hour = 14;");
    }

    private static void asked() {
        for (String enough : new String[] {"2<papers", "2<papers+barred", "5<finds", "odd+pairs+most+dawns=7", "0"}) {
            Bench.Calls told = x -> dig(x, enough);
            Bench.Calls asked = x -> {
                dig(x, enough);
                askAll(x);
            };
            Bench.says(1, "what is asked changes nothing");
            Bench.same(asked, x -> 0, told);
            Bench.says(1, "what is told counts from then on, whatever was asked ahead of it");
            for (Bench.Ask telling : tellings()) {
                Bench.same(asked, telling, x -> {
                    dig(x, enough);
                    Bench.answer(x, telling);
                });
            }
        }
        Bench.says(1, "what is asked of a new object changes nothing");
        Bench.same(AskedTest::askAll, x -> 0, x -> { });
        Bench.same(AskedTest::askAll, x -> {
            Bench.dig(x);
            return 0;
        }, Bench.DIG);
    }

    /** Each call that works something out, as the first one asked of an object. */
    private static void askedFirst() {
        Bench.says(1, "what is asked first is answered as what is asked later");
        List<Bench.Ask> asks = new ArrayList<>();
        for (int i = 0; i < 20; i++) {
            int n = i;
            asks.add(x -> x.fact(n % 6, n));
            asks.add(x -> x.each(n % 6));
            asks.add(x -> x.stops(n % 8, n % 6));
            asks.add(x -> x.row(n % 10, n % 3, n % 4));
            asks.add(x -> x.odds(n % 7, n % 3, n % 2));
            asks.add(x -> x.odds(3, n % 3, n % 2));
            asks.add(x -> x.can(n % 6));
            asks.add(x -> x.may(n % 6));
            asks.add(x -> x.put(n % 6));
            asks.add(x -> x.stories(n % 5));
            asks.add(x -> x.standing(n % 11 - 1));
            asks.add(x -> x.oldest(n % 11 - 1));
            asks.add(x -> x.cut(n % 4, n % 3));
            asks.add(x -> x.doubted(n % 6));
            asks.add(x -> x.settled());
            asks.add(x -> x.again(n % 8, NONE));
            asks.add(x -> x.again(n % 8, (n + 3) % 8));
            asks.add(x -> x.where(1 + n % 2, n % 3));
            asks.add(x -> x.rules(n % 2));
            asks.add(x -> x.enough());
            asks.add(x -> x.world(n * 7, n % 5));
            asks.add(x -> x.found(77, n, n % 6));
            asks.add(x -> x.rates(n + 1, n % 6));
            asks.add(x -> x.parted(n + 1, n % 2));
        }
        AxesAtDawn later = Bench.after(x -> {
            Bench.dig(x);
            askAll(x);
        });
        for (Bench.Ask ask : asks) {
            Bench.due(Bench.answer(later, ask), Bench.answer(Bench.after(Bench.DIG), ask));
        }
    }

    public static void main(String[] args) {
        asked();
        askedFirst();
        Bench.end();
    }
}
