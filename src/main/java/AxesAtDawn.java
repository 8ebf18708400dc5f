import java.util.Arrays;
import java.util.NoSuchElementException;

public final class AxesAtDawn {
    public static final int NONE = -1;

    private static final int SITES = 8;
    private static final int LAYERS = 10;
    private static final int AGES = 10000;
    private static final int WAYS = 1000;
    private static final int HANDS = 10;
    private static final int DAYS = 1000;
    private static final int HOURS = 24;
    private static final int LINES = 80;
    private static final int FINDS = 40;
    private static final int MARKS = 8;
    private static final int STONES = 100;
    private static final int SIGNS = 1000;
    private static final int SORTS = 3;
    private static final int RULES = 8;
    private static final int SEEN = 20;
    private static final int CLAIMS = 12;
    private static final int GROUNDS = 3;
    private static final int PAPERS = 40;
    private static final int PLACES = 4;
    private static final int TENTHS = 10;
    private static final int SEEDS = 10000;
    private static final int WORLDS = 20;

    /** Facts of a FIND, in the order of promise 9; the words of the LAW have the same order. */
    private static final int AGE = 8;
    private static final int LAYER = 9;
    private static final int HOUR = 10;
    private static final int STONE = 11;
    private static final int FIRST = 12;
    private static final int ALONE = 13;
    private static final int DAWN = 14;
    private static final int OTHERS = 15;
    private static final int TWINS = 16;
    private static final int FACTS = 17;

    private static final int BARRED = 2;
    private static final int ODD = 1;

    /** How much has been worked out since the last change. */
    private static final int NOTHING = 0;
    private static final int JUDGED = 1;
    private static final int STORIED = 2;

    private final Sites sites;
    private final Lines lines;
    private final Told told;
    private final Places places;
    private final Law law;
    private final Reader reader;
    private final Judge judge;
    private final Story story;
    private final Claims claims;
    private final World worlds;
    private int known;

    public AxesAtDawn() {
        sites = new Sites();
        lines = new Lines();
        told = new Told();
        places = new Places();
        law = new Law();
        reader = new Reader();
        judge = new Judge(sites, lines, told, law);
        story = new Story(lines, told, law, judge);
        claims = new Claims(told);
        worlds = new World(sites, lines, judge);
        known = NOTHING;
    }

    public boolean layer(int site, int layer, int age) {
        if (!within(site, SITES) || !within(layer, LAYERS) || !within(age, AGES)) {
            return false;
        }
        sites.tellLayer(site, layer, age);
        changed();
        return true;
    }

    public boolean way(int a, int b, int length) {
        if (!within(a, SITES) || !within(b, SITES) || a == b || !within(length, WAYS)) {
            return false;
        }
        sites.tellWay(a, b, length);
        changed();
        return true;
    }

    public boolean here(int hand, int site, int day, int from, int to) {
        if (!within(hand, HANDS) || !within(site, SITES) || !within(day, DAYS)) {
            return false;
        }
        if (!within(from, HOURS) || !within(to, HOURS) || from > to) {
            return false;
        }
        if (!lines.tellLine(hand, site, day, hoursFrom(from, to))) {
            return false;
        }
        changed();
        return true;
    }

    public int find(int site, int layer, int day, int hour, int hand, int marks, int stone) {
        if (!within(site, SITES) || !within(layer, LAYERS) || !within(day, DAYS)) {
            return NONE;
        }
        if (!within(hour, HOURS) || !within(hand, HANDS)) {
            return NONE;
        }
        if (!within(marks, 1 << MARKS) || !within(stone, STONES)) {
            return NONE;
        }
        if (!sites.isTold(site, layer) || !hasBit(lines.whoAt(site, day, hour), hand)) {
            return NONE;
        }
        int number = told.tellFind(site, layer, day, hour, hand, marks, stone);
        if (number != NONE) {
            changed();
        }
        return number;
    }

    public int feed(long a, long b, long c) {
        reader.takeSigns(a);
        reader.takeSigns(b);
        reader.takeSigns(c);
        return reader.size;
    }

    public int law() {
        int fault = reader.readLaw();
        if (fault == 0) {
            law.takeOver(reader.draft);
            changed();
        }
        return fault;
    }

    public int present(int site, int day, int hour) {
        if (!within(site, SITES) || !within(day, DAYS) || !within(hour, HOURS)) {
            return NONE;
        }
        return lines.whoAt(site, day, hour);
    }

    public int fact(int find, int what) throws NoSuchElementException {
        if (!within(find, told.finds) || !within(what, FACTS + 3)) {
            throw new NoSuchElementException("no such find or fact");
        }
        if (what < FACTS) {
            study(JUDGED);
            return judge.facts[find * FACTS + what];
        }
        if (what == FACTS) {
            return told.site[find];
        }
        return what == FACTS + 1 ? told.day[find] : told.hand[find];
    }

    public int each(int find) {
        if (!within(find, told.finds)) {
            return NONE;
        }
        study(JUDGED);
        return judge.verdict[find];
    }

    public int stops(int rule, int find) {
        if (!within(rule, RULES) || !within(find, told.finds) || !law.isTold(Law.RULE + rule)) {
            return NONE;
        }
        study(JUDGED);
        return judge.isStopped(rule, find) ? 1 : 0;
    }

    public int row(int hand, int sort, int what) {
        if (!within(hand, HANDS) || !within(sort, SORTS) || !within(what, 4)) {
            return NONE;
        }
        study(JUDGED);
        int all = what < 2 ? hand : NONE;
        return what % 2 == 0 ? judge.findsOf(all) : judge.findsOfSort(all, sort);
    }

    public long odds(int hand, int sort, int what) {
        if (!within(hand, HANDS) || !within(sort, SORTS) || !within(what, 2)) {
            return NONE;
        }
        study(JUDGED);
        int all = judge.findsOf(NONE);
        int ofSort = judge.findsOfSort(NONE, sort);
        int drawn = judge.findsOf(hand);
        int hits = judge.findsOfSort(hand, sort);
        long above = Chance.drawsWith(all, ofSort, drawn, hits);
        return Chance.lowest(above, Chance.choose(all, drawn), what);
    }

    public long luck(int a, int q, int k, int d, int what) {
        if (a < 1 || a > 9 || q < 1 || q > 6 || k < 0 || k > q || d < 1 || d > 3) {
            return NONE;
        }
        if (!within(what, 2)) {
            return NONE;
        }
        long all = Chance.power(Chance.power(10, q), d);
        long noneDoes = Chance.power(Chance.power(10, q) - Chance.findsSoMany(a, q, k), d);
        return Chance.lowest(all - noneDoes, all, what);
    }

    public int can(int find) {
        if (!within(find, told.finds)) {
            return NONE;
        }
        study(STORIED);
        return story.able[find];
    }

    public boolean seen(int hand, int site, int day) {
        if (!within(hand, HANDS) || !within(site, SITES) || !within(day, DAYS)) {
            return false;
        }
        if (!told.tellSeen(hand, site, day)) {
            return false;
        }
        changed();
        return true;
    }

    public int may(int find) {
        if (!within(find, told.finds)) {
            return NONE;
        }
        study(STORIED);
        return story.maybe[find];
    }

    public int put(int find) {
        if (!within(find, told.finds)) {
            return NONE;
        }
        study(STORIED);
        return hasBit(story.planted, find) ? 1 : 0;
    }

    public int stories(int what) {
        if (!within(what, 5)) {
            return NONE;
        }
        study(STORIED);
        return story.answer(what);
    }

    public boolean ground(int claim, long finds, int claims) {
        if (!within(claim, CLAIMS) || (finds & ~told.allFinds()) != 0) {
            return false;
        }
        if (!within(claims, 1 << CLAIMS) || (finds == 0 && claims == 0)) {
            return false;
        }
        if (!this.claims.tellGround(claim, finds, claims)) {
            return false;
        }
        changed();
        return true;
    }

    public int standing(int without) {
        if (without != NONE && !within(without, HANDS)) {
            return NONE;
        }
        return claims.standWith(told.findsWithout(without));
    }

    public int oldest(int without) {
        if (without != NONE && !within(without, HANDS)) {
            return NONE;
        }
        int greatest = NONE;
        for (int i = 0; i < told.finds; i++) {
            if (told.hand[i] != without) {
                greatest = Math.max(greatest, sites.ageOf(told.site[i], told.layer[i]));
            }
        }
        return greatest;
    }

    public int cut(int claim, int what) {
        if (!within(claim, CLAIMS) || !within(what, 4)) {
            return NONE;
        }
        int size = claims.cutSize(claim);
        if (size < 1 || what > size) {
            return NONE;
        }
        return what == 0 ? size : claims.picks[what - 1];
    }

    public int doubted(int find) {
        if (!within(find, told.finds)) {
            return NONE;
        }
        study(STORIED);
        return hasBit(story.doubts, find) ? 1 : 0;
    }

    public int settled() {
        study(STORIED);
        return claims.settledWhen(told.allFinds() & ~story.doubts, story.doubts);
    }

    public int again(int a, int b) {
        if (!within(a, SITES) || (b != NONE && !within(b, SITES)) || a == b) {
            return NONE;
        }
        study(STORIED);
        return claims.goodFor(b == NONE ? 1 << a : 1 << a | 1 << b, story.doubts);
    }

    public int where(int many, int what) {
        if (many < 1 || many > 2 || what < 0 || what > many) {
            return NONE;
        }
        study(STORIED);
        return claims.bestSites(many, what, story.doubts);
    }

    public int rules(int what) {
        if (!within(what, 2)) {
            return NONE;
        }
        study(STORIED);
        int least = story.leastRules();
        if (least == NONE) {
            return NONE;
        }
        return what == 0 ? Integer.bitCount(least) : least;
    }

    public boolean paper(int day) {
        if (!within(day, DAYS) || !told.tellPaper(day)) {
            return false;
        }
        changed();
        return true;
    }

    public int enough() {
        study(JUDGED);
        return judge.dayOfEnough();
    }

    public boolean mark(int mark, boolean back) {
        if (!within(mark, PLACES)) {
            return false;
        }
        if (!back) {
            places.lay(mark, told, lines.size, claims.size);
            return true;
        }
        if (!places.goBack(mark)) {
            return false;
        }
        told.finds = places.kept(mark, Places.FINDS_THEN);
        told.sights = places.kept(mark, Places.SEEN_THEN);
        told.papers = places.kept(mark, Places.PAPERS_THEN);
        lines.keepFirst(places.kept(mark, Places.LINES_THEN));
        claims.size = places.kept(mark, Places.GROUNDS_THEN);
        changed();
        return true;
    }

    public boolean skill(int hand, int skill, int habit) {
        if (!within(hand, HANDS) || !within(skill, TENTHS) || !within(habit, TENTHS)) {
            return false;
        }
        worlds.skills[hand] = skill;
        worlds.habits[hand] = habit;
        changed();
        return true;
    }

    public boolean wealth(int site, int layer, int wealth) {
        if (!within(site, SITES) || !within(layer, LAYERS) || !within(wealth, TENTHS)) {
            return false;
        }
        if (!sites.isTold(site, layer)) {
            return false;
        }
        sites.riches[site * LAYERS + layer] = wealth;
        changed();
        return true;
    }

    public boolean shows(int mark, int lay, int put) {
        if (!within(mark, MARKS) || !within(lay, TENTHS) || !within(put, TENTHS)) {
            return false;
        }
        worlds.signs[mark] = lay;
        worlds.signs[MARKS + mark] = put;
        changed();
        return true;
    }

    public int world(int seed, int what) {
        if (!within(seed, SEEDS) || !within(what, 5)) {
            return NONE;
        }
        worlds.live(seed);
        switch (what) {
            case 0:
                return worlds.tally[World.LAIN];
            case 1:
                return worlds.tally[World.PLANTED];
            case 2:
                return worlds.leftOver();
            case 3:
                return worlds.luckiest();
            default:
                return worlds.greatestAge;
        }
    }

    public int found(int seed, int k, int what) {
        if (!within(seed, SEEDS) || !within(what, World.PARTS)) {
            return NONE;
        }
        worlds.live(seed);
        return within(k, worlds.size) ? worlds.partOf(k, what) : NONE;
    }

    public int rates(int n, int what) {
        if (n < 1 || n > WORLDS || !within(what, World.RATES)) {
            return NONE;
        }
        return worlds.tallyOfFirst(n, what);
    }

    public int parted(int n, int what) throws NoSuchElementException {
        if (n < 1 || n > WORLDS || !within(what, 2)) {
            throw new NoSuchElementException("no such worlds or answer");
        }
        int best = 0;
        int most = worlds.tallyOfFirst(n, World.RATES);
        for (int mark = 1; mark < MARKS; mark++) {
            int more = worlds.tallyOfFirst(n, World.RATES + mark);
            if (more > most) {
                most = more;
                best = mark;
            }
        }
        return what == 0 ? best : most;
    }

    public int count(int what) {
        switch (what) {
            case 0:
                return told.finds;
            case 1:
                return lines.size;
            case 2:
                return told.sights;
            case 3:
                return told.papers;
            case 4:
                return claims.size;
            case 5:
                return law.rulesTold();
            case 6:
                return reader.size;
            case 7:
                return sites.layersTold();
            default:
                return NONE;
        }
    }

    private void changed() {
        known = NOTHING;
        judge.forget();
        claims.forget();
        worlds.forget();
    }

    /** One list of steps, so that no answer is worked out twice between two changes. */
    private void study(int upTo) {
        if (known < JUDGED) {
            lines.weigh();
            judge.judgeAll();
            known = JUDGED;
        }
        if (upTo >= STORIED && known < STORIED) {
            story.tell();
            known = STORIED;
        }
    }

    private static boolean within(int value, int limit) {
        return value >= 0 && value < limit;
    }

    private static boolean hasBit(long bits, int bit) {
        return (bits >> bit & 1L) != 0;
    }

    private static int hoursFrom(int from, int to) {
        return (2 << to) - (1 << from);
    }

    private static int hoursAhead(int hour) {
        return (1 << hour) - 1;
    }

    /** LAYERS with AGE and WEALTH, and the WAYS between SITES. */
    private static final class Sites {
        final int[] ages = new int[SITES * LAYERS];
        final int[] riches = new int[SITES * LAYERS];
        final int[] layers = new int[SITES];
        final int[] ways = new int[SITES * SITES];

        void tellLayer(int site, int layer, int age) {
            ages[site * LAYERS + layer] = age;
            layers[site] |= 1 << layer;
        }

        void tellWay(int a, int b, int length) {
            ways[a * SITES + b] = length;
            ways[b * SITES + a] = length;
        }

        boolean isTold(int site, int layer) {
            return hasBit(layers[site], layer);
        }

        int ageOf(int site, int layer) {
            return ages[site * LAYERS + layer];
        }

        int layersAt(int site) {
            return Integer.bitCount(layers[site]);
        }

        int layersTold() {
            int all = 0;
            for (int site = 0; site < SITES; site++) {
                all += layersAt(site);
            }
            return all;
        }

        int layerOfNumber(int site, int number) {
            int ahead = 0;
            for (int layer = 0; layer < LAYERS; layer++) {
                if (isTold(site, layer)) {
                    if (ahead == number) {
                        return layer;
                    }
                    ahead++;
                }
            }
            return 0;
        }
    }

    /** Lines of HERE, the HOURS of each as bits. */
    private static final class Lines {
        final int[] hand = new int[LINES];
        final int[] site = new int[LINES];
        final int[] day = new int[LINES];
        final int[] hours = new int[LINES];
        /** HOURS at which the line's HAND is ALONE at its SITE on its DAY, by all its lines there. */
        final int[] alone = new int[LINES];
        int size;
        private boolean weighed;

        boolean tellLine(int newHand, int newSite, int newDay, int newHours) {
            if (size >= LINES || isElsewhere(newHand, newSite, newDay, newHours)) {
                return false;
            }
            hand[size] = newHand;
            site[size] = newSite;
            day[size] = newDay;
            hours[size] = newHours;
            size++;
            weighed = false;
            return true;
        }

        void keepFirst(int many) {
            size = many;
            weighed = false;
        }

        private boolean isElsewhere(int aHand, int aSite, int aDay, int someHours) {
            for (int i = 0; i < size; i++) {
                if (hand[i] == aHand && day[i] == aDay && site[i] != aSite
                        && (hours[i] & someHours) != 0) {
                    return true;
                }
            }
            return false;
        }

        int whoAt(int aSite, int aDay, int hour) {
            int who = 0;
            for (int i = 0; i < size; i++) {
                if (site[i] == aSite && day[i] == aDay && hasBit(hours[i], hour)) {
                    who |= 1 << hand[i];
                }
            }
            return who;
        }

        void weigh() {
            if (weighed) {
                return;
            }
            for (int i = 0; i < size; i++) {
                int own = 0;
                int others = 0;
                for (int k = 0; k < size; k++) {
                    if (site[k] != site[i] || day[k] != day[i]) {
                        continue;
                    }
                    if (hand[k] == hand[i]) {
                        own |= hours[k];
                    } else {
                        others |= hours[k];
                    }
                }
                alone[i] = own & ~others;
            }
            weighed = true;
        }

        int aloneHours(int aHand, int aSite, int aDay) {
            for (int i = 0; i < size; i++) {
                if (hand[i] == aHand && site[i] == aSite && day[i] == aDay) {
                    return alone[i];
                }
            }
            return 0;
        }
    }

    /** FINDS, those SEEN and PAPERS, each in the order of telling. */
    private static final class Told {
        final int[] site = new int[FINDS];
        final int[] layer = new int[FINDS];
        final int[] day = new int[FINDS];
        final int[] hour = new int[FINDS];
        final int[] hand = new int[FINDS];
        final int[] marks = new int[FINDS];
        final int[] stone = new int[FINDS];
        int finds;
        final int[] seenHand = new int[SEEN];
        final int[] seenSite = new int[SEEN];
        final int[] seenDay = new int[SEEN];
        int sights;
        final int[] paperDay = new int[PAPERS];
        int papers;

        int tellFind(int aSite, int aLayer, int aDay, int anHour, int aHand, int bits, int aStone) {
            if (finds >= FINDS || (finds > 0 && aDay < day[finds - 1])) {
                return NONE;
            }
            site[finds] = aSite;
            layer[finds] = aLayer;
            day[finds] = aDay;
            hour[finds] = anHour;
            hand[finds] = aHand;
            marks[finds] = bits;
            stone[finds] = aStone;
            finds++;
            return finds - 1;
        }

        boolean tellSeen(int aHand, int aSite, int aDay) {
            if (sights >= SEEN) {
                return false;
            }
            seenHand[sights] = aHand;
            seenSite[sights] = aSite;
            seenDay[sights] = aDay;
            sights++;
            return true;
        }

        boolean tellPaper(int aDay) {
            if (papers >= PAPERS) {
                return false;
            }
            paperDay[papers] = aDay;
            papers++;
            return true;
        }

        int papersUpTo(int aDay) {
            int many = 0;
            for (int i = 0; i < papers; i++) {
                if (paperDay[i] <= aDay) {
                    many++;
                }
            }
            return many;
        }

        long allFinds() {
            return (1L << finds) - 1;
        }

        long findsWithout(int aHand) {
            long left = 0;
            for (int i = 0; i < finds; i++) {
                if (hand[i] != aHand) {
                    left |= 1L << i;
                }
            }
            return left;
        }

        long findsAt(int siteBits) {
            long there = 0;
            for (int i = 0; i < finds; i++) {
                if (hasBit(siteBits, site[i])) {
                    there |= 1L << i;
                }
            }
            return there;
        }
    }

    /** MARKS 0 to 3 that are laid and gone back to. */
    private static final class Places {
        static final int FINDS_THEN = 0;
        static final int LINES_THEN = 1;
        static final int SEEN_THEN = 2;
        static final int PAPERS_THEN = 3;
        static final int GROUNDS_THEN = 4;
        private static final int KEPT = 5;

        private final int[] counts = new int[PLACES * KEPT];
        /** When each was laid, counted from 1 on; 0: nothing is on it. */
        private final int[] turns = new int[PLACES];
        private int lastTurn;

        void lay(int place, Told told, int lines, int grounds) {
            int base = place * KEPT;
            counts[base + FINDS_THEN] = told.finds;
            counts[base + LINES_THEN] = lines;
            counts[base + SEEN_THEN] = told.sights;
            counts[base + PAPERS_THEN] = told.papers;
            counts[base + GROUNDS_THEN] = grounds;
            lastTurn++;
            turns[place] = lastTurn;
        }

        boolean goBack(int place) {
            if (turns[place] == 0) {
                return false;
            }
            for (int i = 0; i < PLACES; i++) {
                if (turns[i] > turns[place]) {
                    turns[i] = 0;
                }
            }
            return true;
        }

        int kept(int place, int what) {
            return counts[place * KEPT + what];
        }
    }

    /** A LAW: each line's E in the order in which it is worked out, operands ahead of what joins them. */
    private static final class Law {
        static final int LIKE = 6;
        static final int BAR = 0;
        static final int ODDLY = BAR + LIKE;
        static final int RULE = ODDLY + LIKE;
        static final int ENOUGH = RULE + RULES;
        private static final int SLOTS = ENOUGH + 1;

        /** Steps below this are NUMBERS, then come facts, then what joins. */
        static final int FACT = 10000;
        static final int NOT = 20000;
        static final int AND = 20001;
        static final int OR = 20002;
        static final int LESS = 20003;
        static final int SAME = 20004;
        static final int PLUS = 20005;
        static final int MINUS = 20006;
        static final int TIMES = 20007;

        /** Five levels keep four operands waiting each, at most, and one more is at hand. */
        private static final int WAITING = 32;

        final int[] steps = new int[SIGNS];
        int size;
        final int[] start = new int[SLOTS];
        final int[] end = new int[SLOTS];
        int bars;
        int odds;
        int since = 3;
        int far = 100;
        private final int[] waiting = new int[WAITING];

        void empty() {
            size = 0;
            Arrays.fill(start, 0);
            Arrays.fill(end, 0);
            bars = 0;
            odds = 0;
            since = 3;
            far = 100;
        }

        void takeOver(Law other) {
            System.arraycopy(other.steps, 0, steps, 0, other.size);
            System.arraycopy(other.start, 0, start, 0, SLOTS);
            System.arraycopy(other.end, 0, end, 0, SLOTS);
            size = other.size;
            bars = other.bars;
            odds = other.odds;
            since = other.since;
            far = other.far;
        }

        boolean isTold(int slot) {
            return end[slot] > start[slot];
        }

        int rulesTold() {
            int many = 0;
            for (int i = 0; i < RULES; i++) {
                if (isTold(RULE + i)) {
                    many++;
                }
            }
            return many;
        }

        void addStep(int step) {
            if (size < SIGNS) {
                steps[size] = step;
                size++;
            }
        }

        int judgeBy(int[] facts, int base) {
            for (int i = 0; i < bars; i++) {
                if (valueOf(BAR + i, facts, base) != 0) {
                    return BARRED;
                }
            }
            for (int i = 0; i < odds; i++) {
                if (valueOf(ODDLY + i, facts, base) != 0) {
                    return ODD;
                }
            }
            return 0;
        }

        int valueOf(int slot, int[] facts, int base) {
            int top = 0;
            for (int i = start[slot]; i < end[slot]; i++) {
                int step = steps[i];
                if (step < NOT) {
                    if (top < WAITING) {
                        waiting[top] = step < FACT ? step : facts[base + step - FACT];
                        top++;
                    }
                } else if (step == NOT) {
                    if (top > 0) {
                        waiting[top - 1] = waiting[top - 1] == 0 ? 1 : 0;
                    }
                } else if (top > 1) {
                    top--;
                    waiting[top - 1] = join(step, waiting[top - 1], waiting[top]);
                }
            }
            return top > 0 ? waiting[0] : 0;
        }

        private static int join(int step, int left, int right) {
            switch (step) {
                case AND:
                    return left != 0 && right != 0 ? 1 : 0;
                case OR:
                    return left != 0 || right != 0 ? 1 : 0;
                case LESS:
                    return left < right ? 1 : 0;
                case SAME:
                    return left == right ? 1 : 0;
                case PLUS:
                    return left + right;
                case MINUS:
                    return left - right;
                default:
                    return left * right;
            }
        }
    }

    /** The TAPE, and how it is read as a LAW. */
    private static final class Reader {
        private static final String FACTS_OF_FIND =
                "rust under soil hole worn fresh turned clean age layer hour stone first alone dawn others twins";
        private static final String FACTS_OF_DAY = "day finds barred odd pairs most dawns papers";
        private static final String LINES_OF_LAW = "bar odd rule since far enough";

        private static final int END = 0;
        private static final int WORD = 1;
        private static final int NUMBER = 2;
        private static final int SIGN = 3;
        private static final int NO_TOKEN = 4;

        private static final int CANNOT_STAND = 1;
        private static final int SECOND_TIME = 3;
        private static final int NOT_AS_TOLD = 4;
        private static final int TOO_MANY = 5;

        private static final int DEEP = 5;
        private static final int LETTERS = 8;
        private static final int DIGITS = 4;

        private final char[] tape = new char[SIGNS];
        int size;
        final Law draft = new Law();

        private int kind;
        private int place;
        private int next;
        private int number;
        private int fault;
        private boolean sinceTold;
        private boolean farTold;
        private String factWords = FACTS_OF_FIND;

        void takeSigns(long eight) {
            for (int shift = 56; shift >= 0; shift -= 8) {
                int sign = (int) (eight >> shift & 255L);
                if ((sign == 10 || (sign >= 32 && sign <= 126)) && size < SIGNS) {
                    tape[size] = (char) sign;
                    size++;
                }
            }
        }

        int readLaw() {
            draft.empty();
            fault = 0;
            sinceTold = false;
            farTold = false;
            next = 0;
            advance();
            boolean fine = true;
            for (int turn = 0; turn <= SIGNS && kind != END && fine; turn++) {
                switch (wordIn(LINES_OF_LAW)) {
                    case 0:
                        fine = barLine();
                        break;
                    case 1:
                        fine = oddLine();
                        break;
                    case 2:
                        fine = ruleLine();
                        break;
                    case 3:
                        fine = sinceLine();
                        break;
                    case 4:
                        fine = farLine();
                        break;
                    case 5:
                        fine = enoughLine();
                        break;
                    default:
                        fine = wrong(CANNOT_STAND);
                }
            }
            size = 0;
            return fault;
        }

        private boolean barLine() {
            if (draft.bars >= Law.LIKE) {
                return wrong(TOO_MANY);
            }
            advance();
            if (!takeWord("when") || !wholeE(Law.BAR + draft.bars, FACTS_OF_FIND)) {
                return false;
            }
            draft.bars++;
            return true;
        }

        private boolean oddLine() {
            if (draft.odds >= Law.LIKE) {
                return wrong(TOO_MANY);
            }
            advance();
            if (!takeWord("when") || !wholeE(Law.ODDLY + draft.odds, FACTS_OF_FIND)) {
                return false;
            }
            draft.odds++;
            return true;
        }

        private boolean ruleLine() {
            advance();
            if (!isNumberUpTo(RULES - 1)) {
                return false;
            }
            int slot = Law.RULE + number;
            if (draft.isTold(slot)) {
                return wrong(SECOND_TIME);
            }
            advance();
            return takeWord("stops") && wholeE(slot, FACTS_OF_FIND);
        }

        private boolean sinceLine() {
            if (sinceTold) {
                return wrong(SECOND_TIME);
            }
            sinceTold = true;
            advance();
            if (!isNumberUpTo(9)) {
                return false;
            }
            draft.since = number;
            advance();
            return takeSign(';');
        }

        private boolean farLine() {
            if (farTold) {
                return wrong(SECOND_TIME);
            }
            farTold = true;
            advance();
            if (!isNumberUpTo(WAYS - 1)) {
                return false;
            }
            draft.far = number;
            advance();
            return takeSign(';');
        }

        private boolean enoughLine() {
            if (draft.isTold(Law.ENOUGH)) {
                return wrong(SECOND_TIME);
            }
            advance();
            return takeWord("when") && wholeE(Law.ENOUGH, FACTS_OF_DAY);
        }

        private boolean wholeE(int slot, String words) {
            factWords = words;
            draft.start[slot] = draft.size;
            if (!expression(0)) {
                return false;
            }
            draft.end[slot] = draft.size;
            return takeSign(';');
        }

        private boolean expression(int depth) {
            if (!comparison(depth)) {
                return false;
            }
            for (int turn = 0; turn < SIGNS; turn++) {
                int which = wordIn("and or");
                if (which == NONE) {
                    return true;
                }
                advance();
                if (!comparison(depth)) {
                    return false;
                }
                draft.addStep(which == 0 ? Law.AND : Law.OR);
            }
            return true;
        }

        private boolean comparison(int depth) {
            if (!sum(depth)) {
                return false;
            }
            boolean less = isSign('<');
            if (!less && !isSign('=')) {
                return true;
            }
            advance();
            if (!sum(depth)) {
                return false;
            }
            draft.addStep(less ? Law.LESS : Law.SAME);
            return true;
        }

        private boolean sum(int depth) {
            if (!product(depth)) {
                return false;
            }
            for (int turn = 0; turn < SIGNS; turn++) {
                boolean plus = isSign('+');
                if (!plus && !isSign('-')) {
                    return true;
                }
                advance();
                if (!product(depth)) {
                    return false;
                }
                draft.addStep(plus ? Law.PLUS : Law.MINUS);
            }
            return true;
        }

        private boolean product(int depth) {
            if (!part(depth)) {
                return false;
            }
            for (int turn = 0; turn < SIGNS; turn++) {
                if (!isSign('*')) {
                    return true;
                }
                advance();
                if (!part(depth)) {
                    return false;
                }
                draft.addStep(Law.TIMES);
            }
            return true;
        }

        /** What can't stand here is told ahead of what lies too deep: of two FAULTS of a token the least counts. */
        private boolean part(int depth) {
            boolean opens = isSign('(');
            boolean turns = wordIn("not") == 0;
            int fact = wordIn(factWords);
            if (!opens && !turns && fact == NONE && kind != NUMBER) {
                return wrong(CANNOT_STAND);
            }
            if (depth >= DEEP) {
                return wrong(TOO_MANY);
            }
            if (kind == NUMBER) {
                draft.addStep(number);
            } else if (fact != NONE) {
                draft.addStep(Law.FACT + fact);
            }
            advance();
            if (opens) {
                return expression(depth + 1) && takeSign(')');
            }
            if (turns) {
                if (!part(depth + 1)) {
                    return false;
                }
                draft.addStep(Law.NOT);
            }
            return true;
        }

        private boolean wrong(int faultKind) {
            fault = faultKind + 16 * place;
            return false;
        }

        private boolean isNumberUpTo(int most) {
            if (kind != NUMBER) {
                return wrong(CANNOT_STAND);
            }
            return number <= most || wrong(NOT_AS_TOLD);
        }

        private boolean isSign(char sign) {
            return kind == SIGN && tape[place] == sign;
        }

        private boolean takeSign(char sign) {
            if (!isSign(sign)) {
                return wrong(CANNOT_STAND);
            }
            advance();
            return true;
        }

        private boolean takeWord(String word) {
            if (wordIn(word) != 0) {
                return wrong(CANNOT_STAND);
            }
            advance();
            return true;
        }

        /** The number of the token at hand among words with one blank between. */
        private int wordIn(String words) {
            if (kind != WORD) {
                return NONE;
            }
            int which = 0;
            int from = 0;
            for (int i = 0; i <= words.length(); i++) {
                if (i == words.length() || words.charAt(i) == ' ') {
                    if (i - from == next - place && hasLetters(words, from)) {
                        return which;
                    }
                    which++;
                    from = i + 1;
                }
            }
            return NONE;
        }

        private boolean hasLetters(String words, int from) {
            for (int i = place; i < next; i++) {
                if (tape[i] != words.charAt(from + i - place)) {
                    return false;
                }
            }
            return true;
        }

        private void advance() {
            place = next;
            while (place < size && (tape[place] == 10 || tape[place] == ' ')) {
                place++;
            }
            next = place;
            if (place >= size) {
                kind = END;
            } else if (tape[place] >= 'a' && tape[place] <= 'z') {
                readWord();
            } else if (tape[place] >= '0' && tape[place] <= '9') {
                readNumber();
            } else {
                kind = "()<=+-*;".indexOf(tape[place]) >= 0 ? SIGN : NO_TOKEN;
                next++;
            }
        }

        private void readWord() {
            while (next < size && tape[next] >= 'a' && tape[next] <= 'z') {
                next++;
            }
            kind = next - place <= LETTERS ? WORD : NO_TOKEN;
        }

        private void readNumber() {
            number = 0;
            while (next < size && tape[next] >= '0' && tape[next] <= '9') {
                number = number * 10 + tape[next] - '0';
                next++;
            }
            kind = next - place <= DIGITS ? NUMBER : NO_TOKEN;
        }
    }

    /** Facts of FINDS, what the LAW says of them, and the DAY of ENOUGH. */
    private static final class Judge {
        private static final int DAY_FACTS = 8;
        private static final int UNKNOWN = -2;
        /** The row behind those of the FINDS is for what is FOUND in a WORLD. */
        private static final int SPARE = FINDS * FACTS;

        private final Sites sites;
        private final Lines lines;
        private final Told told;
        final Law law;
        final int[] facts = new int[(FINDS + 1) * FACTS];
        final int[] verdict = new int[FINDS];
        final long[] twins = new long[FINDS];
        private final int[] dayFacts = new int[DAY_FACTS];
        private final int[] perHand = new int[HANDS];
        private int enoughDay = UNKNOWN;

        Judge(Sites sites, Lines lines, Told told, Law law) {
            this.sites = sites;
            this.lines = lines;
            this.told = told;
            this.law = law;
        }

        void forget() {
            enoughDay = UNKNOWN;
        }

        void judgeAll() {
            pairTwins();
            int greatest = NONE;
            for (int i = 0; i < told.finds; i++) {
                int base = i * FACTS;
                placeFacts(base, told.site[i], told.day[i], told.hour[i], told.hand[i]);
                greatest = thingFacts(base, told.site[i], told.layer[i], told.marks[i], greatest);
                facts[base + STONE] = told.stone[i];
                facts[base + TWINS] = Long.bitCount(twins[i]);
                verdict[i] = law.judgeBy(facts, base);
            }
        }

        private void pairTwins() {
            for (int i = 0; i < told.finds; i++) {
                twins[i] = 0;
                for (int k = 0; k < told.finds; k++) {
                    if (told.stone[i] == told.stone[k]
                            && sites.ways[told.site[i] * SITES + told.site[k]] > law.far) {
                        twins[i] |= 1L << k;
                    }
                }
            }
        }

        private void placeFacts(int base, int site, int day, int hour, int hand) {
            int alone = lines.aloneHours(hand, site, day);
            facts[base + HOUR] = hour;
            facts[base + ALONE] = hasBit(alone, hour) ? 1 : 0;
            facts[base + DAWN] = Integer.bitCount(alone & hoursAhead(hour));
            facts[base + OTHERS] = Integer.bitCount(lines.whoAt(site, day, hour) & ~(1 << hand));
        }

        /** Answers the greatest AGE with this one, for the fact first of the next. */
        private int thingFacts(int base, int site, int layer, int marks, int greatestAhead) {
            for (int mark = 0; mark < MARKS; mark++) {
                facts[base + mark] = marks >> mark & 1;
            }
            int age = sites.ageOf(site, layer);
            facts[base + AGE] = age;
            facts[base + LAYER] = layer;
            facts[base + FIRST] = age > greatestAhead ? 1 : 0;
            return Math.max(age, greatestAhead);
        }

        int judgeFound(int line, int hour, int layer, int marks, int stone, int greatestAhead) {
            int site = lines.site[line];
            placeFacts(SPARE, site, lines.day[line], hour, lines.hand[line]);
            thingFacts(SPARE, site, layer, marks, greatestAhead);
            facts[SPARE + STONE] = stone;
            facts[SPARE + TWINS] = 0;
            return law.judgeBy(facts, SPARE);
        }

        boolean isStopped(int rule, int find) {
            return law.valueOf(Law.RULE + rule, facts, find * FACTS) != 0;
        }

        int findsOf(int hand) {
            int many = 0;
            for (int i = 0; i < told.finds; i++) {
                if (hand == NONE || told.hand[i] == hand) {
                    many++;
                }
            }
            return many;
        }

        int findsOfSort(int hand, int sort) {
            int many = 0;
            for (int i = 0; i < told.finds; i++) {
                if ((hand == NONE || told.hand[i] == hand) && isOfSort(i, sort)) {
                    many++;
                }
            }
            return many;
        }

        private boolean isOfSort(int find, int sort) {
            if (sort == 2) {
                return verdict[find] != 0;
            }
            return facts[find * FACTS + (sort == 0 ? DAWN : FIRST)] > 0;
        }

        int dayOfEnough() {
            if (enoughDay == UNKNOWN) {
                enoughDay = law.isTold(Law.ENOUGH) ? seekDay() : NONE;
            }
            return enoughDay;
        }

        private int seekDay() {
            Arrays.fill(dayFacts, 0);
            Arrays.fill(perHand, 0);
            int find = 0;
            for (int day = 0; day < DAYS; day++) {
                while (find < told.finds && told.day[find] <= day) {
                    addToDay(find);
                    find++;
                }
                dayFacts[0] = day;
                dayFacts[7] = told.papersUpTo(day);
                if (law.valueOf(Law.ENOUGH, dayFacts, 0) != 0) {
                    return day;
                }
            }
            return NONE;
        }

        /** FINDS come by their DAYS, so each pair of TWINS is counted at its later FIND. */
        private void addToDay(int find) {
            dayFacts[1]++;
            dayFacts[2] += verdict[find] == BARRED ? 1 : 0;
            dayFacts[3] += verdict[find] == ODD ? 1 : 0;
            dayFacts[4] += Long.bitCount(twins[find] & ((1L << find) - 1));
            int hand = told.hand[find];
            perHand[hand]++;
            dayFacts[5] = Math.max(dayFacts[5], perHand[hand]);
            dayFacts[6] += facts[find * FACTS + DAWN] > 0 ? 1 : 0;
        }
    }

    /** Who CAN and may have put FINDS, the STORIES, what is DOUBTED and the RULES against it. */
    private static final class Story {
        private static final int SETS = 1 << HANDS;

        private final Lines lines;
        private final Told told;
        private final Law law;
        private final Judge judge;
        final int[] able = new int[FINDS];
        final int[] maybe = new int[FINDS];
        long planted;
        long doubts;
        private final boolean[] refuted = new boolean[SETS];
        private int many;
        private int fewest;
        private int first;
        private int inAll;
        private int inSome;
        private final int[] stoppers = new int[FINDS];

        Story(Lines lines, Told told, Law law, Judge judge) {
            this.lines = lines;
            this.told = told;
            this.law = law;
            this.judge = judge;
        }

        void tell() {
            planted = 0;
            for (int i = 0; i < told.finds; i++) {
                able[i] = whoCan(i);
                int caught = whoWasSeen(i) & able[i];
                maybe[i] = caught != 0 ? caught : able[i];
                if (caught != 0 || judge.verdict[i] == BARRED) {
                    planted |= 1L << i;
                }
            }
            refuteAll();
            countStories();
            doubt();
        }

        private int whoCan(int find) {
            int who = 0;
            for (int i = 0; i < lines.size; i++) {
                int daysAhead = told.day[find] - lines.day[i];
                if (lines.site[i] != told.site[find] || daysAhead < 0 || daysAhead > law.since) {
                    continue;
                }
                int hours = daysAhead == 0 ? hoursAhead(told.hour[find]) : hoursAhead(HOURS);
                if ((lines.alone[i] & hours) != 0) {
                    who |= 1 << lines.hand[i];
                }
            }
            return who;
        }

        private int whoWasSeen(int find) {
            int who = 0;
            for (int i = 0; i < told.sights; i++) {
                int daysAhead = told.day[find] - told.seenDay[i];
                if (told.seenSite[i] == told.site[find] && daysAhead >= 0 && daysAhead <= law.since) {
                    who |= 1 << told.seenHand[i];
                }
            }
            return who;
        }

        private void refuteAll() {
            for (int set = 0; set < SETS; set++) {
                refuted[set] = false;
            }
            for (int i = 0; i < told.finds; i++) {
                if (hasBit(planted, i)) {
                    refuteWithout(maybe[i]);
                }
                for (int k = 0; k < i; k++) {
                    if (hasBit(judge.twins[i], k)) {
                        refuteWithout(maybe[i] | maybe[k]);
                    }
                }
            }
            spreadToSmaller();
        }

        private void refuteWithout(int hands) {
            refuted[SETS - 1 & ~hands] = true;
        }

        /** A set within one that has nobody of those needed has nobody of them either. */
        private void spreadToSmaller() {
            for (int hand = 0; hand < HANDS; hand++) {
                for (int set = 0; set < SETS; set++) {
                    if (refuted[set | 1 << hand]) {
                        refuted[set] = true;
                    }
                }
            }
        }

        private void countStories() {
            many = 0;
            fewest = HANDS + 1;
            first = 0;
            inAll = 0;
            inSome = 0;
            for (int set = 0; set < SETS; set++) {
                if (refuted[set]) {
                    continue;
                }
                many++;
                int size = Integer.bitCount(set);
                if (size < fewest) {
                    fewest = size;
                    first = set;
                    inAll = set;
                    inSome = set;
                } else if (size == fewest) {
                    inAll &= set;
                    inSome |= set;
                }
            }
        }

        private void doubt() {
            doubts = 0;
            for (int i = 0; i < told.finds; i++) {
                if (judge.verdict[i] != 0 || hasBit(inSome, told.hand[i])) {
                    doubts |= 1L << i;
                }
            }
        }

        int answer(int what) {
            if (what == 0) {
                return many;
            }
            if (many == 0) {
                return NONE;
            }
            switch (what) {
                case 1:
                    return fewest;
                case 2:
                    return first;
                case 3:
                    return inAll;
                default:
                    return inSome;
            }
        }

        int leastRules() {
            int needed = 0;
            for (int i = 0; i < told.finds; i++) {
                if (hasBit(doubts, i) && able[i] != 0) {
                    stoppers[needed] = rulesAgainst(i);
                    needed++;
                }
            }
            int best = NONE;
            for (int set = 0; set < 1 << RULES; set++) {
                boolean fewer = best == NONE || Integer.bitCount(set) < Integer.bitCount(best);
                if (fewer && stopsAll(set, needed)) {
                    best = set;
                }
            }
            return best;
        }

        private int rulesAgainst(int find) {
            int against = 0;
            for (int rule = 0; rule < RULES; rule++) {
                if (law.isTold(Law.RULE + rule) && judge.isStopped(rule, find)) {
                    against |= 1 << rule;
                }
            }
            return against;
        }

        private boolean stopsAll(int set, int needed) {
            for (int i = 0; i < needed; i++) {
                if ((stoppers[i] & set) == 0) {
                    return false;
                }
            }
            return true;
        }
    }

    /** CLAIMS and their GROUNDS: what STANDS, CUTS, and where to DIG AGAIN. */
    private static final class Claims {
        private static final int ALL = (1 << CLAIMS) - 1;
        private static final int MOST_DOUBTS = 10;
        private static final int LARGEST_CUT = 3;

        private final Told told;
        private final int[] claim = new int[CLAIMS * GROUNDS];
        private final long[] finds = new long[CLAIMS * GROUNDS];
        private final int[] claims = new int[CLAIMS * GROUNDS];
        int size;

        final int[] picks = new int[LARGEST_CUT];
        private int cutOf = NONE;
        private int cutFinds;

        /** The best single SITE and pair: for how many, the first, the second. */
        private final int[] best = new int[6];
        private int bestKnown;

        Claims(Told told) {
            this.told = told;
        }

        void forget() {
            cutOf = NONE;
            bestKnown = 0;
        }

        boolean tellGround(int aClaim, long someFinds, int someClaims) {
            int have = 0;
            for (int i = 0; i < size; i++) {
                if (claim[i] == aClaim) {
                    have++;
                }
            }
            if (have >= GROUNDS || size >= CLAIMS * GROUNDS) {
                return false;
            }
            claim[size] = aClaim;
            finds[size] = someFinds;
            claims[size] = someClaims;
            size++;
            return true;
        }

        /** From nothing upwards, so that a CLAIM that needs itself never comes in. */
        int standWith(long left) {
            int stand = 0;
            for (int round = 0; round < CLAIMS; round++) {
                int ahead = stand;
                for (int i = 0; i < size; i++) {
                    if ((finds[i] & ~left) == 0 && (claims[i] & ~stand) == 0) {
                        stand |= 1 << claim[i];
                    }
                }
                if (stand == ahead) {
                    break;
                }
            }
            return stand;
        }

        private long findsInGrounds() {
            long used = 0;
            for (int i = 0; i < size; i++) {
                used |= finds[i];
            }
            return used;
        }

        /** 0: it does not STAND, or there is no CUT of three or fewer. */
        int cutSize(int aClaim) {
            if (cutOf != aClaim) {
                cutOf = aClaim;
                cutFinds = seekCut(aClaim);
            }
            return cutFinds;
        }

        private int seekCut(int aClaim) {
            long all = told.allFinds();
            if (!hasBit(standWith(all), aClaim)) {
                return 0;
            }
            long used = findsInGrounds();
            for (int many = 1; many <= LARGEST_CUT; many++) {
                if (cuts(aClaim, many, 0, all, used)) {
                    turnPicks(many);
                    return many;
                }
            }
            return 0;
        }

        /** Picks so many more out of the FINDS from one on; the first pick lies at the highest place. */
        private boolean cuts(int aClaim, int more, int from, long left, long used) {
            if (more < 1 || more > LARGEST_CUT) {
                return !hasBit(standWith(left), aClaim);
            }
            // If all from here on are not enough together, no few of them are.
            if (hasBit(standWith(left & ((1L << from) - 1)), aClaim)) {
                return false;
            }
            for (int i = from; i < told.finds; i++) {
                if (hasBit(used, i)) {
                    picks[more - 1] = i;
                    if (cuts(aClaim, more - 1, i + 1, left & ~(1L << i), used)) {
                        return true;
                    }
                }
            }
            return false;
        }

        private void turnPicks(int many) {
            int last = picks[0];
            picks[0] = picks[many - 1];
            picks[many - 1] = last;
        }

        int settledWhen(long sure, long doubts) {
            return standWith(sure) | ALL & ~standWith(sure | doubts);
        }

        /** For how many CLAIMS it is good to DIG AGAIN at these SITES; NONE: too many DOUBTED there. */
        int goodFor(int siteBits, long doubts) {
            long known = doubts & told.findsAt(siteBits);
            if (Long.bitCount(known) > MOST_DOUBTS) {
                return NONE;
            }
            long sure = told.allFinds() & ~doubts;
            long rest = doubts & ~known;
            // What no GROUND leans on changes nothing, however it comes out.
            long asked = known & findsInGrounds();
            int open = ALL & ~settledWhen(sure, doubts);
            int good = ALL;
            long outcome = 0;
            int outcomes = 1 << Long.bitCount(asked);
            for (int i = 0; i < outcomes && (good & open) != 0; i++) {
                good &= settledWhen(sure | outcome, rest);
                outcome = outcome - asked & asked;
            }
            return Integer.bitCount(good);
        }

        int bestSites(int many, int what, long doubts) {
            if (!hasBit(bestKnown, many)) {
                seekBest(many, doubts);
                bestKnown |= 1 << many;
            }
            int base = (many - 1) * 3;
            return best[base] == NONE ? NONE : best[base + what];
        }

        private void seekBest(int many, long doubts) {
            int base = (many - 1) * 3;
            best[base] = NONE;
            for (int a = 0; a < SITES; a++) {
                if (many == 1) {
                    offer(base, goodFor(1 << a, doubts), a, NONE);
                    continue;
                }
                for (int b = a + 1; b < SITES; b++) {
                    offer(base, goodFor(1 << a | 1 << b, doubts), a, b);
                }
            }
        }

        private void offer(int base, int good, int a, int b) {
            if (good > best[base]) {
                best[base] = good;
                best[base + 1] = a;
                best[base + 2] = b;
            }
        }
    }

    /** ODDS and LUCK as whole numbers; all of them lie within a long. */
    private static final class Chance {
        private static final int LONGEST = 200;

        static long choose(int from, int many) {
            long ways = 1;
            for (int i = 1; i <= many; i++) {
                ways = ways * (from - many + i) / i;
            }
            return many < 0 || many > from ? 0 : ways;
        }

        static long drawsWith(int all, int ofSort, int drawn, int hits) {
            long ways = 0;
            for (int i = hits; i <= Math.min(drawn, ofSort); i++) {
                ways += choose(ofSort, i) * choose(all - ofSort, drawn - i);
            }
            return ways;
        }

        static long findsSoMany(int a, int q, int k) {
            long ways = 0;
            for (int i = k; i <= q; i++) {
                ways += choose(q, i) * power(a, i) * power(10 - a, q - i);
            }
            return ways;
        }

        static long power(long base, int times) {
            long value = 1;
            for (int i = 0; i < times; i++) {
                value *= base;
            }
            return value;
        }

        static long lowest(long above, long below, int what) {
            long common = below;
            long rest = above;
            for (int i = 0; i < LONGEST && rest != 0; i++) {
                long next = common % rest;
                common = rest;
                rest = next;
            }
            long part = what == 0 ? above : below;
            return common == 0 ? part : part / common;
        }
    }

    /** One WORLD at a time, and what came of the first 20 SEEDS. */
    private static final class World {
        /** A tally: what rates() tells in its order, then by how many each MARK parts. */
        static final int LAIN = 0;
        static final int PLANTED = 3;
        static final int RATES = 6;
        static final int PARTS = 6;
        private static final int TALLY = RATES + MARKS;
        private static final int MOST_THERE = 9;

        private final Sites sites;
        private final Lines lines;
        private final Judge judge;
        final int[] skills = new int[HANDS];
        final int[] habits = new int[HANDS];
        /** What MARKS show on what LAY there, then on what was put. */
        final int[] signs = new int[2 * MARKS];

        private final int[] waiting = new int[SITES * MOST_THERE];
        private final int[] there = new int[SITES];
        private long g;
        /** What is FOUND, its parts in bits; a line finds once an HOUR at most. */
        private final int[] things = new int[LINES * HOURS];
        int size;
        final int[] tally = new int[TALLY];
        private final int[] perHand = new int[HANDS];
        int greatestAge;
        private int seedAtHand = NONE;
        private final int[] tallies = new int[WORLDS * TALLY];
        /** Of which of the first SEEDS the tallies hold, as bits. */
        private int tallied;

        World(Sites sites, Lines lines, Judge judge) {
            this.sites = sites;
            this.lines = lines;
            this.judge = judge;
        }

        void forget() {
            seedAtHand = NONE;
            tallied = 0;
        }

        int tallyOfFirst(int n, int what) {
            int all = 0;
            for (int seed = 0; seed < n; seed++) {
                if (!hasBit(tallied, seed)) {
                    live(seed);
                    System.arraycopy(tally, 0, tallies, seed * TALLY, TALLY);
                    tallied |= 1 << seed;
                }
                all += tallies[seed * TALLY + what];
            }
            return all;
        }

        void live(int seed) {
            if (seedAtHand == seed) {
                return;
            }
            lines.weigh();
            g = seed;
            size = 0;
            greatestAge = NONE;
            Arrays.fill(there, 0);
            Arrays.fill(tally, 0);
            Arrays.fill(perHand, 0);
            for (int line = 0; line < lines.size; line++) {
                for (int hour = 0; hour < HOURS; hour++) {
                    if (hasBit(lines.hours[line], hour)) {
                        putOne(line, hour);
                        boolean wasPut = there[lines.site[line]] > 0;
                        int layer = wasPut ? seekPut(line) : seekLain(line);
                        if (layer != NONE) {
                            take(line, hour, layer, wasPut);
                        }
                    }
                }
            }
            seedAtHand = seed;
        }

        private int draw() {
            g = g * 1103515245L + 12345L & 2147483647L;
            return (int) (g / 65536L % 10L);
        }

        private int drawLayer(int site) {
            int layers = sites.layersAt(site);
            return layers > 0 ? sites.layerOfNumber(site, draw() % layers) : NONE;
        }

        private void putOne(int line, int hour) {
            if (!hasBit(lines.alone[line], hour)) {
                return;
            }
            int site = lines.site[line];
            if (draw() < habits[lines.hand[line]] && there[site] < MOST_THERE) {
                int layer = drawLayer(site);
                if (layer != NONE) {
                    waiting[site * MOST_THERE + there[site]] = layer;
                    there[site]++;
                }
            }
        }

        private int seekPut(int line) {
            return draw() < skills[lines.hand[line]] ? takeEarliest(lines.site[line]) : NONE;
        }

        private int seekLain(int line) {
            int layer = drawLayer(lines.site[line]);
            if (layer == NONE) {
                return NONE;
            }
            // Both are drawn, whatever comes of the first.
            boolean rich = draw() < sites.riches[lines.site[line] * LAYERS + layer];
            boolean able = draw() < skills[lines.hand[line]];
            return rich && able ? layer : NONE;
        }

        private int takeEarliest(int site) {
            int base = site * MOST_THERE;
            int layer = waiting[base];
            there[site]--;
            System.arraycopy(waiting, base + 1, waiting, base, there[site]);
            return layer;
        }

        private void take(int line, int hour, int layer, boolean wasPut) {
            int marks = 0;
            for (int mark = 0; mark < MARKS; mark++) {
                if (draw() < signs[wasPut ? MARKS + mark : mark]) {
                    marks |= 1 << mark;
                }
            }
            int tens = draw();
            int stone = tens * 10 + draw();
            int verdict = judge.judgeFound(line, hour, layer, marks, stone, greatestAge);
            int hand = lines.hand[line];
            greatestAge = Math.max(greatestAge, sites.ageOf(lines.site[line], layer));
            perHand[hand]++;
            addToTally(marks, verdict, wasPut);
            if (size < things.length) {
                things[size] = (wasPut ? 1 : 0) | marks << 1 | layer << 9 | hand << 13 | stone << 17
                        | verdict << 24;
                size++;
            }
        }

        private void addToTally(int marks, int verdict, boolean wasPut) {
            int base = wasPut ? PLANTED : LAIN;
            tally[base]++;
            tally[base + 1] += verdict == BARRED ? 1 : 0;
            tally[base + 2] += verdict == ODD ? 1 : 0;
            for (int mark = 0; mark < MARKS; mark++) {
                int has = marks >> mark & 1;
                tally[RATES + mark] += wasPut ? has : -has;
            }
        }

        int partOf(int k, int what) {
            int thing = things[k];
            switch (what) {
                case 0:
                    return thing & 1;
                case 1:
                    return thing >> 1 & 255;
                case 2:
                    return thing >> 9 & 15;
                case 3:
                    return thing >> 13 & 15;
                case 4:
                    return thing >> 17 & 127;
                default:
                    return thing >> 24 & 3;
            }
        }

        int leftOver() {
            int all = 0;
            for (int site = 0; site < SITES; site++) {
                all += there[site];
            }
            return all;
        }

        int luckiest() {
            int best = NONE;
            int most = 0;
            for (int hand = 0; hand < HANDS; hand++) {
                if (perHand[hand] > most) {
                    most = perHand[hand];
                    best = hand;
                }
            }
            return best;
        }
    }
}
