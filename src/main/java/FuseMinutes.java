/** Time measured by burning cords; what each call promises stands in the project's document. */
public final class FuseMinutes {
    public static final int NONE = -1;

    private static final int NO_SUCH = -2;
    private static final int NO_LAW = -100;

    private static final int MOST_CORDS = 4;
    private static final int MOST_SETS = 1 << MOST_CORDS;
    private static final int MOST_MINUTES = 60;
    private static final int MOST_PRICE = 99;
    private static final int MOST_HANDS = 8;
    private static final int MOST_TEXTS = 4;
    private static final int MOST_BYTES = 300;
    private static final int MOST_CLAUSES = 24;
    private static final int MOST_OPEN = 8;
    private static final int MOST_LINES = 30;
    private static final int MOST_STEPS = 30;
    private static final int MOST_WANTED = 4;
    private static final int MOST_TOLD = 8;
    private static final int MOST_SHIFTS = 40;
    private static final int MOST_SEED = 9999;
    private static final int MOST_LIGHTINGS = 12;
    private static final int MOST_LIGHTINGS_RETRIED = 3;
    private static final int MOST_TIMES = 4;
    private static final int TENTHS = 10;

    private static final int MINUTE_SPARKS = 64;
    private static final int LAST_SPARK = 9999 * MINUTE_SPARKS;
    private static final int MOST_SPAN = MOST_CORDS * MOST_MINUTES * MINUTE_SPARKS;
    private static final int SPAN_WORDS = MOST_SPAN / 64 + 1;
    private static final int CHOICES = 81;
    private static final int[] THREES = {1, 3, 9, 27};

    private static final int FIRST_X = 311;
    private static final int MOST_VALUE = 1000000;
    private static final int MOST_NUMBER = 9999;

    private static final int WAS_LIT = 0;
    private static final int WAS_FIZZLED = 1;
    private static final int WAS_SNUFFED = 2;
    private static final int WAS_OUT = 3;

    private static final int LIGHTS_LAW = 0;
    private static final int FAILS_LAW = 1;

    // What a TOKEN is. Signs of one byte are their byte, so words stay below the lowest of these (35).
    private static final int NO_TOKEN = 0;
    private static final int NUMBER = 1;
    private static final int LIGHTS = 2;
    private static final int FAILS = 3;
    private static final int CORD = 4;
    private static final int PRICE = 5;
    private static final int HANDS = 6;
    private static final int LEFT = 7;
    private static final int RIGHT = 8;
    private static final int SNUFF = 9;
    private static final int RENEW = 10;
    private static final int BURN = 11;
    private static final int MINUTE = 12;
    private static final int TWOS = 13;
    private static final int OUT = 14;
    private static final int IF = 15;
    private static final int THEN = 16;
    private static final int ELSE = 17;
    private static final int END = 18;
    private static final int OR = 19;
    private static final int AND = 20;
    private static final int NOT = 21;
    private static final int TIME = 22;
    private static final int REST = 23;
    private static final int LONG = 24;
    private static final int LIT = 25;
    private static final int SIDE = 26;
    private static final int AT_MOST = 128;
    private static final int AT_LEAST = 129;
    private static final int NEGATED = 130;
    private static final int THE_END = 131;

    // In the order of the numbers above from LIGHTS on: a word's number is found by counting.
    private static final String WORDS =
            "lights fails cord price hands left right snuff renew burn minute twos out if then else end or and not time rest long lit side ";
    private static final String SIGNS = "<>=#+-*/();";

    private final Store now = new Store();
    private final Store image = new Store();
    private final Reader reader = new Reader();
    private final Text[] texts = new Text[MOST_TEXTS];
    private final Sums sums = new Sums(now);
    private final Rows rows = new Rows(now.minutes);
    private final Bundles bundles = new Bundles();

    public FuseMinutes() {
        for (int i = 0; i < MOST_TEXTS; i++) {
            texts[i] = new Text();
        }
    }

    public int cord(int minutes, int price) {
        int cord = now.pit.cords;
        if (!within(minutes, 1, MOST_MINUTES) || !within(price, 0, MOST_PRICE) || cord >= MOST_CORDS) {
            return NONE;
        }
        now.minutes[cord] = minutes;
        now.price[cord] = price;
        now.pit.lay(minutes);
        rows.forget(cord);
        return cord;
    }

    public boolean hands(int n) {
        if (!within(n, 1, MOST_HANDS)) {
            return false;
        }
        now.hands = n;
        return true;
    }

    public int feed(int a, int b, int c, int d, int e) {
        if (reader.length + 20 > MOST_BYTES) {
            return NONE;
        }
        reader.append(a);
        reader.append(b);
        reader.append(c);
        reader.append(d);
        reader.append(e);
        return reader.length;
    }

    public int end(int n) {
        if (!within(n, 0, reader.length)) {
            return NONE;
        }
        reader.length = n;
        return n;
    }

    public int text() {
        if (now.texts >= MOST_TEXTS) {
            return NONE;
        }
        reader.readInto(texts[now.texts]);
        reader.length = 0;
        if (reader.fault != 0) {
            return NONE;
        }
        now.texts++;
        return now.texts - 1;
    }

    public int fault(int what) {
        if (what == 0) {
            return reader.fault;
        }
        return what == 1 ? reader.faultPlace : NONE;
    }

    public boolean by(int text) {
        if (text != NONE && !hasText(text)) {
            return false;
        }
        now.ruling = text;
        return true;
    }

    public int light(int cord, boolean right) {
        int side = right ? 1 : 0;
        if (!canLight(cord, side)) {
            return NONE;
        }
        now.steps.push(now.pit);
        return kindle(cord, side);
    }

    public boolean snuff(int cord, boolean right) {
        int side = right ? 1 : 0;
        if (!now.pit.burns(cord, side)) {
            return false;
        }
        now.steps.push(now.pit);
        now.pit.putOut(cord, side);
        return true;
    }

    public boolean renew(int cord) {
        if (!canRenew(cord)) {
            return false;
        }
        now.steps.push(now.pit);
        now.pit.makeNew(cord, now.minutes[cord]);
        return true;
    }

    public int burn() {
        int sparks = now.pit.sparksToBurn();
        if (sparks == NONE) {
            return NONE;
        }
        now.steps.push(now.pit);
        now.pit.pass(sparks);
        return sparks;
    }

    public int minute(int n) {
        if (!within(n, 1, MOST_MINUTES) || !now.pit.hasTimeFor(n)) {
            return NONE;
        }
        int gone = 0;
        for (int i = 0; i < n; i++) {
            now.steps.push(now.pit);
            gone += now.pit.pass(MINUTE_SPARKS);
        }
        return gone;
    }

    public int played(int text) {
        if (!hasText(text)) {
            return NO_SUCH;
        }
        Text played = texts[text];
        for (int i = 0; i < played.clauses && i < MOST_CLAUSES; i++) {
            if (!carriedOut(played.kinds[i], played.firsts[i], played.seconds[i])) {
                return i;
            }
        }
        return NONE;
    }

    public int shifts(int seed, int n) {
        if (!within(seed, 0, MOST_SEED) || !within(n, 1, MOST_SHIFTS)) {
            return NONE;
        }
        now.steps.push(now.pit);
        now.pit.x = seed * 2 + FIRST_X;
        for (int i = 0; i < n; i++) {
            shiftBy(now.pit.draw());
        }
        return now.pit.sparks;
    }

    public int undo() {
        int told = now.pit.cords;
        if (!now.steps.pop(now.pit)) {
            return NONE;
        }
        for (int cord = now.pit.cords; cord < told && cord < MOST_CORDS; cord++) {
            now.pit.lay(now.minutes[cord]);
        }
        return now.steps.count;
    }

    public int of(int cord, int what) {
        if (!now.pit.has(cord)) {
            return NONE;
        }
        switch (what) {
            case 0:
                return now.minutes[cord];
            case 1:
                return now.price[cord];
            case 2:
                return now.pit.rest[cord];
            case 3:
                return now.pit.ends[cord];
            case 4:
                return now.wet >> cord & 1;
            default:
                return NONE;
        }
    }

    public int law(int cord, boolean right, boolean lights) {
        if (!now.pit.has(cord)) {
            return NO_LAW;
        }
        return lights ? lightsSays(cord, right ? 1 : 0) : failsSays(now.ruling, cord);
    }

    public int is(int what) {
        switch (what) {
            case 0:
                return now.pit.sparks;
            case 1:
                return now.pit.x;
            case 2:
                return now.pit.lit;
            case 3:
                return now.pit.endsBurning();
            default:
                return NO_SUCH;
        }
    }

    public int book(int i, int what) {
        Pit pit = now.pit;
        if (i == NONE) {
            return pit.lines;
        }
        if (i < 0 || i >= pit.lines || i >= MOST_LINES || !within(what, 0, 3)) {
            return NO_SUCH;
        }
        return partOfLine(pit.book[i], what);
    }

    public int foretold(int n, int cord) {
        if (!within(n, 1, MOST_MINUTES) || !now.pit.has(cord)) {
            return NONE;
        }
        int burnt = n * MINUTE_SPARKS * Integer.bitCount(now.pit.ends[cord]);
        return Math.max(0, now.pit.rest[cord] - burnt);
    }

    public int out(int cord) {
        if (!now.pit.has(cord)) {
            return NONE;
        }
        return now.pit.rest[cord] == 0 ? 0 : now.pit.sparksToOut(cord);
    }

    public int spans(int cords, int i) {
        if (!isSet(cords)) {
            return NO_SUCH;
        }
        return i == NONE ? rows.countSpans(cords) : rows.spanNumber(cords, i);
    }

    public boolean can(int cords, int span) {
        return isSet(cords) && rows.gives(cords, span);
    }

    public int fewest(int span) {
        int best = NONE;
        for (int set = 1; set <= allCords(); set++) {
            boolean fewer = best == NONE || Integer.bitCount(set) < Integer.bitCount(best);
            if (fewer && rows.gives(set, span)) {
                best = set;
            }
        }
        return best;
    }

    public int cheapest(int span) {
        int best = NONE;
        int bestCost = 0;
        for (int set = 1; set <= allCords(); set++) {
            // A PRICE counts for more than any number of CORDS, which part sets of like PRICE.
            int cost = now.priceOf(set) * (MOST_CORDS + 1) + Integer.bitCount(set);
            if ((best == NONE || cost < bestCost) && rows.gives(set, span)) {
                best = set;
                bestCost = cost;
            }
        }
        return best;
    }

    public int row(int cords, int span, int i) {
        if (!isSet(cords) || !rows.findRow(cords, span)) {
            return NO_SUCH;
        }
        return i == NONE ? rows.rowEnds : rows.litAt(i);
    }

    public int between(int cords, int span, boolean last) {
        if (!isSet(cords) || !rows.findRow(cords, span)) {
            return NO_SUCH;
        }
        return last ? rows.rowEnds : rows.rowBegins;
    }

    public int nearest(int cords, int span) {
        if (!isSet(cords) || !isSpan(span)) {
            return NONE;
        }
        return rows.nearestTo(cords, span);
    }

    public int want(int span) {
        if (span == NONE) {
            now.wanted.count = 0;
            return 0;
        }
        return isSpan(span) && now.wanted.add(span) ? now.wanted.count : NO_SUCH;
    }

    public int bundle(boolean price) {
        if (!findBundle()) {
            return NONE;
        }
        return price ? now.priceOf(bundles.cords()) : bundles.cords();
    }

    public int part(int i) {
        if (i < 0 || i >= now.wanted.count || !findBundle()) {
            return NONE;
        }
        return bundles.share(i);
    }

    public int crews(int one, int other) {
        if (!isSpan(one) || !isSpan(other)) {
            return NO_SUCH;
        }
        return Crews.outcome(0, 0, setsGiving(one), setsGiving(other), allCords());
    }

    public int take(int one, int other) {
        if (!isSpan(one) || !isSpan(other)) {
            return NONE;
        }
        return Crews.bestFirst(setsGiving(one), setsGiving(other), allCords());
    }

    public boolean wet(int cord, boolean is) {
        if (!now.pit.has(cord)) {
            return false;
        }
        now.wet = is ? now.wet | 1 << cord : now.wet & ~(1 << cord);
        return true;
    }

    public int tried(int cords, boolean failed) {
        if (cords == NONE) {
            now.tried.count = 0;
            return 0;
        }
        int trial = cords * 2 + (failed ? 1 : 0);
        return isSet(cords) && now.tried.add(trial) ? now.tried.count : NO_SUCH;
    }

    public int suspects(int what) {
        if (!within(what, 0, 3)) {
            return NONE;
        }
        int sets = suspectSets();
        if (what == 0) {
            return Integer.bitCount(sets);
        }
        if (sets == 0) {
            return NONE;
        }
        if (what == 1) {
            return Suspects.inAll(sets, allCords());
        }
        return what == 2 ? Suspects.inNone(sets, allCords()) : Suspects.lowest(sets);
    }

    public int test() {
        int sets = suspectSets();
        return Integer.bitCount(sets) < 2 ? NONE : Suspects.bestTrial(sets, allCords());
    }

    public long right(int lightings, int odds, boolean low) {
        if (!within(lightings, 0, MOST_LIGHTINGS) || !within(odds, 0, TENTHS)) {
            return NONE;
        }
        long upper = power(TENTHS - odds, lightings);
        return inLowestTerms(upper, power(TENTHS, lightings), low);
    }

    public long tries(int lightings, int odds, int times, boolean low) {
        boolean counted = within(lightings, 0, MOST_LIGHTINGS_RETRIED) && within(times, 1, MOST_TIMES);
        if (!counted || !within(odds, 0, TENTHS)) {
            return NONE;
        }
        long all = power(TENTHS, times);
        long good = all - power(odds, times);
        return inLowestTerms(power(good, lightings), power(all, lightings), low);
    }

    public int said(int cord, int fails) {
        if (cord == NONE) {
            now.said.count = 0;
            return 0;
        }
        if (!now.pit.has(cord) || !within(fails, 0, TENTHS)) {
            return NO_SUCH;
        }
        return now.said.add(cord * (TENTHS + 1) + fails) ? now.said.count : NO_SUCH;
    }

    public int whose() {
        int whose = 0;
        for (int text = 0; text < now.texts && text < MOST_TEXTS; text++) {
            if (agreesWithAllSaid(text)) {
                whose |= 1 << text;
            }
        }
        return whose;
    }

    public int longest() {
        int longest = NONE;
        int most = 0;
        for (int cord = 0; cord < now.pit.cords && cord < MOST_CORDS; cord++) {
            if (now.pit.rest[cord] > most) {
                most = now.pit.rest[cord];
                longest = cord;
            }
        }
        return longest;
    }

    public int burning() {
        int cords = 0;
        for (int cord = 0; cord < now.pit.cords && cord < MOST_CORDS; cord++) {
            if (now.pit.ends[cord] != 0) {
                cords |= 1 << cord;
            }
        }
        return cords;
    }

    public int dead() {
        int cords = 0;
        for (int cord = 0; cord < now.pit.cords && cord < MOST_CORDS; cord++) {
            if (now.pit.rest[cord] == 0) {
                cords |= 1 << cord;
            }
        }
        return cords;
    }

    public int ledger(int what) {
        if (!within(what, 0, 3)) {
            return NO_SUCH;
        }
        int count = 0;
        for (int i = 0; i < now.pit.lines && i < MOST_LINES; i++) {
            if (partOfLine(now.pit.book[i], 2) == what) {
                count++;
            }
        }
        return count;
    }

    public int image() {
        image.copy(now);
        return now.pit.sparks;
    }

    public int back() {
        now.copy(image);
        return now.pit.sparks;
    }

    public int about(int what) {
        switch (what) {
            case 0:
                return now.pit.cords;
            case 1:
                return now.hands;
            case 2:
                return now.texts;
            case 3:
                return now.ruling;
            case 4:
                return now.steps.count;
            case 5:
                return now.wanted.count;
            case 6:
                return now.tried.count;
            case 7:
                return now.said.count;
            case 8:
                return reader.length;
            default:
                return NO_SUCH;
        }
    }

    private static boolean within(int value, int least, int most) {
        return value >= least && value <= most;
    }

    private static boolean isSpan(int span) {
        return within(span, 1, MOST_SPAN);
    }

    private int allCords() {
        return (1 << now.pit.cords) - 1;
    }

    private boolean isSet(int cords) {
        return within(cords, 1, allCords());
    }

    private boolean hasText(int text) {
        return text >= 0 && text < now.texts && text < MOST_TEXTS;
    }

    private boolean canLight(int cord, int side) {
        Pit pit = now.pit;
        if (!pit.has(cord) || pit.rest[cord] == 0 || pit.burns(cord, side)) {
            return false;
        }
        return pit.lit < now.hands && lightsSays(cord, side) > 0;
    }

    /** Answers 1 if the end burns now, 0 if it fizzled; that it can be lit is looked at before. */
    private int kindle(int cord, int side) {
        // What fails says is asked while this end burns not yet: it may count the ends that burn.
        int fails = failsSays(now.ruling, cord);
        boolean fizzles = now.pit.draw() % TENTHS < fails;
        now.pit.touch(cord, side, fizzles);
        return fizzles ? 0 : 1;
    }

    private boolean canRenew(int cord) {
        Pit pit = now.pit;
        if (!pit.has(cord)) {
            return false;
        }
        return pit.ends[cord] != 0 || pit.rest[cord] < now.minutes[cord] * MINUTE_SPARKS;
    }

    private int lightsSays(int cord, int side) {
        if (!hasText(now.ruling) || !texts[now.ruling].rules(LIGHTS_LAW)) {
            return 1;
        }
        int value = sums.valueOf(texts[now.ruling], LIGHTS_LAW, cord, side);
        return Math.max(-99, Math.min(99, value));
    }

    private int failsSays(int text, int cord) {
        if (!hasText(text) || !texts[text].rules(FAILS_LAW)) {
            return 0;
        }
        int value = sums.valueOf(texts[text], FAILS_LAW, cord, 0);
        return Math.max(0, Math.min(TENTHS, value));
    }

    private boolean carriedOut(int kind, int first, int second) {
        switch (kind) {
            case CORD:
                return cord(first, second) != NONE;
            case HANDS:
                return hands(first);
            case LEFT:
                return light(first, false) != NONE;
            case RIGHT:
                return light(first, true) != NONE;
            case SNUFF:
                return snuff(first, false) || snuff(first, true);
            case RENEW:
                return renew(first);
            case BURN:
                return burn() != NONE;
            case MINUTE:
                return minutesPassed(first);
            default:
                return true;
        }
    }

    /** One by one: a TEXT lets those pass that can, other than a call by hand. */
    private boolean minutesPassed(int n) {
        for (int i = 0; i < n; i++) {
            if (minute(1) == NONE) {
                return false;
            }
        }
        return true;
    }

    private void shiftBy(int x) {
        int what = x % 7;
        if (what == 5) {
            int sparks = now.pit.sparksToBurn();
            if (sparks != NONE) {
                now.pit.pass(sparks);
            }
        } else if (what == 6) {
            int minutes = 1 + x % 5;
            if (now.pit.hasTimeFor(minutes)) {
                now.pit.pass(minutes * MINUTE_SPARKS);
            }
        } else if (now.pit.cords > 0) {
            shiftCord(what, x % now.pit.cords, x / 7 % 2);
        }
    }

    private void shiftCord(int what, int cord, int side) {
        if (what <= 2) {
            if (canLight(cord, side)) {
                kindle(cord, side);
            }
        } else if (what == 3) {
            if (now.pit.burns(cord, side)) {
                now.pit.putOut(cord, side);
            }
        } else if (canRenew(cord)) {
            now.pit.makeNew(cord, now.minutes[cord]);
        }
    }

    private static int partOfLine(int line, int what) {
        switch (what) {
            case 0:
                return line >> 5;
            case 1:
                return line >> 3 & 3;
            case 2:
                return line >> 1 & 3;
            default:
                return line & 1;
        }
    }

    /** The sets of CORDS that can give a SPAN, a bit each. */
    private int setsGiving(int span) {
        int sets = 0;
        for (int set = 1; set <= allCords(); set++) {
            if (rows.gives(set, span)) {
                sets |= 1 << set;
            }
        }
        return sets;
    }

    private boolean findBundle() {
        int wanted = now.wanted.count;
        bundles.begin(wanted);
        for (int i = 0; i < wanted && i < MOST_WANTED; i++) {
            bundles.giving[i] = setsGiving(now.wanted.items[i]);
        }
        return bundles.find(now, now.pit.cords);
    }

    /** The sets of CORDS that may be the WET ones, a bit each (the set of none is bit 0). */
    private int suspectSets() {
        int sets = 0;
        for (int set = 0; set <= allCords(); set++) {
            if (Suspects.fits(set, now.tried)) {
                sets |= 1 << set;
            }
        }
        return sets;
    }

    private boolean agreesWithAllSaid(int text) {
        Told said = now.said;
        for (int i = 0; i < said.count && i < said.items.length; i++) {
            int cord = said.items[i] / (TENTHS + 1);
            if (failsSays(text, cord) != said.items[i] % (TENTHS + 1)) {
                return false;
            }
        }
        return true;
    }

    private static long power(long base, int exponent) {
        long product = 1;
        for (int i = 0; i < exponent; i++) {
            product *= base;
        }
        return product;
    }

    /** The lower one of what is parted is above 0 always. */
    private static long inLowestTerms(long upper, long lower, boolean low) {
        long divisor = lower;
        long rest = upper;
        for (int i = 0; i < 100 && rest != 0; i++) {
            long next = divisor % rest;
            divisor = rest;
            rest = next;
        }
        return divisor == 0 ? NONE : (low ? lower : upper) / divisor;
    }

    /** What a STEP changes, and so what taking it back brings again. */
    private static final class Pit {
        int cords;
        int sparks;
        int x = FIRST_X;
        int lit;
        final int[] rest = new int[MOST_CORDS];
        final int[] ends = new int[MOST_CORDS];
        // A line is one number: the book stands in every STEP, so it is kept small.
        final int[] book = new int[MOST_LINES];
        int lines;

        void copy(Pit from) {
            cords = from.cords;
            sparks = from.sparks;
            x = from.x;
            lit = from.lit;
            lines = from.lines;
            System.arraycopy(from.rest, 0, rest, 0, MOST_CORDS);
            System.arraycopy(from.ends, 0, ends, 0, MOST_CORDS);
            System.arraycopy(from.book, 0, book, 0, MOST_LINES);
        }

        boolean has(int cord) {
            return cord >= 0 && cord < cords && cord < MOST_CORDS;
        }

        void lay(int minutes) {
            if (cords < MOST_CORDS) {
                makeNew(cords, minutes);
                cords++;
            }
        }

        void makeNew(int cord, int minutes) {
            rest[cord] = minutes * MINUTE_SPARKS;
            ends[cord] = 0;
        }

        boolean burns(int cord, int side) {
            return has(cord) && (ends[cord] >> side & 1) != 0;
        }

        void putOut(int cord, int side) {
            ends[cord] &= ~(1 << side);
            writeDown(cord, WAS_SNUFFED, side);
        }

        void touch(int cord, int side, boolean fizzles) {
            lit++;
            if (!fizzles) {
                ends[cord] |= 1 << side;
            }
            writeDown(cord, fizzles ? WAS_FIZZLED : WAS_LIT, side);
        }

        int draw() {
            int drawn = x;
            x = (x * 569 + 439) % 30781;
            return drawn;
        }

        int endsBurning() {
            int count = 0;
            for (int cord = 0; cord < MOST_CORDS; cord++) {
                count += (ends[cord] & 1) + (ends[cord] >> 1);
            }
            return count;
        }

        int sparksToOut(int cord) {
            int burning = Integer.bitCount(ends[cord]);
            return burning == 0 ? NONE : (rest[cord] + burning - 1) / burning;
        }

        int sparksToNextOut() {
            int least = NONE;
            for (int cord = 0; cord < MOST_CORDS; cord++) {
                int sparksLeft = sparksToOut(cord);
                if (sparksLeft != NONE && (least == NONE || sparksLeft < least)) {
                    least = sparksLeft;
                }
            }
            return least;
        }

        int sparksToBurn() {
            int next = sparksToNextOut();
            return next == NONE || sparks + next > LAST_SPARK ? NONE : next;
        }

        boolean hasTimeFor(int minutes) {
            return sparks + minutes * MINUTE_SPARKS <= LAST_SPARK;
        }

        /** Lets SPARKS pass, from one CORD's end to the next; answers how many went out. */
        int pass(int n) {
            int gone = 0;
            int left = n;
            for (int i = 0; i <= MOST_CORDS && left > 0; i++) {
                int next = sparksToNextOut();
                int piece = next == NONE ? left : Math.min(left, next);
                gone += passWithin(piece);
                left -= piece;
            }
            return gone;
        }

        /** No CORD goes out ahead of the last of these SPARKS. */
        private int passWithin(int n) {
            int gone = 0;
            sparks += n;
            lit = 0;
            for (int cord = 0; cord < MOST_CORDS; cord++) {
                if (ends[cord] != 0) {
                    rest[cord] = Math.max(0, rest[cord] - n * Integer.bitCount(ends[cord]));
                    if (rest[cord] == 0) {
                        ends[cord] = 0;
                        writeDown(cord, WAS_OUT, 0);
                        gone++;
                    }
                }
            }
            return gone;
        }

        private void writeDown(int cord, int what, int side) {
            if (lines >= MOST_LINES) {
                System.arraycopy(book, 1, book, 0, MOST_LINES - 1);
                lines = MOST_LINES - 1;
            }
            book[lines] = sparks << 5 | cord << 3 | what << 1 | side;
            lines++;
        }
    }

    /** The latest STEPS, in a ring: each is all that was ahead of it. */
    private static final class Steps {
        final Pit[] pits = new Pit[MOST_STEPS];
        int first;
        int count;

        Steps() {
            for (int i = 0; i < MOST_STEPS; i++) {
                pits[i] = new Pit();
            }
        }

        void push(Pit pit) {
            if (count < MOST_STEPS) {
                count++;
            } else {
                first = (first + 1) % MOST_STEPS;
            }
            pits[(first + count - 1) % MOST_STEPS].copy(pit);
        }

        boolean pop(Pit into) {
            if (count == 0) {
                return false;
            }
            count--;
            into.copy(pits[(first + count) % MOST_STEPS]);
            return true;
        }

        void copy(Steps from) {
            first = from.first;
            count = from.count;
            for (int i = 0; i < count && i < MOST_STEPS; i++) {
                int at = (first + i) % MOST_STEPS;
                pits[at].copy(from.pits[at]);
            }
        }
    }

    /** A short list of what was told. */
    private static final class Told {
        final int[] items;
        int count;

        Told(int most) {
            items = new int[most];
        }

        boolean add(int item) {
            if (count >= items.length) {
                return false;
            }
            items[count] = item;
            count++;
            return true;
        }

        void copy(Told from) {
            count = from.count;
            for (int i = 0; i < items.length && i < from.items.length; i++) {
                items[i] = from.items[i];
            }
        }
    }

    /**
     * All that an IMAGE has. Of TEXTS it has just how many there are: those that an image counts
     * are never read anew, since there are never fewer than it counts.
     */
    private static final class Store {
        final Pit pit = new Pit();
        final Steps steps = new Steps();
        final int[] minutes = new int[MOST_CORDS];
        final int[] price = new int[MOST_CORDS];
        int wet;
        int hands = 2;
        int texts;
        int ruling = NONE;
        final Told wanted = new Told(MOST_WANTED);
        final Told tried = new Told(MOST_TOLD);
        final Told said = new Told(MOST_TOLD);

        void copy(Store from) {
            pit.copy(from.pit);
            steps.copy(from.steps);
            System.arraycopy(from.minutes, 0, minutes, 0, MOST_CORDS);
            System.arraycopy(from.price, 0, price, 0, MOST_CORDS);
            wet = from.wet;
            hands = from.hands;
            texts = from.texts;
            ruling = from.ruling;
            wanted.copy(from.wanted);
            tried.copy(from.tried);
            said.copy(from.said);
        }

        int priceOf(int set) {
            int sum = 0;
            for (int cord = 0; cord < MOST_CORDS; cord++) {
                if ((set >> cord & 1) != 0) {
                    sum += price[cord];
                }
            }
            return sum;
        }
    }

    /** A TEXT that was read: its CLAUSES, and its laws with each sign behind what it takes. */
    private static final class Text {
        final int[] kinds = new int[MOST_CLAUSES];
        final int[] firsts = new int[MOST_CLAUSES];
        final int[] seconds = new int[MOST_CLAUSES];
        int clauses;
        // A NUMBER is itself, any other TOKEN what it is, less than 0.
        final int[] code = new int[MOST_BYTES];
        int length;
        final int[] lawBegins = new int[2];
        final int[] lawEnds = new int[2];

        void clear() {
            clauses = 0;
            length = 0;
            for (int law = LIGHTS_LAW; law <= FAILS_LAW; law++) {
                lawBegins[law] = 0;
                lawEnds[law] = 0;
            }
        }

        boolean rules(int law) {
            return lawBegins[law] < lawEnds[law];
        }

        void addClause(int kind, int first, int second) {
            if (clauses < MOST_CLAUSES) {
                kinds[clauses] = kind;
                firsts[clauses] = first;
                seconds[clauses] = second;
                clauses++;
            }
        }

        void addCode(int item) {
            if (length < MOST_BYTES) {
                code[length] = item;
                length++;
            }
        }
    }

    /** The tape, read TOKEN by TOKEN; each is looked at before the next is come to. */
    private static final class Reader {
        final int[] bytes = new int[MOST_BYTES];
        int length;
        int fault = NONE;
        int faultPlace = NONE;
        private int at;
        private int token;
        private int place;
        private int number;
        private int open;
        private int law;
        private Text text;

        void append(int four) {
            for (int shift = 24; shift >= 0 && length < MOST_BYTES; shift -= 8) {
                bytes[length] = four >> shift & 255;
                length++;
            }
        }

        void readInto(Text into) {
            text = into;
            text.clear();
            fault = 0;
            faultPlace = NONE;
            at = 0;
            open = 0;
            next();
            for (int i = 0; i < MOST_BYTES && token != THE_END; i++) {
                readClause(i);
            }
        }

        private void readClause(int count) {
            int kind = token;
            boolean isLaw = kind == LIGHTS || kind == FAILS;
            if (kind < LIGHTS || kind > MINUTE || kind == PRICE) {
                fail(1);
            } else if (isLaw && text.rules(kind - LIGHTS)) {
                fail(4);
            } else if (count >= MOST_CLAUSES) {
                fail(6);
            } else {
                next();
                if (isLaw) {
                    law = kind - LIGHTS;
                    text.lawBegins[law] = text.length;
                    readSum();
                    text.lawEnds[law] = text.length;
                    text.addClause(kind, 0, 0);
                } else {
                    readAct(kind);
                }
                expect(';');
            }
        }

        private void readAct(int kind) {
            int first = 0;
            int second = 0;
            if (kind == CORD) {
                first = readNumber(1, MOST_MINUTES);
                expect(PRICE);
                second = readNumber(0, MOST_PRICE);
            } else if (kind == HANDS) {
                first = readNumber(1, MOST_HANDS);
            } else if (kind == MINUTE) {
                first = readNumber(1, MOST_MINUTES);
            } else if (kind != BURN) {
                first = readNumber(0, MOST_CORDS - 1);
            }
            text.addClause(kind, first, second);
        }

        private int readNumber(int least, int most) {
            int value = number;
            if (token != NUMBER) {
                fail(1);
            } else if (!within(value, least, most)) {
                fail(2);
            } else {
                next();
            }
            return value;
        }

        private void readSum() {
            readProduct();
            for (int i = 0; i < MOST_BYTES && (token == '+' || token == '-'); i++) {
                int sign = token;
                next();
                readProduct();
                text.addCode(-sign);
            }
        }

        private void readProduct() {
            readOne();
            for (int i = 0; i < MOST_BYTES && (token == '*' || token == '/'); i++) {
                int sign = token;
                next();
                readOne();
                text.addCode(-sign);
            }
        }

        private void readOne() {
            if (token == NUMBER) {
                if (number > MOST_NUMBER) {
                    fail(2);
                } else {
                    text.addCode(number);
                    next();
                }
            } else if (isName(token)) {
                if (token == SIDE && law != LIGHTS_LAW) {
                    fail(5);
                } else {
                    text.addCode(-token);
                    next();
                }
            } else if (token == '(' || token == IF || token == '-' || token == TWOS || token == OUT) {
                readOpening(token);
            } else {
                fail(1);
            }
        }

        private void readOpening(int kind) {
            if (!opens()) {
                return;
            }
            if (kind == '(') {
                readSum();
                expect(')');
            } else if (kind == IF) {
                readIf();
            } else {
                readOne();
                text.addCode(kind == '-' ? -NEGATED : -kind);
            }
            open--;
        }

        private void readIf() {
            readEither();
            expect(THEN);
            readSum();
            expect(ELSE);
            readSum();
            expect(END);
            text.addCode(-IF);
        }

        private void readEither() {
            readBoth();
            for (int i = 0; i < MOST_BYTES && token == OR; i++) {
                next();
                readBoth();
                text.addCode(-OR);
            }
        }

        private void readBoth() {
            readAsk();
            for (int i = 0; i < MOST_BYTES && token == AND; i++) {
                next();
                readAsk();
                text.addCode(-AND);
            }
        }

        private void readAsk() {
            if (token == NOT) {
                if (opens()) {
                    readAsk();
                    text.addCode(-NOT);
                    open--;
                }
                return;
            }
            readSum();
            int sign = token;
            if (compares(sign)) {
                next();
                readSum();
                text.addCode(-sign);
            } else {
                fail(1);
            }
        }

        /** Goes behind a TOKEN that opens, unless too many are open around it. */
        private boolean opens() {
            if (open >= MOST_OPEN) {
                fail(3);
                return false;
            }
            open++;
            next();
            return true;
        }

        private static boolean isName(int kind) {
            return kind == CORD || kind == PRICE || kind >= TIME && kind <= SIDE;
        }

        private static boolean compares(int kind) {
            return kind == '<' || kind == '>' || kind == '=' || kind == '#' || kind == AT_MOST || kind == AT_LEAST;
        }

        private void expect(int kind) {
            if (token == kind) {
                next();
            } else {
                fail(1);
            }
        }

        /** Just the first FAULT counts; behind it there is nothing to read any more. */
        private void fail(int what) {
            if (fault == 0) {
                fault = what;
                faultPlace = place;
            }
            at = length;
            token = THE_END;
        }

        private void next() {
            for (int i = 0; i < MOST_BYTES && (byteAt(at) == 32 || byteAt(at) == 10); i++) {
                at++;
            }
            place = at;
            int first = byteAt(at);
            if (first == NONE) {
                token = THE_END;
            } else if (isLetter(first)) {
                token = nextWord();
            } else if (isDigit(first)) {
                token = nextNumber();
            } else {
                token = nextSign(first);
            }
        }

        /** NONE behind the last byte. */
        private int byteAt(int i) {
            return i >= 0 && i < length && i < MOST_BYTES ? bytes[i] : NONE;
        }

        private static boolean isLetter(int sign) {
            return sign >= 'a' && sign <= 'z' || sign >= 'A' && sign <= 'Z';
        }

        private static boolean isDigit(int sign) {
            return sign >= '0' && sign <= '9';
        }

        private int nextWord() {
            for (int i = 0; i < MOST_BYTES && isLetter(byteAt(at)); i++) {
                at++;
            }
            int word = LIGHTS;
            int spelt = place;
            boolean same = true;
            for (int i = 0; i < WORDS.length(); i++) {
                char sign = WORDS.charAt(i);
                if (sign != ' ') {
                    same = same && byteAt(spelt) == sign;
                    spelt++;
                } else if (same && spelt == at) {
                    return word;
                } else {
                    word++;
                    spelt = place;
                    same = true;
                }
            }
            return NO_TOKEN;
        }

        private int nextNumber() {
            number = 0;
            for (int i = 0; i < MOST_BYTES && isDigit(byteAt(at)); i++) {
                // However many digits there are, one above the most is enough to refuse it.
                number = Math.min(MOST_NUMBER + 1, number * 10 + byteAt(at) - '0');
                at++;
            }
            return NUMBER;
        }

        private int nextSign(int first) {
            if (SIGNS.indexOf((char) first) < 0) {
                return NO_TOKEN;
            }
            at++;
            if ((first == '<' || first == '>') && byteAt(at) == '=') {
                at++;
                return first == '<' ? AT_MOST : AT_LEAST;
            }
            return first;
        }
    }

    /** What a law's SUM comes to. */
    private static final class Sums {
        final Store store;
        final int[] stack = new int[MOST_BYTES + 1];
        private int cord;
        private int side;

        Sums(Store store) {
            this.store = store;
        }

        int valueOf(Text text, int law, int ofCord, int ofSide) {
            if (!store.pit.has(ofCord)) {
                return 0;
            }
            cord = ofCord;
            side = ofSide;
            int top = 0;
            for (int i = text.lawBegins[law]; i < text.lawEnds[law] && i < MOST_BYTES; i++) {
                int item = text.code[i];
                int taken = takes(item);
                int base = top - taken;
                if (base < 0 || base + 3 > stack.length) {
                    return 0;
                }
                // A sign that takes fewer than three never looks at the rest.
                long value = taken == 0 ? leaf(item) : result(-item, stack[base], stack[base + 1], stack[base + 2]);
                stack[base] = limited(value);
                top = base + 1;
            }
            return stack[0];
        }

        private static int takes(int item) {
            int kind = -item;
            if (kind <= 0 || kind == CORD || kind == PRICE || kind >= TIME && kind <= SIDE) {
                return 0;
            }
            if (kind == NEGATED || kind == TWOS || kind == OUT || kind == NOT) {
                return 1;
            }
            return kind == IF ? 3 : 2;
        }

        private static int limited(long value) {
            return (int) Math.max(-MOST_VALUE, Math.min(MOST_VALUE, value));
        }

        private long leaf(int item) {
            switch (-item) {
                case TIME:
                    return store.pit.sparks / MINUTE_SPARKS;
                case CORD:
                    return cord;
                case REST:
                    return store.pit.rest[cord] / MINUTE_SPARKS;
                case LONG:
                    return store.minutes[cord];
                case PRICE:
                    return store.price[cord];
                case LIT:
                    return store.pit.endsBurning();
                case SIDE:
                    return side;
                default:
                    return item;
            }
        }

        private long result(int kind, long a, long b, long c) {
            switch (kind) {
                case NEGATED:
                    return -a;
                case TWOS:
                    return Math.abs(a) & -Math.abs(a);
                case OUT:
                    return isOut(a) ? 1 : 0;
                case IF:
                    return a != 0 ? b : c;
                case '+':
                    return a + b;
                case '-':
                    return a - b;
                case '*':
                    return a * b;
                case '/':
                    return b == 0 ? 0 : a / b;
                default:
                    return holds(kind, a, b) ? 1 : 0;
            }
        }

        private boolean isOut(long number) {
            if (number < 0 || number >= store.pit.cords || number >= MOST_CORDS) {
                return false;
            }
            return store.pit.rest[(int) number] == 0;
        }

        private static boolean holds(int kind, long a, long b) {
            switch (kind) {
                case '<':
                    return a < b;
                case AT_MOST:
                    return a <= b;
                case '>':
                    return a > b;
                case AT_LEAST:
                    return a >= b;
                case '=':
                    return a == b;
                case '#':
                    return a != b;
                case AND:
                    return a != 0 && b != 0;
                case OR:
                    return a != 0 || b != 0;
                case NOT:
                    return a == 0;
                default:
                    return false;
            }
        }
    }

    /** ROWS of sets of CORDS, and the SPANS that they give, kept until a CORD is told anew. */
    private static final class Rows {
        final int[] minutes;
        int rowBegins;
        int rowEnds;
        private final long[] spans = new long[MOST_SETS * SPAN_WORDS];
        private int knownSets;
        private int rowSet;
        private int rowSpan;
        // Moment by moment along the ROW that is walked, a place for each CORD.
        private final int[] rest = new int[(MOST_CORDS + 1) * MOST_CORDS];
        private final int[] ends = new int[(MOST_CORDS + 1) * MOST_CORDS];
        private final int[] chosen = new int[(MOST_CORDS + 1) * MOST_CORDS];
        private final int[] times = new int[MOST_CORDS + 1];
        private int walkedSet;
        private int soughtSpan;
        private int lastMoment;

        Rows(int[] minutes) {
            this.minutes = minutes;
        }

        void forget(int cord) {
            rowSet = 0;
            for (int set = 0; set < MOST_SETS; set++) {
                if ((set >> cord & 1) != 0) {
                    knownSets &= ~(1 << set);
                }
            }
        }

        boolean gives(int set, int span) {
            if (!isSpan(span)) {
                return false;
            }
            learn(set);
            return marked(set, span);
        }

        int countSpans(int set) {
            learn(set);
            int count = 0;
            for (int i = 0; i < SPAN_WORDS; i++) {
                count += Long.bitCount(spans[set * SPAN_WORDS + i]);
            }
            return count;
        }

        int spanNumber(int set, int i) {
            if (i < 0) {
                return NO_SUCH;
            }
            learn(set);
            int left = i;
            for (int word = 0; word < SPAN_WORDS; word++) {
                int count = Long.bitCount(spans[set * SPAN_WORDS + word]);
                if (left < count) {
                    return spanInWord(set, word, left);
                }
                left -= count;
            }
            return NO_SUCH;
        }

        private int spanInWord(int set, int word, int i) {
            int left = i;
            for (int span = word * 64; span < word * 64 + 64; span++) {
                if (marked(set, span)) {
                    if (left == 0) {
                        return span;
                    }
                    left--;
                }
            }
            return NO_SUCH;
        }

        int nearestTo(int set, int span) {
            learn(set);
            int below = nextMarked(set, span, -1);
            int above = nextMarked(set, span, 1);
            if (below == NONE || above == NONE) {
                return below == NONE ? above : below;
            }
            return span - below <= above - span ? below : above;
        }

        private int nextMarked(int set, int from, int by) {
            int span = from;
            for (int i = 0; i <= MOST_SPAN && isSpan(span); i++) {
                if (marked(set, span)) {
                    return span;
                }
                // A word without any is left at once, at its edge.
                boolean empty = spans[set * SPAN_WORDS + span / 64] == 0;
                int edge = by > 0 ? span / 64 * 64 + 63 : span / 64 * 64;
                span = (empty ? edge : span) + by;
            }
            return NONE;
        }

        private boolean marked(int set, int span) {
            return (spans[set * SPAN_WORDS + span / 64] >> span % 64 & 1) != 0;
        }

        private void learn(int set) {
            if ((knownSets >> set & 1) != 0) {
                return;
            }
            for (int i = 0; i < SPAN_WORDS; i++) {
                spans[set * SPAN_WORDS + i] = 0;
            }
            begin(set, 0, MOST_CORDS);
            walk(0);
            knownSets |= 1 << set;
        }

        boolean findRow(int set, int span) {
            if (rowSet == set && rowSpan == span) {
                return true;
            }
            if (!gives(set, span)) {
                return false;
            }
            for (int moments = 1; moments <= MOST_CORDS; moments++) {
                begin(set, span, moments);
                if (walk(0)) {
                    rowSet = set;
                    rowSpan = span;
                    rowEnds = moments;
                    return true;
                }
            }
            return false;
        }

        int litAt(int moment) {
            if (moment < 0 || moment >= rowEnds || moment > MOST_CORDS) {
                return NO_SUCH;
            }
            int number = 0;
            for (int cord = 0; cord < MOST_CORDS; cord++) {
                number += chosen[moment * MOST_CORDS + cord] * THREES[cord];
            }
            return number;
        }

        private void begin(int set, int span, int moments) {
            // The ROW that was found stands where the next one is walked.
            rowSet = 0;
            walkedSet = set;
            soughtSpan = span;
            lastMoment = moments;
            times[0] = 0;
            for (int cord = 0; cord < MOST_CORDS; cord++) {
                rest[cord] = (set >> cord & 1) != 0 ? minutes[cord] * MINUTE_SPARKS : 0;
                ends[cord] = 0;
            }
        }

        /** By what is lit, from the lowest number on, so that the first ROW found is the due one. */
        private boolean walk(int moment) {
            if (moment >= lastMoment || moment >= MOST_CORDS) {
                return false;
            }
            for (int cord = 0; cord < MOST_CORDS; cord++) {
                chosen[moment * MOST_CORDS + cord] = 0;
            }
            for (int i = 0; i < CHOICES; i++) {
                if (burnOn(moment) && (arrive(moment + 1) || walk(moment + 1))) {
                    return true;
                }
                if (!chooseNext(moment)) {
                    return false;
                }
            }
            return false;
        }

        private boolean chooseNext(int moment) {
            int base = moment * MOST_CORDS;
            for (int cord = 0; cord < MOST_CORDS; cord++) {
                int most = rest[base + cord] == 0 ? 0 : 2 - ends[base + cord];
                if (chosen[base + cord] < most) {
                    chosen[base + cord]++;
                    return true;
                }
                chosen[base + cord] = 0;
            }
            return false;
        }

        /** To the next moment, if anything burns. */
        private boolean burnOn(int moment) {
            int base = moment * MOST_CORDS;
            int then = base + MOST_CORDS;
            int sparks = 0;
            for (int cord = 0; cord < MOST_CORDS; cord++) {
                int burning = ends[base + cord] + chosen[base + cord];
                ends[then + cord] = burning;
                if (burning > 0) {
                    int needed = (rest[base + cord] + burning - 1) / burning;
                    sparks = sparks == 0 ? needed : Math.min(sparks, needed);
                }
            }
            for (int cord = 0; cord < MOST_CORDS; cord++) {
                int left = Math.max(0, rest[base + cord] - sparks * ends[then + cord]);
                rest[then + cord] = left;
                ends[then + cord] = left == 0 ? 0 : ends[then + cord];
            }
            times[moment + 1] = times[moment] + sparks;
            return sparks > 0;
        }

        /** Marks the SPANS that end at a moment, or looks for the one that is sought. */
        private boolean arrive(int moment) {
            for (int i = 0; i < moment; i++) {
                int span = times[moment] - times[i];
                if (span <= 0 || span > MOST_SPAN) {
                    return false;
                }
                if (soughtSpan == 0) {
                    spans[walkedSet * SPAN_WORDS + span / 64] |= 1L << span % 64;
                } else if (moment == lastMoment && span == soughtSpan) {
                    rowBegins = i;
                    return true;
                }
            }
            return false;
        }
    }

    /** CORDS shared out so that each WANTED SPAN is given by some of its own. */
    private static final class Bundles {
        final int[] giving = new int[MOST_WANTED];
        private final int[] shares = new int[MOST_WANTED];
        private int wanted;
        private long best;

        void begin(int count) {
            wanted = Math.min(count, MOST_WANTED);
            best = NONE;
        }

        boolean find(Store store, int cords) {
            int ways = 1;
            for (int cord = 0; cord < cords && cord < MOST_CORDS; cord++) {
                ways *= wanted + 1;
            }
            for (int way = 0; way < ways; way++) {
                shareOut(way);
                if (givesAll()) {
                    long rank = rank(store);
                    best = best == NONE ? rank : Math.min(best, rank);
                }
            }
            return best != NONE;
        }

        private void shareOut(int way) {
            for (int i = 0; i < MOST_WANTED; i++) {
                shares[i] = 0;
            }
            int left = way;
            for (int cord = 0; cord < MOST_CORDS; cord++) {
                int whom = left % (wanted + 1);
                left /= wanted + 1;
                if (whom > 0) {
                    shares[whom - 1] |= 1 << cord;
                }
            }
        }

        private boolean givesAll() {
            for (int i = 0; i < wanted; i++) {
                if ((giving[i] >> shares[i] & 1) == 0) {
                    return false;
                }
            }
            return true;
        }

        /** One number in which what is asked first stands highest: the best way has the lowest. */
        private long rank(Store store) {
            int all = shares[0] | shares[1] | shares[2] | shares[3];
            long rank = store.priceOf(all) * (MOST_CORDS + 1) + Integer.bitCount(all);
            rank = rank * MOST_SETS + all;
            for (int i = 0; i < MOST_WANTED; i++) {
                rank = rank * MOST_SETS + shares[i];
            }
            return rank;
        }

        int cords() {
            return (int) (best >> 4 * MOST_WANTED & MOST_SETS - 1);
        }

        int share(int i) {
            return (int) (best >> 4 * (MOST_WANTED - 1 - i) & MOST_SETS - 1);
        }
    }

    /** Two crews that take CORDS by turns; which sets give a crew its SPAN is told by bits. */
    private static final class Crews {
        /** For the crew whose turn it is; what is free gets less with each turn, so it ends. */
        private static int outcome(int own, int others, int givingOwn, int givingOthers, int all) {
            int free = all & ~(own | others);
            if (free == 0) {
                return 0;
            }
            int best = -1;
            for (int cord = 0; cord < MOST_CORDS; cord++) {
                if ((free >> cord & 1) != 0) {
                    best = Math.max(best, behindTaking(own | 1 << cord, others, givingOwn, givingOthers, all));
                }
            }
            return best;
        }

        private static int behindTaking(int own, int others, int givingOwn, int givingOthers, int all) {
            if ((givingOwn >> own & 1) != 0) {
                return 1;
            }
            return -outcome(others, own, givingOthers, givingOwn, all);
        }

        static int bestFirst(int givingOne, int givingOther, int all) {
            int best = outcome(0, 0, givingOne, givingOther, all);
            for (int cord = 0; cord < MOST_CORDS; cord++) {
                boolean free = (all >> cord & 1) != 0;
                if (free && behindTaking(1 << cord, 0, givingOne, givingOther, all) == best) {
                    return cord;
                }
            }
            return NONE;
        }
    }

    /** Sets of CORDS that may be the WET ones, each a bit of a number. */
    private static final class Suspects {
        static boolean fits(int set, Told tried) {
            for (int i = 0; i < tried.count && i < tried.items.length; i++) {
                boolean failed = (tried.items[i] & 1) != 0;
                boolean hasWet = (set & tried.items[i] >> 1) != 0;
                if (failed != hasWet) {
                    return false;
                }
            }
            return true;
        }

        static int inAll(int sets, int all) {
            int common = all;
            for (int set = 0; set < MOST_SETS; set++) {
                if ((sets >> set & 1) != 0) {
                    common &= set;
                }
            }
            return common;
        }

        static int inNone(int sets, int all) {
            int none = all;
            for (int set = 0; set < MOST_SETS; set++) {
                if ((sets >> set & 1) != 0) {
                    none &= ~set;
                }
            }
            return none;
        }

        static int lowest(int sets) {
            for (int set = 0; set < MOST_SETS; set++) {
                if ((sets >> set & 1) != 0) {
                    return set;
                }
            }
            return NONE;
        }

        static int bestTrial(int sets, int all) {
            int best = NONE;
            int fewestLeft = 0;
            for (int trial = 1; trial <= all; trial++) {
                int failing = countFailing(sets, trial);
                int left = Math.max(failing, Integer.bitCount(sets) - failing);
                if (best == NONE || left < fewestLeft) {
                    best = trial;
                    fewestLeft = left;
                }
            }
            return best;
        }

        private static int countFailing(int sets, int trial) {
            int count = 0;
            for (int set = 0; set < MOST_SETS; set++) {
                if ((sets >> set & 1) != 0 && (set & trial) != 0) {
                    count++;
                }
            }
            return count;
        }
    }
}
