import java.util.Arrays;

/**
 * A town in which no window may see more than so many colours.
 *
 * The words in capitals (THING, WINDOW, LAW, PAINTING ..) are those of the document. All rows are made
 * once, in the constructors, and used again by every call: a run of calls lives in a small room.
 */
public final class ThreeColours {

    public static final int NONE = -1;

    // What a call is REFUSED by.
    private static final int WRONG_NUMBER = -1;
    private static final int NOT_THERE = -2;
    private static final int AS_IT_STANDS = -3;
    private static final int NO_ROOM = -5;
    private static final int WRONG_TEXT = -6;
    private static final int NOTHING = -10_000;

    private static final int COLOURS = 8;
    private static final int THINGS = 10;
    private static final int WINDOWS = 8;
    private static final int PLACES = 10;
    private static final int PEOPLE = 5;
    private static final int MONTHS = 12;
    private static final int MINUTES = 120;
    private static final int WALKS = 60;
    private static final int LAWS = 6;
    private static final int IMAGES = 2;
    private static final int TAPE = 400;
    private static final int CHOICES = 3;

    private static final int HIGHEST_COLOUR = 7;
    private static final int HIGHEST_SORT = 3;
    private static final int HIGHEST_PRICE = 99;
    private static final int HIGHEST_LIMIT = 8;
    private static final int USUAL_LIMIT = 3;
    private static final int ALL_BITS = 1023;
    private static final int ALL_MONTHS = 4095;
    private static final int HIGHEST_SEED = 1_000_000;
    private static final int HOME_BYTE = 255;

    // What a THING has, by the numbers of put() and of().
    private static final int SORT = 0;
    private static final int COLOUR = 1;
    private static final int WISHED = 2;
    private static final int COST = 3;
    private static final int WORTH = 4;
    private static final int MUST = 5;
    private static final int BLOOM = 6;
    private static final int BLOOM_COLOUR = 7;
    private static final int SHOWN = 8;
    private static final int TRAITS = 8;
    private static final int[] HIGHEST_TRAIT = {3, 7, 7, 99, 99, 1};

    // What a WINDOW has, by the numbers of turn().
    private static final int VIEW_THINGS = 0;
    private static final int VIEW_PLACES = 1;
    private static final int VIEW_SHUT = 2;
    private static final int VIEWS = 3;
    private static final int[] HIGHEST_VIEW = {1023, 1023, 99};

    // The heads of CLAUSES, and the words that a LAW can ask.
    private static final int LIMIT_HEAD = 0;
    private static final int COST_HEAD = 1;
    private static final int FREE_HEAD = 2;
    private static final int HIDDEN_HEAD = 3;
    private static final int HEADS = 4;
    private static final int WINDOW_WORD = 0;
    private static final int THING_WORD = 1;
    private static final int PLACE_WORD = 2;
    private static final int COLOUR_WORD = 3;
    private static final int SORT_WORD = 4;
    private static final int MONTH_WORD = 5;
    private static final int MINUTE_WORD = 6;
    private static final int COAT_WORD = 7;
    private static final int PERSON_WORD = 8;
    private static final int ASKED_WORDS = 9;

    // The orders of a LAW's code: a number or word is put on the pile, the others work on its top.
    private static final int DO_NUMBER = 0;
    private static final int DO_WORD = 1;
    private static final int DO_ADD = 2;
    private static final int DO_TAKE_OFF = 3;
    private static final int DO_TIMES = 4;
    private static final int DO_DIVIDE = 5;
    private static final int DO_LESS = 6;
    private static final int DO_MORE = 7;
    private static final int DO_EQUAL = 8;
    private static final int DO_NOT = 9;
    private static final int DO_OR = 10;
    private static final int DO_AND = 11;

    private final Town town;
    private final Town[] images;
    private final int[] tape;
    private final int[] refused;
    private final Reader reader;
    private final Asker asker;
    private final Sight sight;
    private final Canvas canvas;
    private final Painter painter;
    private final Painter prober;
    private final Mender mender;
    private final Walker walker;
    private final Outing outing;
    private final Procession procession;
    private int keptImages;
    private int length;
    private int faultPlace;
    private int spoiltWalks;
    private int latest;

    public ThreeColours() {
        town = new Town();
        images = new Town[IMAGES];
        for (int k = 0; k < IMAGES; k++) {
            images[k] = new Town();
        }
        tape = new int[TAPE];
        refused = new int[5];
        reader = new Reader(tape);
        asker = new Asker(town);
        sight = new Sight(town, asker);
        canvas = new Canvas(town, asker);
        painter = new Painter(town, canvas);
        prober = new Painter(town, canvas);
        mender = new Mender(town, canvas);
        walker = new Walker(town, sight);
        outing = new Outing(town, sight);
        procession = new Procession(town);
        faultPlace = NONE;
    }

    public int thing(int sort, int colour, int wished, int cost, int worth) {
        if (!upTo(sort, HIGHEST_SORT) || !upTo(colour, HIGHEST_COLOUR) || !upTo(wished, HIGHEST_COLOUR)
                || !upTo(cost, HIGHEST_PRICE) || !upTo(worth, HIGHEST_PRICE)) {
            return refuse(WRONG_NUMBER);
        }
        if (town.things >= THINGS) {
            return refuse(NO_ROOM);
        }
        return changed(town.addThing(sort, colour, wished, cost, worth));
    }

    public int put(int thing, int what, int value) {
        if (!upTo(what, MUST) || !upTo(value, HIGHEST_TRAIT[what])) {
            return refuse(WRONG_NUMBER);
        }
        if (!below(thing, town.things)) {
            return refuse(NOT_THERE);
        }
        int was = town.trait(thing, what);
        town.traits[thing * TRAITS + what] = value;
        return changed(was);
    }

    public int bloom(int thing, int months, int colour) {
        if (!upTo(months, ALL_MONTHS) || !upTo(colour, HIGHEST_COLOUR)) {
            return refuse(WRONG_NUMBER);
        }
        if (!below(thing, town.things)) {
            return refuse(NOT_THERE);
        }
        town.traits[thing * TRAITS + BLOOM] = months;
        town.traits[thing * TRAITS + BLOOM_COLOUR] = colour;
        return changed(0);
    }

    public int window(int things, int places, int shut) {
        if (!upTo(things, ALL_BITS) || !upTo(places, ALL_BITS) || !upTo(shut, HIGHEST_PRICE)) {
            return refuse(WRONG_NUMBER);
        }
        if (town.windows >= WINDOWS) {
            return refuse(NO_ROOM);
        }
        return changed(town.addWindow(things, places, shut));
    }

    public int turn(int window, int what, int value) {
        if (!upTo(what, VIEW_SHUT) || !upTo(value, HIGHEST_VIEW[what])) {
            return refuse(WRONG_NUMBER);
        }
        if (!below(window, town.windows)) {
            return refuse(NOT_THERE);
        }
        int was = town.view(window, what);
        town.views[window * VIEWS + what] = value;
        return changed(was);
    }

    public int of(int thing, int what) {
        if (!below(thing, town.things) || !upTo(what, SHOWN)) {
            return NONE;
        }
        if (what == SHOWN) {
            return town.shownIn(thing, town.trait(thing, COLOUR), town.month);
        }
        return town.trait(thing, what);
    }

    public int street(int one, int other, int there) {
        if (!below(one, PLACES) || !below(other, PLACES) || !upTo(there, 1)) {
            return refuse(WRONG_NUMBER);
        }
        if (one == other) {
            return refuse(AS_IT_STANDS);
        }
        int was = town.streets[one] >> other & 1;
        town.join(town.streets, one, other, there);
        return changed(was);
    }

    public int person(int coat) {
        if (!upTo(coat, HIGHEST_COLOUR)) {
            return refuse(WRONG_NUMBER);
        }
        if (town.people >= PEOPLE) {
            return refuse(NO_ROOM);
        }
        town.coats[town.people] = coat;
        town.people++;
        return changed(town.people - 1);
    }

    public int coat(int person, int colour) {
        if (!upTo(colour, HIGHEST_COLOUR)) {
            return refuse(WRONG_NUMBER);
        }
        if (!below(person, town.people)) {
            return refuse(NOT_THERE);
        }
        int was = town.coats[person];
        town.coats[person] = colour;
        return changed(was);
    }

    public int same(int one, int other, int are) {
        if (!upTo(one, HIGHEST_COLOUR) || !upTo(other, HIGHEST_COLOUR) || !upTo(are, 1)) {
            return refuse(WRONG_NUMBER);
        }
        if (one == other) {
            return refuse(AS_IT_STANDS);
        }
        int was = town.told[one] >> other & 1;
        town.join(town.told, one, other, are);
        town.gather();
        return changed(was);
    }

    public int counts(int colour) {
        return upTo(colour, HIGHEST_COLOUR) ? town.lowest[colour] : NONE;
    }

    public int month(int month) {
        if (!below(month, MONTHS)) {
            return refuse(WRONG_NUMBER);
        }
        int was = town.month;
        town.month = month;
        return changed(was);
    }

    public int walk(int person, int minute, int place) {
        if (!below(minute, MINUTES) || place != NONE && !below(place, PLACES)) {
            return refuse(WRONG_NUMBER);
        }
        if (!below(person, town.people)) {
            return refuse(NOT_THERE);
        }
        if (town.walks >= WALKS) {
            return refuse(NO_ROOM);
        }
        town.addWalk(person, minute, place);
        return changed(town.walks);
    }

    public int where(int person, int minute) {
        if (!below(person, town.people) || !below(minute, MINUTES)) {
            return NONE;
        }
        return town.placeAt(person, minute);
    }

    public int feed(int a, int b, int c, int d, int e) {
        if (length + 20 > TAPE) {
            return NONE;
        }
        append(a);
        append(b);
        append(c);
        append(d);
        append(e);
        return length;
    }

    public int end(int n) {
        if (!upTo(n, length)) {
            return NONE;
        }
        length = n;
        return n;
    }

    public int row() {
        if (length == 0) {
            return refuse(WRONG_TEXT);
        }
        int came = 0;
        int lost = 0;
        for (int at = 0; at < length; at += 3) {
            if (comes(at)) {
                came++;
            } else {
                lost++;
            }
        }
        length = 0;
        spoiltWalks = lost;
        return changed(came);
    }

    public int spoilt() {
        return spoiltWalks;
    }

    public int law() {
        int bytes = length;
        length = 0;
        if (town.laws >= LAWS) {
            return refuse(NO_ROOM);
        }
        Law read = reader.lawOf(bytes);
        if (read == null) {
            faultPlace = reader.place();
            return refuse(WRONG_TEXT);
        }
        faultPlace = NONE;
        town.book[town.laws] = read;
        town.laws++;
        return changed(town.laws - 1);
    }

    public int fault() {
        return faultPlace;
    }

    public int force(int law) {
        if (law != NONE && !below(law, town.laws)) {
            return refuse(NOT_THERE);
        }
        int was = town.inForce;
        town.inForce = law;
        return changed(was);
    }

    public int costs(int thing, int colour) {
        if (!below(thing, town.things) || !upTo(colour, HIGHEST_COLOUR)) {
            return NONE;
        }
        return asker.priceOf(thing, colour);
    }

    public int sees(int window, int minute, int what) {
        if (!below(window, town.windows) || !below(minute, MINUTES) || !upTo(what, 2)) {
            return NONE;
        }
        sight.refresh();
        sight.letOut(minute, NONE);
        int limit = sight.limitAt(window, minute);
        if (what == 1) {
            return limit;
        }
        int seen = sight.seenFrom(window, minute);
        if (what == 0) {
            return seen;
        }
        return Integer.bitCount(seen) <= limit ? 1 : 0;
    }

    public int judge(int what) {
        if (!upTo(what, 2)) {
            return NONE;
        }
        sight.sweep();
        if (what == 0) {
            return sight.firstMinute;
        }
        return what == 1 ? sight.firstWindow : sight.total;
    }

    public int bad(int window) {
        if (!below(window, town.windows)) {
            return NONE;
        }
        sight.sweep();
        return sight.badMinutes[window];
    }

    public int best(int months, int what) {
        if (!areMonths(months) || !upTo(what, 2)) {
            return NOTHING;
        }
        survey(months);
        if (what == 2) {
            return painter.good;
        }
        if (what == 0) {
            return painter.bests;
        }
        return painter.good > 0 ? painter.value : NOTHING;
    }

    public int paint(int months, int thing) {
        if (!areMonths(months) || !below(thing, town.things)) {
            return NONE;
        }
        survey(months);
        return painter.good > 0 ? canvas.hue(thing, painter.first[thing]) : NONE;
    }

    public int fewest(int months, int what) {
        if (!areMonths(months) || !upTo(what, 2)) {
            return NONE;
        }
        survey(months);
        return painter.good > 0 ? painter.fewestOf(what) : NONE;
    }

    public int take(int months) {
        if (!areMonths(months)) {
            return refuse(WRONG_NUMBER);
        }
        survey(months);
        if (painter.good == 0) {
            return refuse(AS_IT_STANDS);
        }
        int painted = 0;
        for (int thing = 0; thing < town.things; thing++) {
            if (painter.first[thing] != 0) {
                painted++;
                town.traits[thing * TRAITS + COLOUR] = canvas.hue(thing, painter.first[thing]);
            }
        }
        return changed(painted);
    }

    public int mend(int months, int thing) {
        if (!areMonths(months) || thing != NONE && !below(thing, town.things)) {
            return NONE;
        }
        canvas.prepare(months);
        mender.search(months);
        return thing == NONE ? mender.least : canvas.hue(thing, mender.first[thing]);
    }

    public int shut(int months) {
        if (!areMonths(months)) {
            return NONE;
        }
        canvas.prepare(months);
        mender.search(months);
        return mender.walledUp();
    }

    public int bars(int months) {
        if (!areMonths(months)) {
            return NONE;
        }
        canvas.prepare(months);
        int barring = (1 << town.windows) - 1;
        if (prober.finds(barring)) {
            return 0;
        }
        for (int window = 0; window < town.windows; window++) {
            if (!prober.finds(barring & ~(1 << window))) {
                barring &= ~(1 << window);
            }
        }
        return barring;
    }

    public int third(int months, int window) {
        if (!areMonths(months) || !below(window, town.windows)) {
            return NONE;
        }
        survey(months);
        if (painter.good == 0) {
            return NONE;
        }
        return prober.highest(window, painter.value) - painter.value;
    }

    public int near(int what) {
        if (!upTo(what, 2)) {
            return NONE;
        }
        sight.refresh();
        int pair = sight.nearest();
        if (pair < 0) {
            return NONE;
        }
        if (what == 0) {
            return pair / COLOURS % COLOURS;
        }
        return what == 1 ? pair % COLOURS : pair / (COLOURS * COLOURS);
    }

    public int soon(int person, int minute, int from, int to) {
        if (!below(person, town.people) || !below(minute, MINUTES) || !below(from, PLACES) || !below(to, PLACES)) {
            return NONE;
        }
        walker.find(person, minute, from, to);
        return walker.soonest;
    }

    public int way(int person, int minute, int from, int to, int at) {
        if (!below(person, town.people) || !below(minute, MINUTES) || !below(from, PLACES) || !below(to, PLACES)) {
            return NONE;
        }
        walker.find(person, minute, from, to);
        return at < minute || at > walker.soonest ? NONE : walker.steps[at];
    }

    public int file(int k, int l, int i) {
        if (k < 1 || k > 8 || l < 1 || l > 8 || i != NONE && !below(i, town.people)) {
            return NONE;
        }
        procession.arrange(k, l);
        if (i == NONE) {
            return procession.orders;
        }
        return procession.orders > 0 ? procession.first[i] : NONE;
    }

    public int day(int seed) {
        if (!upTo(seed, HIGHEST_SEED)) {
            return refuse(WRONG_NUMBER);
        }
        return granted(outing.draw(seed));
    }

    public int drawn(int person, int minute) {
        return below(person, outing.people) && below(minute, MINUTES) ? outing.places[person * MINUTES + minute] : NONE;
    }

    public int image(int k) {
        if (!below(k, IMAGES)) {
            return refuse(WRONG_NUMBER);
        }
        images[k].becomes(town);
        keptImages |= 1 << k;
        return granted(0);
    }

    public int back(int k) {
        if (!below(k, IMAGES)) {
            return refuse(WRONG_NUMBER);
        }
        if ((keptImages >> k & 1) == 0) {
            return refuse(NOT_THERE);
        }
        town.becomes(images[k]);
        return changed(0);
    }

    public int count(int what) {
        if (what >= 6 && what <= 10) {
            return refused[what - 6];
        }
        switch (what) {
            case 0: return town.things;
            case 1: return town.windows;
            case 2: return town.people;
            case 3: return town.laws;
            case 4: return town.walks;
            case 5: return length;
            case 11: return town.inForce;
            case 12: return town.month;
            default: return NONE;
        }
    }

    public int status() {
        return latest;
    }

    private static boolean upTo(int number, int highest) {
        return number >= 0 && number <= highest;
    }

    private static boolean below(int number, int end) {
        return number >= 0 && number < end;
    }

    private static boolean areMonths(int months) {
        return months >= 1 && months <= ALL_MONTHS;
    }

    private static int nearestTo(int number, int highest) {
        return Math.max(0, Math.min(highest, number));
    }

    /** The lowest number that some bits tell; there is one among the first ten. */
    private static int lowestOf(int bits) {
        int lowest = 0;
        while (lowest < PLACES && (bits >> lowest & 1) == 0) {
            lowest++;
        }
        return lowest;
    }

    private int refuse(int reason) {
        latest = reason;
        // The reasons are -1, -2, -3, -5, -6: their counters lie side by side.
        refused[reason >= AS_IT_STANDS ? -reason - 1 : -reason - 2]++;
        return reason;
    }

    private int granted(int answer) {
        latest = 0;
        return answer;
    }

    /** What was worked out from the TOWN as it was is not used any more. */
    private int changed(int answer) {
        town.changes++;
        return granted(answer);
    }

    private void append(int four) {
        for (int shift = 24; shift >= 0; shift -= 8) {
            if (length < TAPE) {
                tape[length] = four >> shift & 255;
                length++;
            }
        }
    }

    /** Whether the three bytes there became a WALK. */
    private boolean comes(int at) {
        if (at + 2 >= length || town.walks >= WALKS) {
            return false;
        }
        int place = tape[at + 2] == HOME_BYTE ? NONE : tape[at + 2];
        if (tape[at] >= town.people || tape[at + 1] >= MINUTES || place >= PLACES) {
            return false;
        }
        town.addWalk(tape[at], tape[at + 1], place);
        return true;
    }

    private void survey(int months) {
        canvas.prepare(months);
        painter.survey(months);
    }

    /** All that IMAGES keep. */
    private static final class Town {
        final int[] traits = new int[THINGS * TRAITS];
        final int[] views = new int[WINDOWS * VIEWS];
        final int[] coats = new int[PEOPLE];
        final int[] streets = new int[PLACES];
        final int[] told = new int[COLOURS];
        final int[] lowest = new int[COLOURS];
        final int[] walked = new int[WALKS * 3];
        final Law[] book = new Law[LAWS];
        int things;
        int windows;
        int people;
        int walks;
        int laws;
        int month;
        int inForce = NONE;
        int changes; // never kept by an IMAGE: it only tells whether something changed since

        Town() {
            for (int colour = 0; colour < COLOURS; colour++) {
                lowest[colour] = colour;
            }
        }

        int trait(int thing, int what) {
            return traits[thing * TRAITS + what];
        }

        int view(int window, int what) {
            return views[window * VIEWS + what];
        }

        int addThing(int sort, int colour, int wished, int cost, int worth) {
            int at = things * TRAITS;
            traits[at + SORT] = sort;
            traits[at + COLOUR] = colour;
            traits[at + WISHED] = wished;
            traits[at + COST] = cost;
            traits[at + WORTH] = worth;
            traits[at + MUST] = 0;
            traits[at + BLOOM] = 0;
            traits[at + BLOOM_COLOUR] = 0;
            things++;
            return things - 1;
        }

        int addWindow(int seenThings, int seenPlaces, int shut) {
            int at = windows * VIEWS;
            views[at + VIEW_THINGS] = seenThings;
            views[at + VIEW_PLACES] = seenPlaces;
            views[at + VIEW_SHUT] = shut;
            windows++;
            return windows - 1;
        }

        void addWalk(int person, int minute, int place) {
            int at = walks * 3;
            walked[at] = person;
            walked[at + 1] = minute;
            walked[at + 2] = place;
            walks++;
        }

        int placeAt(int person, int minute) {
            int place = NONE;
            int since = -1;
            for (int at = 0; at < walks * 3; at += 3) {
                if (walked[at] == person && walked[at + 1] <= minute && walked[at + 1] >= since) {
                    since = walked[at + 1];
                    place = walked[at + 2];
                }
            }
            return place;
        }

        int shownIn(int thing, int painted, int inMonth) {
            return (trait(thing, BLOOM) >> inMonth & 1) == 1 ? trait(thing, BLOOM_COLOUR) : painted;
        }

        void join(int[] pairs, int one, int other, int are) {
            if (are == 1) {
                pairs[one] |= 1 << other;
                pairs[other] |= 1 << one;
            } else {
                pairs[one] &= ~(1 << other);
                pairs[other] &= ~(1 << one);
            }
        }

        /** Whatever hangs together by told pairs has one lowest colour. */
        void gather() {
            Arrays.fill(lowest, NONE);
            for (int colour = 0; colour < COLOURS; colour++) {
                if (lowest[colour] == NONE) {
                    int all = allWith(colour);
                    for (int other = colour; other < COLOURS; other++) {
                        if ((all >> other & 1) == 1) {
                            lowest[other] = colour;
                        }
                    }
                }
            }
        }

        private int allWith(int colour) {
            int all = 1 << colour;
            for (int round = 0; round < COLOURS; round++) {
                for (int other = 0; other < COLOURS; other++) {
                    if ((all >> other & 1) == 1) {
                        all |= told[other];
                    }
                }
            }
            return all;
        }

        Law ruling() {
            return inForce >= 0 && inForce < laws ? book[inForce] : null;
        }

        void becomes(Town other) {
            System.arraycopy(other.traits, 0, traits, 0, traits.length);
            System.arraycopy(other.views, 0, views, 0, views.length);
            System.arraycopy(other.coats, 0, coats, 0, coats.length);
            System.arraycopy(other.streets, 0, streets, 0, streets.length);
            System.arraycopy(other.told, 0, told, 0, told.length);
            System.arraycopy(other.lowest, 0, lowest, 0, lowest.length);
            System.arraycopy(other.walked, 0, walked, 0, walked.length);
            for (int law = 0; law < LAWS; law++) {
                book[law] = other.book[law];
            }
            things = other.things;
            windows = other.windows;
            people = other.people;
            walks = other.walks;
            laws = other.laws;
            month = other.month;
            inForce = other.inForce;
        }
    }

    /** A TEXT that was read: never changed, so that IMAGES may share it. */
    private static final class Law {
        static final int CLAUSE = 4; // head, start of its SUM, start of its TEST, end of it
        final int[] code;
        final int[] clauses;
        private final int[] words;

        Law(int[] code, int[] clauses, int[] words) {
            this.code = code;
            this.clauses = clauses;
            this.words = words;
        }

        boolean has(int head) {
            return words[head] >= 0;
        }

        boolean mentions(int head, int word) {
            return words[head] >= 0 && (words[head] >> word & 1) == 1;
        }
    }

    /** Reads a TEXT from the TAPE, token by token, and writes the code of its CLAUSES. */
    private static final class Reader {
        private static final String WORDS =
                "window thing place colour sort month minute coat person limit cost free hidden if or and not ";
        private static final int CLAUSES = 12;
        private static final int PARTS = 50;
        private static final int BRACKETS = 8;
        private static final int HIGHEST_NUMBER = 1000;

        // Tokens: single bytes are their own numbers.
        private static final int END = -1;
        private static final int DIGITS = 256;
        private static final int STRANGE_WORD = 257;
        private static final int FIRST_WORD = 300;
        private static final int FIRST_HEAD = FIRST_WORD + ASKED_WORDS;
        private static final int IF = FIRST_HEAD + HEADS;
        private static final int OR = IF + 1;
        private static final int AND = IF + 2;
        private static final int NOT = IF + 3;

        private final int[] text;
        private final int[] code = new int[TAPE];
        private final int[] clauses = new int[CLAUSES * Law.CLAUSE];
        private final int[] words = new int[HEADS];
        private int length;
        private int at;
        private int next;
        private int token;
        private int number;
        private int used;
        private int parts;
        private int mentioned;

        Reader(int[] text) {
            this.text = text;
        }

        /** Where the token stands that could not go on. */
        int place() {
            return at;
        }

        Law lawOf(int bytes) {
            length = bytes;
            next = 0;
            used = 0;
            parts = 0;
            Arrays.fill(words, -1);
            step();
            for (int clause = 0; clause < CLAUSES; clause++) {
                if (!readClause(clause * Law.CLAUSE)) {
                    return null;
                }
                if (token == END) {
                    return new Law(Arrays.copyOf(code, used), Arrays.copyOf(clauses, (clause + 1) * Law.CLAUSE),
                            Arrays.copyOf(words, HEADS));
                }
                if (token != ';') {
                    return null;
                }
                step();
            }
            return null;
        }

        private boolean readClause(int slot) {
            int head = token - FIRST_HEAD;
            if (head < 0 || head >= HEADS) {
                return false;
            }
            mentioned = 0;
            clauses[slot] = head;
            clauses[slot + 1] = used;
            step();
            if ((head == LIMIT_HEAD || head == COST_HEAD) && !readSum(0)) {
                return false;
            }
            clauses[slot + 2] = used;
            if (token == IF) {
                step();
                if (!readTest(0)) {
                    return false;
                }
            }
            clauses[slot + 3] = used;
            words[head] = Math.max(words[head], 0) | mentioned;
            return true;
        }

        private boolean readTest(int depth) {
            if (!readBoth(depth)) {
                return false;
            }
            for (int more = 0; more < TAPE && token == OR; more++) {
                int jump = used;
                write(DO_OR, 0);
                step();
                if (!readBoth(depth)) {
                    return false;
                }
                aim(jump);
            }
            return true;
        }

        private boolean readBoth(int depth) {
            if (!readPlain(depth)) {
                return false;
            }
            for (int more = 0; more < TAPE && token == AND; more++) {
                int jump = used;
                write(DO_AND, 0);
                step();
                if (!readPlain(depth)) {
                    return false;
                }
                aim(jump);
            }
            return true;
        }

        private boolean readPlain(int depth) {
            // A TAPE of nothing but "not" would go too deep, and two of them are none.
            boolean turned = false;
            for (int more = 0; more < TAPE && token == NOT; more++) {
                turned = !turned;
                step();
            }
            if (token == '(') {
                if (depth >= BRACKETS) {
                    return false;
                }
                step();
                if (!readTest(depth + 1) || token != ')') {
                    return false;
                }
                step();
            } else {
                if (!readSum(depth)) {
                    return false;
                }
                int order = token == '<' ? DO_LESS : token == '>' ? DO_MORE : DO_EQUAL;
                if (order == DO_EQUAL && token != '=') {
                    return false;
                }
                step();
                if (!readSum(depth)) {
                    return false;
                }
                write(order, 0);
            }
            if (turned) {
                write(DO_NOT, 0);
            }
            return true;
        }

        private boolean readSum(int depth) {
            if (!readTerm(depth)) {
                return false;
            }
            for (int more = 0; more < TAPE && (token == '+' || token == '-'); more++) {
                int order = token == '+' ? DO_ADD : DO_TAKE_OFF;
                step();
                if (!readTerm(depth)) {
                    return false;
                }
                write(order, 0);
            }
            return true;
        }

        private boolean readTerm(int depth) {
            if (!readPart(depth)) {
                return false;
            }
            for (int more = 0; more < TAPE && (token == '*' || token == '/'); more++) {
                int order = token == '*' ? DO_TIMES : DO_DIVIDE;
                step();
                if (!readPart(depth)) {
                    return false;
                }
                write(order, 0);
            }
            return true;
        }

        private boolean readPart(int depth) {
            if (token == '[') {
                if (depth >= BRACKETS) {
                    return false;
                }
                step();
                if (!readSum(depth + 1) || token != ']') {
                    return false;
                }
                step();
                return true;
            }
            int word = token - FIRST_WORD;
            boolean isWord = word >= 0 && word < ASKED_WORDS;
            boolean isNumber = token == DIGITS && number <= HIGHEST_NUMBER;
            if (!isWord && !isNumber || parts >= PARTS) {
                return false;
            }
            parts++;
            if (isWord) {
                mentioned |= 1 << word;
                write(DO_WORD, word);
            } else {
                write(DO_NUMBER, number);
            }
            step();
            return true;
        }

        private void write(int order, int argument) {
            if (used < code.length) {
                code[used] = order | argument << 4;
                used++;
            }
        }

        /** The jump written there goes to what is written next. */
        private void aim(int jump) {
            if (jump < code.length) {
                code[jump] = code[jump] & 15 | used << 4;
            }
        }

        private void step() {
            at = next;
            while (at < length && text[at] == ' ') {
                at++;
            }
            next = at;
            if (at >= length) {
                token = END;
            } else if (isLetter(text[at])) {
                while (next < length && isLetter(text[next])) {
                    next++;
                }
                token = wordThere();
            } else if (isDigit(text[at])) {
                number = 0;
                while (next < length && isDigit(text[next])) {
                    number = Math.min(number * 10 + text[next] - '0', HIGHEST_NUMBER + 1);
                    next++;
                }
                token = DIGITS;
            } else {
                token = text[at];
                next++;
            }
        }

        private static boolean isLetter(int sign) {
            return sign >= 'a' && sign <= 'z';
        }

        private static boolean isDigit(int sign) {
            return sign >= '0' && sign <= '9';
        }

        private int wordThere() {
            int word = 0;
            int alike = 0; // so many letters are those of the word; NONE once one is not
            for (int i = 0; i < WORDS.length(); i++) {
                char sign = WORDS.charAt(i);
                if (sign == ' ') {
                    if (alike == next - at) {
                        return FIRST_WORD + word;
                    }
                    word++;
                    alike = 0;
                } else if (alike != NONE) {
                    alike = at + alike < next && text[at + alike] == sign ? alike + 1 : NONE;
                }
            }
            return STRANGE_WORD;
        }
    }

    /** Asks the LAW in FORCE. */
    private static final class Asker {
        private static final long BEYOND = 1_000_000_000L;
        private final Town town;
        private final int[] asked = new int[ASKED_WORDS];
        private final long[] pile = new long[64];
        private int told;

        Asker(Town town) {
            this.town = town;
        }

        int limitOf(int window, int month, int minute) {
            ask(window, month, minute);
            return tells(LIMIT_HEAD) ? nearestTo(told, HIGHEST_LIMIT) : USUAL_LIMIT;
        }

        int priceOf(int thing, int colour) {
            if (town.trait(thing, COLOUR) == colour) {
                return 0;
            }
            ask(0, 0, 0);
            asked[THING_WORD] = thing;
            asked[SORT_WORD] = town.trait(thing, SORT);
            asked[COLOUR_WORD] = colour;
            return tells(COST_HEAD) ? nearestTo(told, HIGHEST_PRICE) : town.trait(thing, COST);
        }

        /** Whether the colour that a THING shows is neither hidden nor free. */
        boolean showsThing(int window, int thing, int colour, int month, int minute) {
            ask(window, month, minute);
            asked[THING_WORD] = thing;
            asked[SORT_WORD] = town.trait(thing, SORT);
            asked[COLOUR_WORD] = colour;
            return !tells(HIDDEN_HEAD) && !tells(FREE_HEAD);
        }

        boolean showsOne(int window, int person, int place, int month, int minute) {
            ask(window, month, minute);
            asked[PLACE_WORD] = place;
            asked[COLOUR_WORD] = town.coats[person];
            asked[COAT_WORD] = 1;
            asked[PERSON_WORD] = person;
            return !tells(HIDDEN_HEAD) && !tells(FREE_HEAD);
        }

        private void ask(int window, int month, int minute) {
            Arrays.fill(asked, 0);
            asked[WINDOW_WORD] = window;
            asked[MONTH_WORD] = month;
            asked[MINUTE_WORD] = minute;
        }

        /** Whether a CLAUSE with the head HOLDS; what the last of them tells is kept. */
        private boolean tells(int head) {
            Law law = town.ruling();
            if (law == null || !law.has(head)) {
                return false;
            }
            int[] clauses = law.clauses;
            for (int slot = clauses.length - Law.CLAUSE; slot >= 0; slot -= Law.CLAUSE) {
                if (clauses[slot] == head && runs(law.code, clauses[slot + 2], clauses[slot + 3]) && told != 0
                        && runs(law.code, clauses[slot + 1], clauses[slot + 2])) {
                    return true;
                }
            }
            return false;
        }

        /** Works a part of the code out; false if it is BROKEN. An empty part tells 1. */
        private boolean runs(int[] code, int from, int to) {
            int height = 0;
            for (int at = from; at < to && at < code.length; at++) {
                int order = code[at] & 15;
                int argument = code[at] >> 4;
                if (order == DO_NUMBER || order == DO_WORD) {
                    if (height >= pile.length || order == DO_WORD && argument >= ASKED_WORDS) {
                        return false;
                    }
                    pile[height] = order == DO_WORD ? asked[argument] : argument;
                    height++;
                } else if (order == DO_NOT && height > 0) {
                    pile[height - 1] = 1 - pile[height - 1];
                } else if (order >= DO_OR && height > 0) {
                    if ((pile[height - 1] != 0) == (order == DO_OR)) {
                        at = argument > at ? argument - 1 : at;
                    } else {
                        height--;
                    }
                } else if (height > 1) {
                    height--;
                    long right = pile[height];
                    long left = pile[height - 1];
                    if (order == DO_DIVIDE && right == 0) {
                        return false;
                    }
                    switch (order) {
                        case DO_ADD: left += right; break;
                        case DO_TAKE_OFF: left -= right; break;
                        case DO_TIMES: left *= right; break;
                        case DO_DIVIDE: left = right == 0 ? 0 : left / right; break;
                        case DO_LESS: left = left < right ? 1 : 0; break;
                        case DO_MORE: left = left > right ? 1 : 0; break;
                        default: left = left == right ? 1 : 0; break;
                    }
                    if (left > BEYOND || left < -BEYOND) {
                        return false;
                    }
                    pile[height - 1] = left;
                } else {
                    return false;
                }
            }
            told = height > 0 ? (int) pile[height - 1] : 1;
            return true;
        }
    }

    /** What WINDOWS see in the MONTH; what was asked once is kept till something changes. */
    private static final class Sight {
        private static final int UNKNOWN = -1;
        private static final int UNTOLD = -2;
        private final Town town;
        private final Asker asker;
        private final int[] stays = new int[PEOPLE * MINUTES];
        private final int[] thingsSeen = new int[WINDOWS * MINUTES];
        private final int[] limits = new int[WINDOWS * MINUTES];
        private final int[] onesSeen = new int[WINDOWS * PEOPLE * PLACES];
        final int[] out = new int[PEOPLE];
        final int[] badMinutes = new int[WINDOWS];
        int firstMinute;
        int firstWindow;
        int total;
        private boolean swept;
        private boolean sightByMinute;
        private boolean limitByMinute;
        private int changes = -1;

        Sight(Town town, Asker asker) {
            this.town = town;
            this.asker = asker;
        }

        void refresh() {
            if (changes == town.changes) {
                return;
            }
            changes = town.changes;
            swept = false;
            Arrays.fill(thingsSeen, UNKNOWN);
            Arrays.fill(limits, UNKNOWN);
            Arrays.fill(onesSeen, UNKNOWN);
            Law law = town.ruling();
            sightByMinute = law != null && (law.mentions(HIDDEN_HEAD, MINUTE_WORD) || law.mentions(FREE_HEAD, MINUTE_WORD));
            limitByMinute = law != null && law.mentions(LIMIT_HEAD, MINUTE_WORD);
            layStays();
        }

        private void layStays() {
            Arrays.fill(stays, UNTOLD);
            for (int at = 0; at < town.walks * 3; at += 3) {
                stays[town.walked[at] * MINUTES + town.walked[at + 1]] = town.walked[at + 2];
            }
            for (int person = 0; person < PEOPLE; person++) {
                int place = NONE;
                for (int at = person * MINUTES; at < (person + 1) * MINUTES; at++) {
                    if (stays[at] == UNTOLD) {
                        stays[at] = place;
                    }
                    place = stays[at];
                }
            }
        }

        /** All are where their WALKS tell, but for one who is left at home (NONE: for none). */
        void letOut(int minute, int but) {
            for (int person = 0; person < PEOPLE; person++) {
                out[person] = person == but ? NONE : stays[person * MINUTES + minute];
            }
        }

        int limitAt(int window, int minute) {
            int slot = window * MINUTES + (limitByMinute ? minute : 0);
            if (limits[slot] == UNKNOWN) {
                limits[slot] = asker.limitOf(window, town.month, minute);
            }
            return limits[slot];
        }

        int thingsFrom(int window, int minute) {
            int slot = window * MINUTES + (sightByMinute ? minute : 0);
            if (thingsSeen[slot] != UNKNOWN) {
                return thingsSeen[slot];
            }
            int seen = 0;
            int looks = town.view(window, VIEW_THINGS);
            for (int thing = 0; thing < town.things; thing++) {
                if ((looks >> thing & 1) == 1) {
                    int colour = town.shownIn(thing, town.trait(thing, COLOUR), town.month);
                    int bit = 1 << town.lowest[colour];
                    if ((seen & bit) == 0 && asker.showsThing(window, thing, colour, town.month, minute)) {
                        seen |= bit;
                    }
                }
            }
            thingsSeen[slot] = seen;
            return seen;
        }

        int oneFrom(int window, int person, int place, int minute) {
            if (place == NONE || (town.view(window, VIEW_PLACES) >> place & 1) == 0) {
                return 0;
            }
            int slot = (window * PEOPLE + person) * PLACES + place;
            if (!sightByMinute && onesSeen[slot] != UNKNOWN) {
                return onesSeen[slot];
            }
            boolean shows = asker.showsOne(window, person, place, town.month, minute);
            onesSeen[slot] = shows ? 1 << town.lowest[town.coats[person]] : 0;
            return onesSeen[slot];
        }

        /** The colours SEEN with all PEOPLE where they are out. */
        int seenFrom(int window, int minute) {
            int seen = thingsFrom(window, minute);
            for (int person = 0; person < town.people; person++) {
                seen |= oneFrom(window, person, out[person], minute);
            }
            return seen;
        }

        int failing(int minute) {
            int fails = 0;
            for (int window = 0; window < town.windows; window++) {
                if (Integer.bitCount(seenFrom(window, minute)) > limitAt(window, minute)) {
                    fails |= 1 << window;
                }
            }
            return fails;
        }

        void sweep() {
            refresh();
            if (swept) {
                return;
            }
            swept = true;
            firstMinute = NONE;
            firstWindow = NONE;
            total = 0;
            Arrays.fill(badMinutes, 0);
            for (int minute = 0; minute < MINUTES; minute++) {
                letOut(minute, NONE);
                int fails = failing(minute);
                if (fails != 0 && firstMinute == NONE) {
                    firstMinute = minute;
                    firstWindow = lowestOf(fails);
                }
                total += Integer.bitCount(fails);
                for (int window = 0; window < town.windows; window++) {
                    badMinutes[window] += fails >> window & 1;
                }
            }
        }

        /** NEAR as failing WINDOWS, one colour and the other as digits of eight; NONE if all count as one. */
        int nearest() {
            int found = NONE;
            for (int one = 0; one < COLOURS; one++) {
                for (int other = one + 1; other < COLOURS; other++) {
                    int low = Math.min(town.lowest[one], town.lowest[other]);
                    int high = Math.max(town.lowest[one], town.lowest[other]);
                    if (low != high) {
                        int fails = failingWith(low, high);
                        if (found == NONE || fails < found / (COLOURS * COLOURS)) {
                            found = (fails * COLOURS + one) * COLOURS + other;
                        }
                    }
                }
            }
            return found;
        }

        private int failingWith(int low, int high) {
            int fails = 0;
            for (int window = 0; window < town.windows; window++) {
                int seen = thingsFrom(window, 0);
                int twice = (seen >> low & 1) + (seen >> high & 1) == 2 ? 1 : 0;
                if (Integer.bitCount(seen) - twice > limitAt(window, 0)) {
                    fails++;
                }
            }
            return fails;
        }
    }

    /**
     * What PAINTINGS are made of: the choices of each THING, and for each of the MONTHS (a row) what each
     * choice shows to each WINDOW. The eight WINDOWS lie in a long, a byte of colours each, so that one step
     * looks through all of them.
     */
    private static final class Canvas {
        private static final long EACH = 0x0101010101010101L;
        static final long OVER = EACH << 7;
        private final Town town;
        private final Asker asker;
        final int[] choices = new int[THINGS];
        final int[] price = new int[THINGS * CHOICES];
        final int[] gain = new int[THINGS * CHOICES];
        final int[] tally = new int[THINGS * CHOICES]; // GREY, painted, off: a byte each
        final long[] shown = new long[THINGS * CHOICES * MONTHS];
        private final long[] rest = new long[(THINGS + 1) * MONTHS]; // all that later THINGS may show
        private final long[] more = new long[(THINGS + 1) * MONTHS]; // how many of them may show something
        private final int[] hues = new int[THINGS * CHOICES];
        private final long[] spare = new long[MONTHS];
        private final long[] views = new long[THINGS * COLOURS];
        private final int[] known = new int[THINGS];
        int rows;
        private int months;
        private int changes = -1;

        Canvas(Town town, Asker asker) {
            this.town = town;
            this.asker = asker;
        }

        int hue(int thing, int choice) {
            return hues[thing * CHOICES + choice];
        }

        void prepare(int wanted) {
            if (changes == town.changes && months == wanted) {
                return;
            }
            if (changes != town.changes) {
                for (int thing = 0; thing < town.things; thing++) {
                    layChoices(thing);
                }
            }
            changes = town.changes;
            months = wanted;
            Law law = town.ruling();
            boolean byMonth = law != null && (law.mentions(HIDDEN_HEAD, MONTH_WORD) || law.mentions(FREE_HEAD, MONTH_WORD));
            Arrays.fill(known, 0);
            rows = 0;
            for (int month = 0; month < MONTHS; month++) {
                if ((wanted >> month & 1) == 1) {
                    layRow(month);
                    if (byMonth) {
                        Arrays.fill(known, 0);
                    }
                }
            }
        }

        private void layChoices(int thing) {
            int colour = town.trait(thing, COLOUR);
            int wished = town.trait(thing, WISHED);
            boolean must = town.trait(thing, MUST) == 1;
            int may = colour == wished || !must ? 1 : 0;
            if (colour != wished) {
                may |= 2;
            }
            if (colour != 0 && wished != 0 && !must) {
                may |= 4;
            }
            choices[thing] = may;
            for (int choice = 0; choice < CHOICES; choice++) {
                int slot = thing * CHOICES + choice;
                int hue = choice == 0 ? colour : choice == 1 ? wished : 0;
                boolean chosen = (may >> choice & 1) == 1;
                hues[slot] = hue;
                price[slot] = chosen && choice != 0 ? asker.priceOf(thing, hue) : 0;
                gain[slot] = (hue == wished ? town.trait(thing, WORTH) : 0) - price[slot];
                tally[slot] = (hue == 0 ? 1 : 0) | (choice == 0 ? 0 : 1 << 8) | (hue == wished ? 0 : 1 << 16);
            }
        }

        /** A row is dropped again if no PAINTING could break it, or if an earlier one is just like it. */
        private void layRow(int month) {
            int row = rows;
            long limits = 0;
            for (int window = 0; window < town.windows; window++) {
                limits |= (long) (127 - asker.limitOf(window, month, 0)) << 8 * window;
            }
            spare[row] = limits;
            rest[town.things * MONTHS + row] = 0;
            more[town.things * MONTHS + row] = 0;
            for (int thing = town.things - 1; thing >= 0; thing--) {
                long all = 0;
                for (int choice = 0; choice < CHOICES; choice++) {
                    if ((choices[thing] >> choice & 1) == 1) {
                        long view = viewOf(thing, town.shownIn(thing, hue(thing, choice), month), month);
                        shown[(thing * CHOICES + choice) * MONTHS + row] = view;
                        all |= view;
                    }
                }
                int slot = thing * MONTHS + row;
                rest[slot] = all | rest[slot + MONTHS];
                // 127 more reach the highest bit of each byte that is not 0.
                more[slot] = more[slot + MONTHS] + (counted(all) + 127 * EACH >>> 7 & EACH);
            }
            if (mayFail(row, 0, limits, limits) != 0 && !isTwice(row)) {
                rows++;
            }
        }

        private boolean isTwice(int row) {
            for (int other = 0; other < row; other++) {
                boolean alike = spare[other] == spare[row] && rest[other] == rest[row];
                for (int slot = 0; slot < town.things * CHOICES && alike; slot++) {
                    boolean chosen = (choices[slot / CHOICES] >> slot % CHOICES & 1) == 1;
                    alike = !chosen || shown[slot * MONTHS + other] == shown[slot * MONTHS + row];
                }
                if (alike) {
                    return true;
                }
            }
            return false;
        }

        private long viewOf(int thing, int colour, int month) {
            int slot = thing * COLOURS + colour;
            if ((known[thing] >> colour & 1) == 1) {
                return views[slot];
            }
            long bit = 1L << town.lowest[colour];
            long view = 0;
            for (int window = 0; window < town.windows; window++) {
                if ((town.view(window, VIEW_THINGS) >> thing & 1) == 1
                        && asker.showsThing(window, thing, colour, month, 0)) {
                    view |= bit << 8 * window;
                }
            }
            known[thing] |= 1 << colour;
            views[slot] = view;
            return view;
        }

        /** For each WINDOW 127 less its LIMIT; nothing for those that are left out; one less for an eased one. */
        long spareOf(int row, int kept, int eased) {
            long left = spare[row] & bytesOf(kept);
            return eased == NONE ? left : left - (1L << 8 * eased);
        }

        /**
         * The highest bits of the bytes of all WINDOWS that may yet see more colours than they may, with all that
         * THINGS from one on can show: no more than all their colours, and no more than one colour each. The load
         * is how many are seen and what is spare together: over the LIMIT it has the highest bit.
         */
        long mayFail(int slot, long seen, long load, long left) {
            long open = load + more[slot] & OVER;
            return open == 0 ? 0 : open & counted(seen | rest[slot]) + left;
        }

        /**
         * Whether one choice shows the WINDOWS that matter nothing in the open rows but what they see anyway, or would
         * see with another choice.
         */
        boolean showsNoMore(int slot, int other, long[] seen, int from, int open, long matters) {
            for (int row = 0; row < rows; row++) {
                if ((open >> row & 1) == 1) {
                    long known = seen[from + row] | shown[other * MONTHS + row];
                    if ((shown[slot * MONTHS + row] & ~known & matters) != 0) {
                        return false;
                    }
                }
            }
            return true;
        }

        /** All bits of the bytes whose WINDOWS are told as bits. */
        static long bytesOf(int windows) {
            long bytes = 0;
            for (int window = 0; window < WINDOWS; window++) {
                bytes |= (windows >> window & 1) * 255L << 8 * window;
            }
            return bytes;
        }

        /** How many bits each byte has. */
        static long counted(long seen) {
            long twos = seen - (seen >>> 1 & 85 * EACH);
            long fours = (twos & 51 * EACH) + (twos >>> 2 & 51 * EACH);
            return fours + (fours >>> 4) & 15 * EACH;
        }
    }

    /** Goes through the GOOD PAINTINGS, THING by THING; what can't fail any more is counted at once. */
    private static final class Painter {
        private static final int ALL = 0;
        private static final int ANY = 1;
        private static final int HIGHER = 2;
        private static final int FAILS = -1;
        private final Town town;
        private final Canvas canvas;
        private final long[] seen = new long[(THINGS + 1) * MONTHS];
        private final long[] spare = new long[MONTHS];
        private final int[] chosen = new int[THINGS];
        // Of a THING and all later ones, whatever WINDOWS see.
        private final int[] ways = new int[THINGS + 1];
        private final int[] topWays = new int[THINGS + 1];
        private final int[] topGain = new int[THINGS + 1];
        private final int[] lowTally = new int[THINGS + 1];
        private final int[] topChoice = new int[THINGS];
        final int[] first = new int[THINGS];
        int good;
        int bests;
        int value;
        private int fewest;
        private int aim;
        private long matters; // the bytes of all WINDOWS that are not left out
        private int months;
        private int changes = -1;

        Painter(Town town, Canvas canvas) {
            this.town = town;
            this.canvas = canvas;
        }

        int fewestOf(int what) {
            return fewest >> 8 * what & 255;
        }

        /** Counts all, for MONTHS that the canvas is prepared for. */
        void survey(int wanted) {
            if (changes == town.changes && months == wanted) {
                return;
            }
            changes = town.changes;
            months = wanted;
            start(ALL, (1 << WINDOWS) - 1, NONE);
            bests = 0;
            go();
        }

        /** Whether there is a GOOD one, if only the kept WINDOWS count. */
        boolean finds(int kept) {
            start(ANY, kept, NONE);
            bests = 0;
            go();
            return good > 0;
        }

        /** The greatest VALUE, at least the one given, if a WINDOW may see one colour more. */
        int highest(int eased, int least) {
            start(HIGHER, (1 << WINDOWS) - 1, eased);
            value = least;
            bests = 1;
            go();
            return value;
        }

        private void start(int wantedAim, int kept, int eased) {
            aim = wantedAim;
            matters = Canvas.bytesOf(kept);
            good = 0;
            fewest = 255 | 255 << 8 | 255 << 16;
            for (int row = 0; row < canvas.rows; row++) {
                spare[row] = canvas.spareOf(row, kept, eased);
                seen[row] = 0;
            }
            ways[town.things] = 1;
            topWays[town.things] = 1;
            topGain[town.things] = 0;
            lowTally[town.things] = 0;
            for (int thing = town.things - 1; thing >= 0; thing--) {
                sumUp(thing);
            }
        }

        private void sumUp(int thing) {
            int number = 0;
            int tops = 0;
            int top = 0;
            int low = 0;
            for (int choice = 0; choice < CHOICES; choice++) {
                if ((canvas.choices[thing] >> choice & 1) == 0) {
                    continue;
                }
                int gain = canvas.gain[thing * CHOICES + choice];
                int tally = canvas.tally[thing * CHOICES + choice];
                low = number == 0 ? tally : leastOf(low, tally);
                if (number == 0 || gain > top) {
                    top = gain;
                    tops = 0;
                    topChoice[thing] = choice;
                }
                tops += gain == top ? 1 : 0;
                number++;
            }
            ways[thing] = ways[thing + 1] * number;
            topWays[thing] = topWays[thing + 1] * tops;
            topGain[thing] = topGain[thing + 1] + top;
            lowTally[thing] = lowTally[thing + 1] + low;
        }

        private static int leastOf(int one, int other) {
            return Math.min(one & 255, other & 255) | Math.min(one & 255 << 8, other & 255 << 8)
                    | Math.min(one & 255 << 16, other & 255 << 16);
        }

        private void go() {
            int open = 0;
            for (int row = 0; row < canvas.rows; row++) {
                if (canvas.mayFail(row, 0, spare[row], spare[row]) != 0) {
                    open |= 1 << row;
                }
            }
            if (open == 0) {
                record(0, 0, 0);
            } else {
                explore(0, 0, 0, open);
            }
        }

        /** The open rows are those in which a WINDOW may yet see too much. */
        private void explore(int thing, int gained, int tallied, int open) {
            if (thing >= town.things) {
                return;
            }
            for (int choice = 0; choice < CHOICES; choice++) {
                if ((canvas.choices[thing] >> choice & 1) == 0 || aim == ANY && good > 0) {
                    continue;
                }
                int slot = thing * CHOICES + choice;
                int gain = gained + canvas.gain[slot];
                if (aim == HIGHER && gain + topGain[thing + 1] <= value || aim != ALL && isOutdone(thing, choice, open)) {
                    continue;
                }
                int left = look(thing, slot, open);
                if (left == FAILS) {
                    continue;
                }
                chosen[thing] = choice;
                if (left == 0) {
                    record(thing + 1, gain, tallied + canvas.tally[slot]);
                } else {
                    explore(thing + 1, gain, tallied + canvas.tally[slot], left);
                }
            }
        }

        /** Whether another choice is as good in all that is sought, so that this one need not be tried. */
        private boolean isOutdone(int thing, int choice, int open) {
            int slot = thing * CHOICES + choice;
            int from = thing * MONTHS;
            for (int other = 0; other < CHOICES; other++) {
                int rival = thing * CHOICES + other;
                int more = aim == HIGHER ? canvas.gain[rival] - canvas.gain[slot] : 0;
                if ((canvas.choices[thing] >> other & 1) == 1 && other != choice && more >= 0
                        && canvas.showsNoMore(rival, slot, seen, from, open, matters)
                        && (other < choice || more > 0 || !canvas.showsNoMore(slot, rival, seen, from, open, matters))) {
                    return true;
                }
            }
            return false;
        }

        /** The rows that are still open with that choice of a THING. */
        private int look(int thing, int slot, int open) {
            int from = thing * MONTHS;
            int to = from + MONTHS;
            int left = 0;
            for (int row = 0; row < canvas.rows; row++) {
                if ((open >> row & 1) == 1) {
                    long view = seen[from + row] | canvas.shown[slot * MONTHS + row];
                    long load = Canvas.counted(view) + spare[row];
                    if ((load & Canvas.OVER) != 0) {
                        return FAILS;
                    }
                    seen[to + row] = view;
                    if (canvas.mayFail(to + row, view, load, spare[row]) != 0) {
                        left |= 1 << row;
                    }
                }
            }
            return left;
        }

        /** All that begin with what is chosen, whatever the THINGS from there on have, are GOOD. */
        private void record(int from, int gained, int tallied) {
            good += ways[from];
            fewest = leastOf(fewest, tallied + lowTally[from]);
            int top = gained + topGain[from];
            if (bests > 0 && top < value) {
                return;
            }
            if (bests > 0 && top == value) {
                bests += topWays[from];
                return;
            }
            value = top;
            bests = topWays[from];
            for (int thing = 0; thing < town.things; thing++) {
                first[thing] = thing < from ? chosen[thing] : topChoice[thing];
            }
        }
    }

    /** Painting and walling up together, at the least. */
    private static final class Mender {
        private static final int DEARER_THAN_ALL = 1_000_000;
        private final Town town;
        private final Canvas canvas;
        private final long[] seen = new long[(THINGS + 1) * MONTHS];
        private final long[] spare = new long[MONTHS];
        private final int[] chosen = new int[THINGS];
        private final int[] cheapest = new int[THINGS + 1]; // of a THING and all later ones
        private final int[] cheapChoice = new int[THINGS];
        final int[] first = new int[THINGS];
        int least;
        private long walled;
        private int months;
        private int changes = -1;

        Mender(Town town, Canvas canvas) {
            this.town = town;
            this.canvas = canvas;
        }

        int walledUp() {
            int bits = 0;
            for (int window = 0; window < WINDOWS; window++) {
                bits |= (int) (walled >>> 8 * window + 7 & 1) << window;
            }
            return bits;
        }

        /** For MONTHS that the canvas is prepared for. */
        void search(int wanted) {
            if (changes == town.changes && months == wanted) {
                return;
            }
            changes = town.changes;
            months = wanted;
            least = DEARER_THAN_ALL;
            for (int row = 0; row < canvas.rows; row++) {
                spare[row] = canvas.spareOf(row, (1 << WINDOWS) - 1, NONE);
                seen[row] = 0;
            }
            cheapest[town.things] = 0;
            for (int thing = town.things - 1; thing >= 0; thing--) {
                sumUp(thing);
            }
            int open = stillOpen(0, 0, (1 << canvas.rows) - 1);
            if (open == 0) {
                record(0, cheapest[0], 0);
            } else {
                explore(0, 0, 0, open);
            }
        }

        private void sumUp(int thing) {
            int low = DEARER_THAN_ALL;
            for (int choice = 0; choice < CHOICES; choice++) {
                int price = canvas.price[thing * CHOICES + choice];
                if ((canvas.choices[thing] >> choice & 1) == 1 && price < low) {
                    low = price;
                    cheapChoice[thing] = choice;
                }
            }
            cheapest[thing] = cheapest[thing + 1] + low;
        }

        /** WINDOWS that do not HOLD in one row are walled up in all; the open rows are those in which one more may fail. */
        private void explore(int thing, int spent, long failed, int open) {
            if (thing >= town.things) {
                return;
            }
            for (int choice = 0; choice < CHOICES; choice++) {
                int slot = thing * CHOICES + choice;
                int price = spent + canvas.price[slot];
                if ((canvas.choices[thing] >> choice & 1) == 0 || price + cheapest[thing + 1] >= least
                        || isOutdone(thing, choice, failed, open)) {
                    continue;
                }
                long fails = failed | look(thing, slot, open);
                int sum = price + cheapest[thing + 1] + shutting(fails);
                if (sum >= least) {
                    continue;
                }
                chosen[thing] = choice;
                int left = stillOpen(thing + 1, fails, open);
                if (left == 0) {
                    record(thing + 1, sum, fails);
                } else {
                    explore(thing + 1, price, fails, left);
                }
            }
        }

        /** Whether another choice is ahead of this one, whatever later THINGS have. */
        private boolean isOutdone(int thing, int choice, long failed, int open) {
            int slot = thing * CHOICES + choice;
            long matters = ~((failed >>> 7) * 255);
            for (int other = 0; other < CHOICES; other++) {
                int rival = thing * CHOICES + other;
                int less = canvas.price[slot] - canvas.price[rival];
                if ((canvas.choices[thing] >> other & 1) == 1 && (less > 0 || less == 0 && other < choice)
                        && canvas.showsNoMore(rival, slot, seen, thing * MONTHS, open, matters)) {
                    return true;
                }
            }
            return false;
        }

        private long look(int thing, int slot, int open) {
            long fails = 0;
            for (int row = 0; row < canvas.rows; row++) {
                if ((open >> row & 1) == 1) {
                    long view = seen[thing * MONTHS + row] | canvas.shown[slot * MONTHS + row];
                    seen[(thing + 1) * MONTHS + row] = view;
                    fails |= Canvas.counted(view) + spare[row] & Canvas.OVER;
                }
            }
            return fails;
        }

        private int stillOpen(int thing, long failed, int open) {
            int left = 0;
            for (int row = 0; row < canvas.rows; row++) {
                if ((open >> row & 1) == 1) {
                    int slot = thing * MONTHS + row;
                    long load = Canvas.counted(seen[slot]) + spare[row];
                    if ((canvas.mayFail(slot, seen[slot], load, spare[row]) & ~failed) != 0) {
                        left |= 1 << row;
                    }
                }
            }
            return left;
        }

        private int shutting(long fails) {
            int sum = 0;
            for (int window = 0; window < town.windows && fails != 0; window++) {
                if ((fails >>> 8 * window + 7 & 1) == 1) {
                    sum += town.view(window, VIEW_SHUT);
                }
            }
            return sum;
        }

        private void record(int from, int sum, long fails) {
            least = sum;
            walled = fails;
            for (int thing = 0; thing < town.things; thing++) {
                first[thing] = thing < from ? chosen[thing] : cheapChoice[thing];
            }
        }
    }

    /** WAYS of one of the PEOPLE. */
    private static final class Walker {
        private final Town town;
        private final Sight sight;
        private final int[] reached = new int[MINUTES];
        private final int[] seen = new int[WINDOWS];
        final int[] steps = new int[MINUTES];
        int soonest;
        private int walking;
        private int request = -1;
        private int changes = -1;

        Walker(Town town, Sight sight) {
            this.town = town;
            this.sight = sight;
        }

        void find(int person, int minute, int from, int to) {
            int wanted = ((person * MINUTES + minute) * PLACES + from) * PLACES + to;
            if (changes == town.changes && request == wanted) {
                return;
            }
            changes = town.changes;
            request = wanted;
            walking = person;
            sight.refresh();
            soonest = NONE;
            int may = 1 << from;
            for (int now = minute; now < MINUTES && may != 0 && soonest == NONE; now++) {
                reached[now] = openOf(may, now);
                if ((reached[now] >> to & 1) == 1) {
                    soonest = now;
                }
                may = withStreets(reached[now]);
            }
            if (soonest != NONE) {
                trace(minute, from, to);
            }
        }

        /** Those of some PLACES at which it may be at a MINUTE. */
        private int openOf(int places, int minute) {
            sight.letOut(minute, walking);
            for (int window = 0; window < town.windows; window++) {
                seen[window] = (town.view(window, VIEW_PLACES) & places) == 0 ? 0 : sight.seenFrom(window, minute);
            }
            int open = 0;
            for (int place = 0; place < PLACES; place++) {
                if ((places >> place & 1) == 1 && mayStand(place, minute)) {
                    open |= 1 << place;
                }
            }
            return open;
        }

        private boolean mayStand(int place, int minute) {
            for (int window = 0; window < town.windows; window++) {
                if ((town.view(window, VIEW_PLACES) >> place & 1) == 1) {
                    int all = seen[window] | sight.oneFrom(window, walking, place, minute);
                    if (Integer.bitCount(all) > sight.limitAt(window, minute)) {
                        return false;
                    }
                }
            }
            return true;
        }

        private int withStreets(int places) {
            int all = places;
            for (int place = 0; place < PLACES; place++) {
                if ((places >> place & 1) == 1) {
                    all |= town.streets[place];
                }
            }
            return all;
        }

        /** Back from the goal only PLACES from which it is reached in time are left; then the lowest are taken. */
        private void trace(int minute, int from, int to) {
            reached[soonest] = 1 << to;
            for (int now = soonest - 1; now >= minute; now--) {
                reached[now] &= withStreets(reached[now + 1]);
            }
            int place = from;
            steps[minute] = from;
            for (int now = minute + 1; now <= soonest; now++) {
                int may = (1 << place | town.streets[place]) & reached[now];
                place = may == 0 ? place : lowestOf(may);
                steps[now] = place;
            }
        }
    }

    /** The latest DAY by DRAWS. */
    private static final class Outing {
        private static final int TIMES = 1103;
        private static final int MORE = 12_345;
        private static final int MODULO = 1_000_003;
        private final Town town;
        private final Sight sight;
        final int[] places = new int[PEOPLE * MINUTES];
        int people; // as many as there were on that DAY
        private int state;

        Outing(Town town, Sight sight) {
            this.town = town;
            this.sight = sight;
        }

        int draw(int seed) {
            state = seed;
            people = town.people;
            sight.refresh();
            sight.letOut(0, NONE);
            int often = 0;
            for (int minute = 0; minute < MINUTES; minute++) {
                for (int person = 0; person < people; person++) {
                    int place = minute == 0 ? drawOf(PLACES) : next(sight.out[person]);
                    sight.out[person] = place;
                    places[person * MINUTES + minute] = place;
                }
                often += Integer.bitCount(sight.failing(minute));
            }
            return often;
        }

        private int drawOf(int n) {
            state = (state * TIMES + MORE) % MODULO;
            return n > 0 ? state % n : 0;
        }

        private int next(int place) {
            int streets = town.streets[place];
            int left = drawOf(1 + Integer.bitCount(streets));
            if (left == 0) {
                return place;
            }
            for (int other = 0; other < PLACES; other++) {
                left -= streets >> other & 1;
                if (left == 0) {
                    return other;
                }
            }
            return place;
        }
    }

    /** FILES of all PEOPLE. */
    private static final class Procession {
        private final Town town;
        private final int[] line = new int[PEOPLE];
        final int[] first = new int[PEOPLE];
        int orders;
        private int neighbours;
        private int colours;

        Procession(Town town) {
            this.town = town;
        }

        void arrange(int k, int l) {
            neighbours = k;
            colours = l;
            orders = 0;
            goOn(0, 0);
        }

        private void goOn(int at, int gone) {
            if (at >= town.people) {
                if (orders == 0) {
                    System.arraycopy(line, 0, first, 0, PEOPLE);
                }
                orders++;
                return;
            }
            for (int person = 0; person < town.people; person++) {
                if ((gone >> person & 1) == 0) {
                    line[at] = person;
                    if (fits(at)) {
                        goOn(at + 1, gone | 1 << person);
                    }
                }
            }
        }

        private boolean fits(int last) {
            int seen = 0;
            for (int at = Math.max(0, last - neighbours + 1); at <= last; at++) {
                seen |= 1 << town.lowest[town.coats[line[at]]];
            }
            return Integer.bitCount(seen) <= colours;
        }
    }
}
