import java.util.Arrays;

/** Stairs that are gone down in the dark, by counting: each call answers what ../shared/DOC.md promises. */
public final class OneStepMore {
    public static final int NONE = -1;

    private static final int OTHERS = -2;
    private static final int NO_LEGS = -100;

    private static final int HOUSES = 4;
    private static final int PEOPLE = 6;
    private static final int STEPS = 14;
    private static final int FIRST_STEPS = 12;
    private static final int HIGHEST = 9;
    private static final int FIRST_HEIGHT = 5;
    private static final int TEN = 10;
    private static final int KINDS = 4;
    private static final int LOADED = 1;
    private static final int DRUNK = 2;
    private static final int LAST_NIGHT = 999;
    private static final int NIGHTS_AT_ONCE = 99;
    private static final int SEEDS = 10000;
    private static final int WEEK_NIGHTS = 7;
    // 14 STEPS counted twice, and the LANDING: 29 is the highest COUNT
    private static final int COUNTS = 30;
    private static final int SEEN_KEPT = 12;
    private static final int SEEN_CELLS = 4;

    // what is known of one on the way, in this order; nobody is, if PERSON is NONE
    private static final int PERSON = 0;
    private static final int HOUSE = 1;
    private static final int KIND = 2;
    private static final int AT = 3;
    private static final int COUNT = 4;
    private static final int SECONDS = 5;
    private static final int HARM = 6;
    private static final int TRIPS = 7;
    private static final int CELLS = 8;

    // where a line of THE BOOK is unlike that order
    private static final int LINE_NIGHT = 2;
    private static final int LINE_COUNT = 3;
    private static final int LINE_SECONDS = 4;
    private static final int LINE_HARM = 5;
    private static final int LINE_HOW = 6;
    private static final int LINE_TRIPS = 7;

    private static final int FELT = 0;
    private static final int JARRED = 1;
    private static final int STOOD = 2;
    private static final int FELL = 3;

    private static final int LINES_KEPT = 40;
    // 30 ACTS of 7 lines each can be taken back, with 40 lines to be seen behind them: 250 lines
    private static final int LINES = 256;
    private static final int ACTS = 30;
    private static final int ACT_CELLS = 11;
    private static final int ACT_NIGHT = 8;
    private static final int ACT_X = 9;
    private static final int ACT_WRITTEN = 10;

    private static final int TAPE = 300;
    private static final int FED = 20;
    private static final int TEXTS = 4;
    private static final int CLAUSES = 24;
    private static final int CLAUSE_NUMBERS = 3;
    private static final int OPEN_AT_ONCE = 8;
    private static final int LARGEST = 1000000;
    private static final int LARGEST_NUMBER = 9999;

    private static final int STRANGE = 1;
    private static final int UNTOLD_NUMBER = 2;
    private static final int TOO_DEEP = 3;
    private static final int SECOND_TIME = 4;
    private static final int FOREIGN_NAME = 5;
    private static final int TOO_MANY = 6;

    // a word's token is its place here: laws, the other CLAUSES, what stands inside them, NAMES
    private static final String WORDS =
        " none twice trips jar fall stair high mark rail one begin load drink step toe stop night long at of landing if end not or and who house steps drunk loaded nights nth height last ";
    private static final int NONE_LAW = 0;
    private static final int TWICE_LAW = 1;
    private static final int TRIPS_LAW = 2;
    private static final int JAR_LAW = 3;
    private static final int FALL_LAW = 4;
    private static final int LAWS = 5;
    private static final int STAIR = 5;
    private static final int HIGH = 6;
    private static final int MARK = 7;
    private static final int RAIL = 8;
    private static final int ONE = 9;
    private static final int BEGIN = 10;
    private static final int LOAD = 11;
    private static final int DRINK = 12;
    private static final int STEP = 13;
    private static final int TOE = 14;
    private static final int STOP = 15;
    private static final int NIGHT = 16;
    private static final int LONG_WORD = 17;
    private static final int AT_WORD = 18;
    private static final int OF_WORD = 19;
    private static final int LANDING_WORD = 20;
    private static final int IF_WORD = 21;
    private static final int END_WORD = 22;
    private static final int NOT_WORD = 23;
    private static final int OR_WORD = 24;
    private static final int AND_WORD = 25;
    private static final int WHO_WORD = 26;
    private static final int LAST_WORD = 34;

    private static final int PLUS = 40;
    private static final int MINUS = 41;
    private static final int STAR = 42;
    private static final int SLASH = 43;
    private static final int LESS = 44;
    private static final int LESS_OR_SAME = 45;
    private static final int MORE = 46;
    private static final int MORE_OR_SAME = 47;
    private static final int SAME = 48;
    private static final int UNLIKE = 49;
    private static final int OPEN = 50;
    private static final int CLOSE = 51;
    private static final int SEMICOLON = 52;
    private static final int QUESTION = 53;
    private static final int COLON = 54;
    private static final int NUMBER = 60;
    private static final int TEXT_END = 61;
    private static final int NO_TOKEN = 62;

    // code: a NUMBER is itself, an operation its token below 0; these two have no token of their own
    private static final int TURN = -70;
    private static final int FIRST_NAME = -100;

    private static final int WHO_NAME = 0;
    private static final int HOUSE_NAME = 1;
    private static final int STEPS_NAME = 2;
    private static final int DRUNK_NAME = 3;
    private static final int LOADED_NAME = 4;
    private static final int NIGHTS_NAME = 5;
    private static final int NTH_NAME = 6;
    private static final int HEIGHT_NAME = 7;
    private static final int LAST_NAME = 8;
    private static final int RAIL_NAME = 9;
    private static final int NAMES = 10;

    // of each CLAUSE from STAIR on, three times: a NUMBER's lowest, its highest (below it: none is due), the word behind
    private static final int[] SHAPES = {
        0, 3, LONG_WORD, 1, 14, NONE, 1, 0, NONE,
        1, 9, AT_WORD, 1, 14, OF_WORD, 0, 3, NONE,
        1, 14, OF_WORD, 0, 3, NONE, 1, 0, NONE,
        0, 14, OF_WORD, 0, 3, NONE, 1, 0, NONE,
        0, 10, TWICE_LAW, 0, 10, LANDING_WORD, 0, 10, NONE,
        0, 5, AT_WORD, 0, 3, NONE, 1, 0, NONE,
        0, 5, AT_WORD, 0, 3, NONE, 1, 0, NONE,
        0, 5, AT_WORD, 0, 3, NONE, 1, 0, NONE,
        1, 20, NONE, 1, 0, NONE, 1, 0, NONE,
        1, 20, NONE, 1, 0, NONE, 1, 0, NONE,
        1, 0, NONE, 1, 0, NONE, 1, 0, NONE,
        1, 99, NONE, 1, 0, NONE, 1, 0, NONE,
    };

    private static final long[] POWERS = {
        1L, 10L, 100L, 1000L, 10000L, 100000L, 1000000L, 10000000L, 100000000L, 1000000000L, 10000000000L,
        100000000000L, 1000000000000L, 10000000000000L, 100000000000000L, 1000000000000000L,
    };

    private final State now;
    private final State kept;
    private final Tape tape;
    private final Reader reader;
    private final Walk walk;
    private final Mind mind;
    private final Tales tales;
    private final Leveller leveller;

    public OneStepMore() {
        Laws rules = new Laws();
        now = new State();
        kept = new State();
        tape = new Tape();
        reader = new Reader(tape);
        walk = new Walk(now, rules);
        mind = new Mind(now, rules);
        tales = new Tales(now, rules);
        leveller = new Leveller(now, rules);
    }

    public boolean stair(int house, int n) {
        return now.tellStairs(house, n);
    }

    public boolean height(int house, int step, int height) {
        return now.tellHeight(house, step, height);
    }

    public boolean mark(int house, int step, boolean is) {
        return now.tellMark(house, step, is);
    }

    public boolean rail(int house, int step) {
        return now.tellRail(house, step);
    }

    public int person(int none, int twice, int landing) {
        return now.tellPerson(none, twice, landing);
    }

    public boolean seed(int seed) {
        if (!isSeed(seed)) {
            return false;
        }
        now.x = seeded(seed);
        return true;
    }

    public int feed(int a, int b, int c, int d, int e) {
        if (!tape.hasRoom()) {
            return NONE;
        }
        tape.take(a);
        tape.take(b);
        tape.take(c);
        tape.take(d);
        tape.take(e);
        return tape.length;
    }

    public int end(int n) {
        if (n < 0 || n > tape.length) {
            return NONE;
        }
        tape.length = n;
        return n;
    }

    public int text() {
        if (now.texts >= TEXTS) {
            return NONE;
        }
        Text read = reader.read();
        tape.length = 0;
        return read == null ? NONE : now.keepText(read);
    }

    public int fault(int what) {
        if (what == 0) {
            return reader.fault;
        }
        return what == 1 ? reader.place : NONE;
    }

    public boolean by(int text) {
        if (text != NONE && now.textOf(text) == null) {
            return false;
        }
        now.ruling = text;
        return true;
    }

    public int begin(int person, int house, int kind) {
        return walk.beginAct(person, house, kind);
    }

    public int step() {
        return walk.stepAct();
    }

    public int toe() {
        return walk.toeAct();
    }

    public int stop() {
        return walk.stopAct();
    }

    public int night(int n) {
        if (n < 1 || n > NIGHTS_AT_ONCE || now.night + n > LAST_NIGHT) {
            return NONE;
        }
        for (int i = 0; i < n; i++) {
            walk.nightAct();
        }
        return now.night;
    }

    public int played(int text) {
        Text played = now.textOf(text);
        return played == null ? OTHERS : walk.playedBy(played);
    }

    public int week(int seed, int f) {
        if (!isSeed(seed) || f < 0 || f > COUNTS || now.people < 1) {
            return NONE;
        }
        return walk.weekAct(seeded(seed), f);
    }

    public int undo() {
        return now.takeBack();
    }

    public int way(int what) {
        return now.isOnWay() ? now.wayOf(what) : NONE;
    }

    public int house(int house, int what) {
        House asked = now.houseOf(house);
        if (asked == null) {
            return NONE;
        }
        switch (what) {
            case 0:
                return asked.n;
            case 1:
                return asked.marks;
            case 2:
                return asked.rail;
            default:
                // looked at first, as what - 10 may wrap around
                return what > TEN && asked.hasStep(what - TEN) ? asked.highOf(what - TEN) : NONE;
        }
    }

    public int says(int person, int house, int kind, int step, int what) {
        return tales.saidOf(person, house, kind, step, what);
    }

    public int book(int i, int what) {
        return i == NONE ? now.lines() : now.lineOf(i, what);
    }

    public long where(int person, int house, int kind, int c, int t, boolean low) {
        return mind.look(person, house, kind) ? mind.oddsAt(c, t, low) : NONE;
    }

    public long cost(int person, int house, int kind, int f, boolean low) {
        if (f < 0 || f > COUNTS || !mind.look(person, house, kind)) {
            return NONE;
        }
        mind.spread();
        return mind.costFrom(f, low);
    }

    public int from(int person, int house, int kind) {
        if (!mind.look(person, house, kind)) {
            return NONE;
        }
        mind.spread();
        mind.chooseFrom();
        return mind.bestFrom;
    }

    public int worth(int person, int house, int kind) {
        return mind.look(person, house, kind) ? mind.bestMark() : NONE;
    }

    public int goes(int person, int house) {
        return mind.goesWithLoad(person, house);
    }

    public int lamp(int person, int house, int h, int p) {
        if (h < 1 || h > 99 || p < 1 || p > 999 || !mind.look(person, house, 0)) {
            return NONE;
        }
        return mind.lampNights(h, p);
    }

    public long which(int person, int c, int house, boolean low) {
        return mind.oddsOfHouse(person, c, house, low);
    }

    public long whether(int person, int house, int c, boolean low) {
        return mind.look(person, house, 0) ? mind.oddsOfLanding(c, low) : NONE;
    }

    public long sure(int r, int a, int n, boolean low) {
        if (r < 1 || r > 9 || a < 1 || a > TEN || n < 0 || n >= POWERS.length) {
            return NONE;
        }
        return mind.oddsOfSure(r, a, n, low);
    }

    public int average(int r, int a, boolean low) {
        if (r < 1 || r > 9 || a < 1 || a > TEN) {
            return NONE;
        }
        return (int) part(r * TEN, a, low);
    }

    public int tally(int person, int what) {
        return tales.tallied(person, what);
    }

    public int legs(int person, int house) {
        return tales.legsOf(person, house);
    }

    public int trippers(int house, int step, int kind) {
        return tales.trippersAt(house, step, kind);
    }

    public int seen(int person, int house, int step, boolean tripped) {
        return tales.see(person, house, step, tripped);
    }

    public int laws() {
        return tales.lawsOfSeen();
    }

    public int alike(int house, int step, boolean few) {
        return leveller.levelled(house, step, few);
    }

    public int image() {
        kept.become(now);
        return now.night;
    }

    public int back() {
        now.become(kept);
        return now.night;
    }

    public int about(int what) {
        switch (what) {
            case 0:
                return now.people;
            case 1:
                return now.night;
            case 2:
                return now.x;
            case 3:
                return now.texts;
            case 4:
                return now.ruling;
            case 5:
                return now.acts;
            case 6:
                return now.seen;
            case 7:
                return now.toldHouses();
            case 8:
                return tape.length;
            default:
                return now.aboutPerson(what);
        }
    }

    private static boolean isSeed(int seed) {
        return seed >= 0 && seed < SEEDS;
    }

    private static int seeded(int seed) {
        return seed * 3 + 13;
    }

    /** The upper or the lower part of a fraction, in lowest terms. */
    private static long part(long upper, long lower, boolean low) {
        long a = upper;
        long b = lower;
        // Euclid's steps are fewer than a hundred for every two longs
        for (int i = 0; i < 100 && b != 0; i++) {
            long rest = a % b;
            a = b;
            b = rest;
        }
        if (a == 0) {
            return NONE;
        }
        return low ? lower / a : upper / a;
    }

    private static void copy(int[] from, int[] to) {
        System.arraycopy(from, 0, to, 0, Math.min(from.length, to.length));
    }

    private static int cell(int[] row, int i) {
        return i >= 0 && i < row.length ? row[i] : 0;
    }

    private static void put(int[] row, int i, int value) {
        if (i >= 0 && i < row.length) {
            row[i] = value;
        }
    }

    private static int between(int lowest, int highest, int value) {
        return Math.max(lowest, Math.min(highest, value));
    }

    private static final class House {
        int n = FIRST_STEPS;
        // the LANDING's is at 0
        final int[] heights = new int[STEPS + 1];
        int marks;
        int rail;
        boolean told;

        House() {
            Arrays.fill(heights, FIRST_HEIGHT);
        }

        void build(int steps) {
            n = steps;
            Arrays.fill(heights, FIRST_HEIGHT);
            marks = 0;
            rail = 0;
        }

        boolean hasStep(int step) {
            return step >= 1 && step <= n;
        }

        boolean hasMark(int step) {
            return hasStep(step) && (marks >> step & 1) == 1;
        }

        int highOf(int step) {
            return cell(heights, step);
        }

        void become(House other) {
            n = other.n;
            copy(other.heights, heights);
            marks = other.marks;
            rail = other.rail;
            told = other.told;
        }
    }

    /** A TEXT without FAULT; it never changes, so THE IMAGE may share it. */
    private static final class Text {
        final int[] code;
        // a law that isn't there starts and ends at 0
        final int[] lawStarts;
        final int[] lawEnds;
        final int[] deeds;
        final int[] numbers;

        Text(int[] code, int[] lawStarts, int[] lawEnds, int[] deeds, int[] numbers) {
            this.code = code;
            this.lawStarts = lawStarts;
            this.lawEnds = lawEnds;
            this.deeds = deeds;
            this.numbers = numbers;
        }

        int numberOf(int clause, int k) {
            return cell(numbers, clause * CLAUSE_NUMBERS + k);
        }
    }

    /** All that an image keeps. */
    private static final class State {
        final House[] houses = new House[HOUSES];
        final int[] none = new int[PEOPLE];
        final int[] twice = new int[PEOPLE];
        final int[] landing = new int[PEOPLE];
        int people;
        int x = 13;
        int night;
        final int[] way = new int[CELLS];
        // all that was ever written stands at its number mod LINES
        final int[] book = new int[LINES * CELLS];
        int written;
        final int[] past = new int[ACTS * ACT_CELLS];
        int acts;
        int nextAct;
        final Text[] read = new Text[TEXTS];
        int texts;
        int ruling = NONE;
        final int[] sights = new int[SEEN_KEPT * SEEN_CELLS];
        int seen;

        State() {
            for (int i = 0; i < HOUSES; i++) {
                houses[i] = new House();
            }
            way[PERSON] = NONE;
        }

        House houseOf(int house) {
            return house >= 0 && house < houses.length ? houses[house] : null;
        }

        boolean isPerson(int person) {
            return person >= 0 && person < people;
        }

        boolean isOnWay() {
            return way[PERSON] != NONE;
        }

        int wayOf(int what) {
            return what >= 0 && what < CELLS ? way[what] : NONE;
        }

        Text textOf(int text) {
            return text >= 0 && text < texts && text < read.length ? read[text] : null;
        }

        int keepText(Text text) {
            if (texts >= read.length) {
                return NONE;
            }
            read[texts] = text;
            texts++;
            return texts - 1;
        }

        boolean tellStairs(int house, int n) {
            House told = houseOf(house);
            if (told == null || n < 1 || n > STEPS || isOnWay() && way[HOUSE] == house) {
                return false;
            }
            told.build(n);
            told.told = true;
            return true;
        }

        boolean tellHeight(int house, int step, int height) {
            House told = houseOf(house);
            if (told == null || !told.hasStep(step) || height < 1 || height > HIGHEST) {
                return false;
            }
            put(told.heights, step, height);
            told.told = true;
            return true;
        }

        boolean tellMark(int house, int step, boolean is) {
            House told = houseOf(house);
            if (told == null || !told.hasStep(step) || told.hasMark(step) == is) {
                return false;
            }
            told.marks ^= 1 << step;
            told.told = true;
            return true;
        }

        boolean turnMark(int house, int step) {
            House told = houseOf(house);
            return told != null && tellMark(house, step, !told.hasMark(step));
        }

        boolean tellRail(int house, int step) {
            House told = houseOf(house);
            if (told == null || step != 0 && !told.hasStep(step)) {
                return false;
            }
            told.rail = step;
            told.told = true;
            return true;
        }

        int tellPerson(int none, int twice, int landing) {
            if (none < 0 || none > TEN || twice < 0 || twice > TEN - none || landing < 0 || landing > TEN) {
                return NONE;
            }
            if (people >= PEOPLE) {
                return NONE;
            }
            put(this.none, people, none);
            put(this.twice, people, twice);
            put(this.landing, people, landing);
            people++;
            return people - 1;
        }

        int toldHouses() {
            int told = 0;
            for (int i = 0; i < HOUSES; i++) {
                House h = houseOf(i);
                if (h != null && h.told) {
                    told |= 1 << i;
                }
            }
            return told;
        }

        int aboutPerson(int what) {
            int group = what / TEN;
            int person = what % TEN;
            if (!isPerson(person)) {
                return OTHERS;
            }
            switch (group) {
                case 1:
                    return cell(none, person);
                case 2:
                    return cell(twice, person);
                case 3:
                    return cell(landing, person);
                default:
                    return OTHERS;
            }
        }

        /** Keeps what an ACT can be taken back to. */
        void remember() {
            int row = nextAct * ACT_CELLS;
            for (int i = 0; i < CELLS; i++) {
                put(past, row + i, way[i]);
            }
            put(past, row + ACT_NIGHT, night);
            put(past, row + ACT_X, x);
            put(past, row + ACT_WRITTEN, written);
            nextAct = nextAct + 1 < ACTS ? nextAct + 1 : 0;
            acts = Math.min(ACTS, acts + 1);
        }

        int takeBack() {
            if (acts < 1) {
                return NONE;
            }
            acts--;
            nextAct = nextAct > 0 ? nextAct - 1 : ACTS - 1;
            int row = nextAct * ACT_CELLS;
            for (int i = 0; i < CELLS; i++) {
                way[i] = cell(past, row + i);
            }
            night = cell(past, row + ACT_NIGHT);
            x = cell(past, row + ACT_X);
            written = cell(past, row + ACT_WRITTEN);
            House h = houseOf(way[HOUSE]);
            if (h != null && way[AT] > h.n) {
                way[AT] = h.n;
            }
            return acts;
        }

        int lines() {
            return Math.min(LINES_KEPT, written);
        }

        int lineOf(int i, int what) {
            if (i < 0 || i >= lines() || what < 0 || what >= CELLS) {
                return OTHERS;
            }
            return cell(book, (written - lines() + i) % LINES * CELLS + what);
        }

        void writeDown(int how) {
            int row = written % LINES * CELLS;
            put(book, row + PERSON, way[PERSON]);
            put(book, row + HOUSE, way[HOUSE]);
            put(book, row + LINE_NIGHT, night);
            put(book, row + LINE_COUNT, way[COUNT]);
            put(book, row + LINE_SECONDS, way[SECONDS]);
            put(book, row + LINE_HARM, way[HARM]);
            put(book, row + LINE_HOW, how);
            put(book, row + LINE_TRIPS, way[TRIPS]);
            written++;
        }

        void become(State other) {
            for (int i = 0; i < HOUSES; i++) {
                House mine = houseOf(i);
                House its = other.houseOf(i);
                if (mine != null && its != null) {
                    mine.become(its);
                }
            }
            copy(other.none, none);
            copy(other.twice, twice);
            copy(other.landing, landing);
            people = other.people;
            x = other.x;
            night = other.night;
            copy(other.way, way);
            copy(other.book, book);
            written = other.written;
            copy(other.past, past);
            acts = other.acts;
            nextAct = other.nextAct;
            for (int i = 0; i < read.length && i < other.read.length; i++) {
                read[i] = other.read[i];
            }
            texts = other.texts;
            ruling = other.ruling;
            copy(other.sights, sights);
            seen = other.seen;
        }
    }

    /** The tape, and the TOKENS that stand on it. */
    private static final class Tape {
        final int[] bytes = new int[TAPE];
        int length;
        // behind the last TOKEN stands the end
        final int[] tokens = new int[TAPE + 1];
        final int[] starts = new int[TAPE + 1];
        final int[] values = new int[TAPE + 1];
        private int at;

        boolean hasRoom() {
            return length + FED <= TAPE;
        }

        void take(int four) {
            for (int shift = 24; shift >= 0; shift -= 8) {
                put(bytes, length, four >> shift & 255);
                length++;
            }
        }

        void scan() {
            at = 0;
            int token = NO_TOKEN;
            for (int i = 0; i <= TAPE && token != TEXT_END; i++) {
                skipBlanks();
                put(starts, i, at);
                token = scanToken(i);
                put(tokens, i, token);
            }
        }

        /** The byte at a place, NONE behind the last. */
        private int byteAt(int i) {
            return i >= 0 && i < length ? cell(bytes, i) : NONE;
        }

        private void skipBlanks() {
            while (at < length && (byteAt(at) == ' ' || byteAt(at) == '\n')) {
                at++;
            }
        }

        private int scanToken(int i) {
            int b = byteAt(at);
            if (b == NONE) {
                return TEXT_END;
            }
            if (isDigit(b)) {
                put(values, i, scanNumber());
                return NUMBER;
            }
            if (isLetter(b)) {
                return scanWord();
            }
            at++;
            return signOf(b);
        }

        private int scanNumber() {
            int value = 0;
            while (at < length && isDigit(byteAt(at))) {
                // a longer one is too large as well
                value = Math.min(LARGEST_NUMBER + 1, value * TEN + byteAt(at) - '0');
                at++;
            }
            return value;
        }

        private int scanWord() {
            int start = at;
            while (at < length && isLetter(byteAt(at))) {
                at++;
            }
            int word = 0;
            // each word has a blank ahead of it
            for (int i = 0; i + 1 < WORDS.length(); i++) {
                if (WORDS.charAt(i) == ' ') {
                    if (isSpelled(start, i + 1)) {
                        return word;
                    }
                    word++;
                }
            }
            return NO_TOKEN;
        }

        private boolean isSpelled(int start, int from) {
            int i = from;
            for (int k = start; k < at; k++) {
                if (i >= WORDS.length() || WORDS.charAt(i) != byteAt(k)) {
                    return false;
                }
                i++;
            }
            return i < WORDS.length() && WORDS.charAt(i) == ' ';
        }

        private int signOf(int b) {
            switch (b) {
                case '<':
                    return isSame() ? LESS_OR_SAME : LESS;
                case '>':
                    return isSame() ? MORE_OR_SAME : MORE;
                case '=':
                    return SAME;
                case '#':
                    return UNLIKE;
                case '+':
                    return PLUS;
                case '-':
                    return MINUS;
                case '*':
                    return STAR;
                case '/':
                    return SLASH;
                case '(':
                    return OPEN;
                case ')':
                    return CLOSE;
                case ';':
                    return SEMICOLON;
                case '?':
                    return QUESTION;
                case ':':
                    return COLON;
                default:
                    return NO_TOKEN;
            }
        }

        private boolean isSame() {
            if (byteAt(at) != '=') {
                return false;
            }
            at++;
            return true;
        }

        private static boolean isDigit(int b) {
            return b >= '0' && b <= '9';
        }

        private static boolean isLetter(int b) {
            return b >= 'a' && b <= 'z' || b >= 'A' && b <= 'Z';
        }
    }

    /** Reads the tape: from TOKENS to a TEXT, or to its first FAULT. */
    private static final class Reader {
        int fault = NONE;
        int place = NONE;
        private final Tape tape;
        private final int[] code = new int[TAPE];
        private final int[] lawStarts = new int[LAWS];
        private final int[] lawEnds = new int[LAWS];
        private final int[] deeds = new int[CLAUSES];
        private final int[] numbers = new int[CLAUSES * CLAUSE_NUMBERS];
        private int codes;
        private int clauses;
        private int law;
        private int at;
        private int token;
        private int value;

        Reader(Tape tape) {
            this.tape = tape;
        }

        /** The TEXT; null, if there is a FAULT. */
        Text read() {
            fault = 0;
            place = NONE;
            codes = 0;
            clauses = 0;
            Arrays.fill(lawStarts, 0);
            Arrays.fill(lawEnds, 0);
            Arrays.fill(numbers, 0);
            tape.scan();
            at = NONE;
            advance();
            // the 25th CLAUSE is a FAULT
            for (int i = 0; i <= CLAUSES && token != TEXT_END; i++) {
                if (!readClause()) {
                    return null;
                }
            }
            return new Text(Arrays.copyOf(code, codes), Arrays.copyOf(lawStarts, LAWS), Arrays.copyOf(lawEnds, LAWS),
                Arrays.copyOf(deeds, clauses), Arrays.copyOf(numbers, clauses * CLAUSE_NUMBERS));
        }

        private boolean faulty(int what) {
            fault = what;
            place = cell(tape.starts, at);
            return false;
        }

        private boolean readClause() {
            int word = token;
            if (word < 0 || word > NIGHT) {
                return faulty(STRANGE);
            }
            if (word < LAWS && cell(lawEnds, word) > 0) {
                return faulty(SECOND_TIME);
            }
            if (clauses >= CLAUSES) {
                return faulty(TOO_MANY);
            }
            advance();
            boolean fine = word < LAWS ? readLaw(word) : readDeed(word);
            if (!fine || !passes(SEMICOLON)) {
                return false;
            }
            put(deeds, clauses, word);
            clauses++;
            return true;
        }

        private boolean readLaw(int word) {
            law = word;
            put(lawStarts, word, codes);
            boolean fine = word == TRIPS_LAW ? readEither(0) : readSum(0);
            put(lawEnds, word, codes);
            return fine;
        }

        private boolean readDeed(int word) {
            for (int k = 0; k < CLAUSE_NUMBERS; k++) {
                int shape = ((word - STAIR) * CLAUSE_NUMBERS + k) * 3;
                int lowest = cell(SHAPES, shape);
                int highest = cell(SHAPES, shape + 1);
                int behind = cell(SHAPES, shape + 2);
                if (lowest > highest) {
                    return true;
                }
                if (!readNumber(lowest, highest, k)) {
                    return false;
                }
                if (behind != NONE && !passes(behind)) {
                    return false;
                }
            }
            return true;
        }

        private boolean readNumber(int lowest, int highest, int k) {
            if (token != NUMBER) {
                return faulty(STRANGE);
            }
            if (value < lowest || value > highest) {
                return faulty(UNTOLD_NUMBER);
            }
            put(numbers, clauses * CLAUSE_NUMBERS + k, value);
            advance();
            return true;
        }

        private boolean passes(int due) {
            if (token != due) {
                return faulty(STRANGE);
            }
            advance();
            return true;
        }

        private boolean readEither(int depth) {
            if (!readBoth(depth)) {
                return false;
            }
            for (int i = 0; i < TAPE && token == OR_WORD; i++) {
                advance();
                if (!readBoth(depth)) {
                    return false;
                }
                emit(-OR_WORD);
            }
            return true;
        }

        private boolean readBoth(int depth) {
            if (!readAsk(depth)) {
                return false;
            }
            for (int i = 0; i < TAPE && token == AND_WORD; i++) {
                advance();
                if (!readAsk(depth)) {
                    return false;
                }
                emit(-AND_WORD);
            }
            return true;
        }

        private boolean readAsk(int depth) {
            if (token == NOT_WORD) {
                if (!opens(depth) || !readAsk(depth + 1)) {
                    return false;
                }
                emit(-NOT_WORD);
                return true;
            }
            if (!readSum(depth)) {
                return false;
            }
            int sign = token;
            if (sign < LESS || sign > UNLIKE) {
                return faulty(STRANGE);
            }
            advance();
            if (!readSum(depth)) {
                return false;
            }
            emit(-sign);
            return true;
        }

        private boolean readSum(int depth) {
            if (!readProduct(depth)) {
                return false;
            }
            for (int i = 0; i < TAPE && (token == PLUS || token == MINUS); i++) {
                int sign = token;
                advance();
                if (!readProduct(depth)) {
                    return false;
                }
                emit(-sign);
            }
            return true;
        }

        private boolean readProduct(int depth) {
            if (!readOne(depth)) {
                return false;
            }
            for (int i = 0; i < TAPE && (token == STAR || token == SLASH); i++) {
                int sign = token;
                advance();
                if (!readOne(depth)) {
                    return false;
                }
                emit(-sign);
            }
            return true;
        }

        private boolean readOne(int depth) {
            switch (token) {
                case NUMBER:
                    return readValue();
                case OPEN:
                    return opens(depth) && readSum(depth + 1) && passes(CLOSE);
                case MINUS:
                    if (!opens(depth) || !readOne(depth + 1)) {
                        return false;
                    }
                    emit(TURN);
                    return true;
                case IF_WORD:
                    return opens(depth) && readChoice(depth + 1);
                default:
                    return readName();
            }
        }

        private boolean readChoice(int depth) {
            if (!readEither(depth) || !passes(QUESTION) || !readSum(depth) || !passes(COLON)) {
                return false;
            }
            if (!readSum(depth) || !passes(END_WORD)) {
                return false;
            }
            emit(-IF_WORD);
            return true;
        }

        private boolean readValue() {
            if (value > LARGEST_NUMBER) {
                return faulty(UNTOLD_NUMBER);
            }
            emit(value);
            advance();
            return true;
        }

        private boolean readName() {
            int name = token == RAIL ? RAIL_NAME : token - WHO_WORD;
            if (token != RAIL && (token < WHO_WORD || token > LAST_WORD)) {
                return faulty(STRANGE);
            }
            if (name >= NTH_NAME && (law == JAR_LAW || law == FALL_LAW)) {
                return faulty(FOREIGN_NAME);
            }
            emit(FIRST_NAME - name);
            advance();
            return true;
        }

        /** Goes on behind what opens, if not too many are open around it. */
        private boolean opens(int depth) {
            if (depth >= OPEN_AT_ONCE) {
                return faulty(TOO_DEEP);
            }
            advance();
            return true;
        }

        private void emit(int what) {
            // each TOKEN gives one at most, so all have room
            if (codes < code.length) {
                code[codes] = what;
                codes++;
            }
        }

        private void advance() {
            // nothing passes the end
            at = Math.min(TAPE, at + 1);
            token = cell(tape.tokens, at);
            value = cell(tape.values, at);
        }
    }

    /** What laws say, of one who goes to a STEP. */
    private static final class Laws {
        private final int[] names = new int[NAMES];
        // a TEXT's code has no more parts than the tape has bytes
        private final int[] stack = new int[TAPE];
        private Text text;
        private int ownNone;
        private int ownTwice;

        /** From here on laws of a TEXT (null: of none) are asked for a PERSON in a HOUSE. */
        void turnTo(State s, Text ruling, int person, int house, int kind) {
            House h = s.houseOf(house);
            text = ruling;
            ownNone = cell(s.none, person);
            ownTwice = cell(s.twice, person);
            names[WHO_NAME] = person;
            names[HOUSE_NAME] = house;
            names[STEPS_NAME] = h == null ? 0 : h.n;
            names[DRUNK_NAME] = (kind & DRUNK) == 0 ? 0 : 1;
            names[LOADED_NAME] = (kind & LOADED) == 0 ? 0 : 1;
            names[NIGHTS_NAME] = s.night;
        }

        /** From here on they are asked for a STEP of the HOUSE. */
        void face(House h, int step) {
            names[NTH_NAME] = step;
            names[HEIGHT_NAME] = h.highOf(step);
            names[LAST_NAME] = h.highOf(step - 1);
            names[RAIL_NAME] = step <= h.rail && names[LOADED_NAME] == 0 ? 1 : 0;
        }

        /** As if the STEP, and the one ahead of it, were so high. */
        void suppose(int height, int last) {
            names[HEIGHT_NAME] = height;
            names[LAST_NAME] = last;
        }

        int noneNow() {
            return between(0, TEN, rules(NONE_LAW) ? worked(NONE_LAW) : ownNone);
        }

        int twiceNow(int none) {
            return between(0, TEN - none, rules(TWICE_LAW) ? worked(TWICE_LAW) : ownTwice);
        }

        boolean tripsNow() {
            if (rules(TRIPS_LAW)) {
                return worked(TRIPS_LAW) != 0;
            }
            return Math.abs(names[HEIGHT_NAME] - names[LAST_NAME]) >= 3;
        }

        int jarNow() {
            return rules(JAR_LAW) ? between(0, 99, worked(JAR_LAW)) : 5;
        }

        int fallNow() {
            return rules(FALL_LAW) ? between(0, 99, worked(FALL_LAW)) : 9;
        }

        private boolean rules(int law) {
            return text != null && cell(text.lawEnds, law) > 0;
        }

        private int worked(int law) {
            int top = 0;
            int to = text == null ? 0 : cell(text.lawEnds, law);
            for (int i = text == null ? 0 : cell(text.lawStarts, law); i < to; i++) {
                int c = cell(text.code, i);
                if (c >= 0) {
                    put(stack, top, c);
                    top++;
                } else if (c <= FIRST_NAME) {
                    put(stack, top, cell(names, FIRST_NAME - c));
                    top++;
                } else if (c == TURN) {
                    put(stack, top - 1, -cell(stack, top - 1));
                } else if (c == -NOT_WORD) {
                    put(stack, top - 1, 1 - cell(stack, top - 1));
                } else if (c == -IF_WORD) {
                    // working the other SUM too changes nothing, as nothing can fail in it
                    top -= 2;
                    put(stack, top - 1, cell(stack, top - 1) != 0 ? cell(stack, top) : cell(stack, top + 1));
                } else {
                    top--;
                    put(stack, top - 1, joined(c, cell(stack, top - 1), cell(stack, top)));
                }
            }
            return stack[0];
        }

        private static int joined(int operation, long a, long b) {
            long all;
            switch (operation) {
                case -PLUS:
                    all = a + b;
                    break;
                case -MINUS:
                    all = a - b;
                    break;
                case -STAR:
                    all = a * b;
                    break;
                case -SLASH:
                    all = b == 0 ? 0 : a / b;
                    break;
                case -OR_WORD:
                    all = a != 0 || b != 0 ? 1 : 0;
                    break;
                case -AND_WORD:
                    all = a != 0 && b != 0 ? 1 : 0;
                    break;
                case -LESS:
                    all = a < b ? 1 : 0;
                    break;
                case -LESS_OR_SAME:
                    all = a <= b ? 1 : 0;
                    break;
                case -MORE:
                    all = a > b ? 1 : 0;
                    break;
                case -MORE_OR_SAME:
                    all = a >= b ? 1 : 0;
                    break;
                case -SAME:
                    all = a == b ? 1 : 0;
                    break;
                default:
                    all = a != b ? 1 : 0;
                    break;
            }
            return (int) (all > LARGEST ? LARGEST : all < -LARGEST ? -LARGEST : all);
        }
    }

    /** Going: the ACTS, by hand, by a TEXT and by draws. */
    private static final class Walk {
        private final State s;
        private final Laws rules;

        Walk(State s, Laws rules) {
            this.s = s;
            this.rules = rules;
        }

        int beginAct(int person, int house, int kind) {
            if (!s.isPerson(person) || s.houseOf(house) == null || kind < 0 || kind >= KINDS) {
                return NONE;
            }
            s.remember();
            start(person, house, kind);
            return s.way[COUNT];
        }

        int stepAct() {
            if (!s.isOnWay()) {
                return NONE;
            }
            s.remember();
            return goOn(true);
        }

        int toeAct() {
            if (!s.isOnWay()) {
                return NONE;
            }
            s.remember();
            return goOn(false);
        }

        int stopAct() {
            House h = s.houseOf(s.way[HOUSE]);
            if (!s.isOnWay() || h == null) {
                return NONE;
            }
            s.remember();
            turnToWay();
            int how = s.way[AT] >= h.n ? STOOD : FELL;
            if (how == FELL) {
                s.way[HARM] += rules.fallNow();
            }
            down(how);
            return how;
        }

        int nightAct() {
            if (s.night >= LAST_NIGHT) {
                return NONE;
            }
            s.remember();
            s.night++;
            return s.night;
        }

        int weekAct(int x, int f) {
            s.remember();
            s.x = x;
            int harm = 0;
            for (int i = 0; i < WEEK_NIGHTS; i++) {
                int person = s.people > 0 ? s.x % s.people : NONE;
                stir();
                int house = s.x % HOUSES;
                stir();
                start(person, house, 0);
                // each goes one further, or is DOWN
                for (int k = 0; k <= STEPS && s.isOnWay(); k++) {
                    goOn(s.way[COUNT] < f);
                }
                harm += s.lineOf(s.lines() - 1, LINE_HARM);
                s.night = Math.min(LAST_NIGHT, s.night + 1);
            }
            return harm;
        }

        /** The number of the CLAUSE that can't be; NONE, if all can. */
        int playedBy(Text text) {
            for (int i = 0; i < text.deeds.length; i++) {
                int deed = cell(text.deeds, i);
                int times = deed == STEP || deed == TOE || deed == NIGHT ? text.numberOf(i, 0) : 1;
                for (int k = 0; k < times; k++) {
                    if (!isDone(text, i)) {
                        return i;
                    }
                }
            }
            return NONE;
        }

        /** Does a CLAUSE, if it can be: of so many STEPS, TOES, NIGHTS one. */
        private boolean isDone(Text text, int i) {
            int a = text.numberOf(i, 0);
            int b = text.numberOf(i, 1);
            switch (cell(text.deeds, i)) {
                case STAIR:
                    return s.tellStairs(a, b);
                case HIGH:
                    return s.tellHeight(text.numberOf(i, 2), b, a);
                case MARK:
                    return s.turnMark(b, a);
                case RAIL:
                    return s.tellRail(b, a);
                case ONE:
                    return s.tellPerson(a, b, text.numberOf(i, 2)) != NONE;
                case BEGIN:
                    return beginAct(a, b, 0) != NONE;
                case LOAD:
                    return beginAct(a, b, LOADED) != NONE;
                case DRINK:
                    return beginAct(a, b, DRUNK) != NONE;
                case STEP:
                    return stepAct() != NONE;
                case TOE:
                    return toeAct() != NONE;
                case STOP:
                    return stopAct() != NONE;
                case NIGHT:
                    return nightAct() != NONE;
                default:
                    // a law
                    return true;
            }
        }

        private void stir() {
            s.x = (s.x * 173 + 89) % 30071;
        }

        private int draw() {
            int drawn = s.x % TEN;
            stir();
            return drawn;
        }

        private void start(int person, int house, int kind) {
            Arrays.fill(s.way, 0);
            s.way[PERSON] = person;
            s.way[HOUSE] = house;
            s.way[KIND] = kind;
            s.way[COUNT] = draw() < cell(s.landing, person) ? 1 : 0;
        }

        private void turnToWay() {
            rules.turnTo(s, s.textOf(s.ruling), s.way[PERSON], s.way[HOUSE], s.way[KIND]);
        }

        /** A STEP, if boldly, else a TOE: AT then. */
        private int goOn(boolean boldly) {
            House h = s.houseOf(s.way[HOUSE]);
            if (h == null) {
                return NONE;
            }
            turnToWay();
            s.way[SECONDS] += boldly ? 1 : 3;
            int next = s.way[AT] + 1;
            if (next > h.n) {
                s.way[HARM] += boldly ? rules.jarNow() : 0;
                down(boldly ? JARRED : FELT);
                return h.n;
            }
            s.way[AT] = next;
            rules.face(h, next);
            if (boldly && rules.tripsNow()) {
                s.way[HARM] += rules.fallNow();
                s.way[TRIPS]++;
            }
            int none = rules.noneNow();
            int twice = rules.twiceNow(none);
            int drawn = draw();
            if (drawn >= none) {
                s.way[COUNT] += drawn < none + twice ? 2 : 1;
            }
            if (h.hasMark(next) && (s.way[KIND] & LOADED) == 0) {
                s.way[COUNT] = next;
            }
            return next;
        }

        private void down(int how) {
            s.writeDown(how);
            s.way[PERSON] = NONE;
        }
    }

    /** What is in mind: all that draws can be, exactly, as whole numbers over powers of ten. */
    private static final class Mind {
        private static final int WIDTH = 32;
        int bestFrom;
        private final State s;
        private final Laws rules;
        private int n;
        private boolean loaded;
        private int marks;
        private int landing;
        private final int[] none = new int[STEPS + 1];
        private final int[] twice = new int[STEPS + 1];
        // of a STEP from each AT on
        private final int[] harm = new int[STEPS + 1];
        // of each AT and COUNT, over 10 to the power of AT + 1
        private final long[] odds = new long[(STEPS + 1) * WIDTH];
        private final long[] learnt = new long[TEN];
        private long bestCost;

        Mind(State s, Laws rules) {
            this.s = s;
            this.rules = rules;
        }

        /** Takes a PERSON in a HOUSE into mind; false, if there is none such. */
        boolean look(int person, int house, int kind) {
            House h = s.houseOf(house);
            if (h == null || !s.isPerson(person) || kind < 0 || kind >= KINDS) {
                return false;
            }
            n = h.n;
            loaded = (kind & LOADED) != 0;
            marks = h.marks;
            landing = cell(s.landing, person);
            rules.turnTo(s, s.textOf(s.ruling), person, house, kind);
            int fall = rules.fallNow();
            for (int t = 1; t <= n; t++) {
                rules.face(h, t);
                int noneThere = rules.noneNow();
                put(none, t, noneThere);
                put(twice, t, rules.twiceNow(noneThere));
                put(harm, t - 1, rules.tripsNow() ? fall : 0);
            }
            put(harm, n, rules.jarNow());
            return true;
        }

        void spread() {
            spreadFrom(TEN - landing, landing, marks);
        }

        private void spreadFrom(int zero, int one, int marked) {
            Arrays.fill(odds, 0L);
            add(0, 0, zero);
            add(0, 1, one);
            for (int t = 1; t <= n; t++) {
                if (!loaded && (marked >> t & 1) == 1) {
                    gather(t);
                } else {
                    carry(t);
                }
            }
        }

        private void gather(int t) {
            long all = 0;
            for (int c = 0; c < COUNTS; c++) {
                all += chance(t - 1, c);
            }
            add(t, t, all * TEN);
        }

        private void carry(int t) {
            int stays = cell(none, t);
            int leaps = cell(twice, t);
            for (int c = 0; c < COUNTS; c++) {
                long ahead = chance(t - 1, c);
                if (ahead != 0) {
                    add(t, c, ahead * stays);
                    add(t, c + 1, ahead * (TEN - stays - leaps));
                    add(t, c + 2, ahead * leaps);
                }
            }
        }

        private long chance(int t, int c) {
            int i = t * WIDTH + c;
            return i >= 0 && i < odds.length ? odds[i] : 0;
        }

        private void add(int t, int c, long more) {
            int i = t * WIDTH + c;
            if (i >= 0 && i < odds.length) {
                odds[i] += more;
            }
        }

        /** Over the same for every AT. */
        private long evenChance(int t, int c) {
            return chance(t, c) * power(n - t);
        }

        private static long power(int i) {
            return i >= 0 && i < POWERS.length ? POWERS[i] : 1;
        }

        long oddsAt(int c, int t, boolean low) {
            if (c < 0 || c >= COUNTS || t < 0 || t > n) {
                return NONE;
            }
            spread();
            long all = 0;
            for (int i = 0; i <= n; i++) {
                all += evenChance(i, c);
            }
            return all == 0 ? NONE : part(evenChance(t, c), all, low);
        }

        private long costOfToes() {
            return 3 * (n + 1) * power(n + 1);
        }

        /** How much more it costs to go boldly as one COUNTS c, too. */
        private long boldlyMore(int c) {
            long more = 0;
            for (int t = 0; t <= n; t++) {
                more += evenChance(t, c) * (cell(harm, t) - 2);
            }
            return more;
        }

        long costFrom(int f, boolean low) {
            long all = costOfToes();
            for (int c = 0; c < f; c++) {
                all += boldlyMore(c);
            }
            return part(all, power(n + 1), low);
        }

        void chooseFrom() {
            long all = costOfToes();
            bestFrom = 0;
            bestCost = all;
            for (int c = 0; c < COUNTS; c++) {
                all += boldlyMore(c);
                if (all < bestCost) {
                    bestCost = all;
                    bestFrom = c + 1;
                }
            }
        }

        int bestMark() {
            spread();
            chooseFrom();
            long least = bestCost;
            int best = NONE;
            for (int step = 1; step <= n && !loaded; step++) {
                if ((marks >> step & 1) == 0) {
                    spreadFrom(TEN - landing, landing, marks | 1 << step);
                    chooseFrom();
                    if (bestCost < least) {
                        least = bestCost;
                        best = step;
                    }
                }
            }
            return best;
        }

        int goesWithLoad(int person, int house) {
            if (!look(person, house, 0)) {
                return NONE;
            }
            spread();
            chooseFrom();
            long twoWays = 2 * bestCost;
            look(person, house, LOADED);
            spread();
            chooseFrom();
            if (twoWays == bestCost) {
                return 2;
            }
            return twoWays < bestCost ? 1 : 0;
        }

        int lampNights(int pence, int price) {
            spread();
            chooseFrom();
            long all = 0;
            for (int t = 0; t <= n; t++) {
                for (int c = 0; c < bestFrom; c++) {
                    all += evenChance(t, c) * cell(harm, t);
                }
            }
            if (all <= 0 || pence <= 0) {
                return NONE;
            }
            // rounding up twice is rounding up once, and stays within a long
            long nights = ceiling(ceiling(price * power(n + 1), all), pence);
            return nights > LARGEST_NUMBER ? NONE : (int) nights;
        }

        private static long ceiling(long a, long b) {
            return b == 0 ? 0 : (a + b - 1) / b;
        }

        private long chanceOfJar(int c) {
            return chance(n, c) * power(STEPS - n);
        }

        long oddsOfHouse(int person, int c, int house, boolean low) {
            House asked = s.houseOf(house);
            if (asked == null || !asked.told || c < 0 || c >= COUNTS || !s.isPerson(person)) {
                return NONE;
            }
            long all = 0;
            long its = 0;
            for (int i = 0; i < HOUSES; i++) {
                House h = s.houseOf(i);
                if (h != null && h.told && look(person, i, 0)) {
                    spread();
                    all += chanceOfJar(c);
                    its += i == house ? chanceOfJar(c) : 0;
                }
            }
            return all == 0 ? part(0, 1, low) : part(its, all, low);
        }

        long oddsOfLanding(int c, boolean low) {
            if (c < 0 || c >= COUNTS) {
                return NONE;
            }
            spread();
            long all = chanceOfJar(c);
            spreadFrom(0, landing, marks);
            return all == 0 ? NONE : part(chanceOfJar(c), all, low);
        }

        long oddsOfSure(int r, int a, int nights, boolean low) {
            Arrays.fill(learnt, 0L);
            learnt[0] = 1;
            for (int night = 0; night < nights; night++) {
                for (int k = Math.min(r, learnt.length - 1); k >= 0; k--) {
                    long stays = learnt[k] * (k == r ? TEN : TEN - a);
                    learnt[k] = stays + (k > 0 ? learnt[k - 1] * a : 0);
                }
            }
            return r >= 0 && r < learnt.length ? part(learnt[r], power(nights), low) : NONE;
        }
    }

    /** THE BOOK's TALES, what laws say, and what was SEEN. */
    private static final class Tales {
        private final State s;
        private final Laws rules;
        private final int[] often = new int[HOUSES];

        Tales(State s, Laws rules) {
            this.s = s;
            this.rules = rules;
        }

        int saidOf(int person, int house, int kind, int step, int what) {
            House h = s.houseOf(house);
            if (h == null || !h.hasStep(step) || !s.isPerson(person) || kind < 0 || kind >= KINDS) {
                return NONE;
            }
            rules.turnTo(s, s.textOf(s.ruling), person, house, kind);
            rules.face(h, step);
            switch (what) {
                case 0:
                    return rules.noneNow();
                case 1:
                    return rules.twiceNow(rules.noneNow());
                case 2:
                    return rules.tripsNow() ? 1 : 0;
                case 3:
                    return rules.jarNow();
                case 4:
                    return rules.fallNow();
                default:
                    return NONE;
            }
        }

        int tallied(int person, int what) {
            if (!s.isPerson(person) || what < 0 || what > 5) {
                return NONE;
            }
            int all = 0;
            for (int i = 0; i < s.lines(); i++) {
                if (s.lineOf(i, PERSON) == person) {
                    all += counted(i, what);
                }
            }
            return all;
        }

        private int counted(int line, int what) {
            switch (what) {
                case 1:
                    return s.lineOf(line, LINE_HOW) == JARRED ? 1 : 0;
                case 2:
                    return s.lineOf(line, LINE_HOW) == FELL ? 1 : 0;
                case 3:
                    return s.lineOf(line, LINE_TRIPS);
                case 4:
                    return s.lineOf(line, LINE_SECONDS);
                case 5:
                    return s.lineOf(line, LINE_HARM);
                default:
                    return 1;
            }
        }

        int legsOf(int person, int house) {
            House asked = s.houseOf(house);
            if (!s.isPerson(person) || asked == null && house != NONE) {
                return NO_LEGS;
            }
            House known = s.houseOf(mostOften(person));
            if (asked == null) {
                return known == null ? NONE : known.n;
            }
            return known == null ? NO_LEGS : known.n - asked.n;
        }

        private int mostOften(int person) {
            Arrays.fill(often, 0);
            for (int i = 0; i < s.lines(); i++) {
                if (s.lineOf(i, PERSON) == person) {
                    int h = s.lineOf(i, HOUSE);
                    put(often, h, cell(often, h) + 1);
                }
            }
            int most = NONE;
            // from the latest line on, so that of like ones the latest stays
            for (int i = s.lines() - 1; i >= 0; i--) {
                int h = s.lineOf(i, HOUSE);
                if (s.lineOf(i, PERSON) == person && (most == NONE || cell(often, h) > cell(often, most))) {
                    most = h;
                }
            }
            return most;
        }

        int trippersAt(int house, int step, int kind) {
            House h = s.houseOf(house);
            if (h == null || !h.hasStep(step) || kind < 0 || kind >= KINDS) {
                return NONE;
            }
            int bits = 0;
            for (int p = 0; p < s.people; p++) {
                rules.turnTo(s, s.textOf(s.ruling), p, house, kind);
                rules.face(h, step);
                bits |= rules.tripsNow() ? 1 << p : 0;
            }
            return bits;
        }

        int see(int person, int house, int step, boolean tripped) {
            if (person == NONE) {
                s.seen = 0;
                return 0;
            }
            House h = s.houseOf(house);
            if (!s.isPerson(person) || h == null || !h.hasStep(step) || s.seen >= SEEN_KEPT) {
                return OTHERS;
            }
            int row = s.seen * SEEN_CELLS;
            put(s.sights, row, person);
            put(s.sights, row + 1, house);
            put(s.sights, row + 2, step);
            put(s.sights, row + 3, tripped ? 1 : 0);
            s.seen++;
            return s.seen;
        }

        int lawsOfSeen() {
            int bits = 0;
            for (int i = 0; i < s.texts; i++) {
                bits |= allSeenBy(s.textOf(i)) ? 1 << i : 0;
            }
            return bits;
        }

        private boolean allSeenBy(Text text) {
            for (int i = 0; i < s.seen; i++) {
                int row = i * SEEN_CELLS;
                int house = cell(s.sights, row + 1);
                int step = cell(s.sights, row + 2);
                House h = s.houseOf(house);
                if (h != null && h.hasStep(step)) {
                    rules.turnTo(s, text, cell(s.sights, row), house, 0);
                    rules.face(h, step);
                    if (rules.tripsNow() != (cell(s.sights, row + 3) == 1)) {
                        return false;
                    }
                }
            }
            return true;
        }
    }

    /** The least work that makes a HOUSE's STEPS so that nobody TRIPS. */
    private static final class Leveller {
        private static final int ROW = HIGHEST + 1;
        private static final int ENDLESS = 1000000;
        private final State s;
        private final Laws rules;
        // of each STEP and HEIGHT ahead of it: the least work from there on, and the HEIGHT that it gives the STEP
        private final int[] least = new int[(STEPS + 2) * ROW];
        private final int[] chosen = new int[(STEPS + 2) * ROW];
        private final int[] works = new int[ROW];

        Leveller(State s, Laws rules) {
            this.s = s;
            this.rules = rules;
        }

        int levelled(int house, int step, boolean few) {
            House h = s.houseOf(house);
            if (h == null || step != NONE && !h.hasStep(step)) {
                return NONE;
            }
            plan(h, house, few);
            int work = cell(least, ROW + FIRST_HEIGHT);
            if (work >= ENDLESS) {
                return NONE;
            }
            if (step == NONE) {
                return work;
            }
            int height = FIRST_HEIGHT;
            for (int i = 1; i <= step; i++) {
                height = cell(chosen, i * ROW + height);
            }
            return height;
        }

        private void plan(House h, int house, boolean few) {
            Arrays.fill(least, 0);
            for (int step = h.n; step >= 1; step--) {
                for (int last = 1; last <= HIGHEST; last++) {
                    if (step > 1 || last == FIRST_HEIGHT) {
                        weigh(h, step, few);
                        choose(h, house, step, last);
                    }
                }
            }
        }

        /** What each HEIGHT of a STEP costs, with the least work behind it. */
        private void weigh(House h, int step, boolean few) {
            for (int height = 1; height <= HIGHEST; height++) {
                int by = Math.abs(height - h.highOf(step));
                int own = few ? Math.min(1, by) : by;
                put(works, height, Math.min(ENDLESS, own + cell(least, (step + 1) * ROW + height)));
            }
        }

        /** The cheapest HEIGHT at which nobody TRIPS: laws are asked only of those that could be it. */
        private void choose(House h, int house, int step, int last) {
            int spot = step * ROW + last;
            put(least, spot, ENDLESS);
            put(chosen, spot, FIRST_HEIGHT);
            for (int i = 0; i < HIGHEST; i++) {
                int height = cheapest();
                if (cell(works, height) >= ENDLESS) {
                    return;
                }
                if (!anyoneTrips(h, house, step, height, last)) {
                    put(least, spot, cell(works, height));
                    put(chosen, spot, height);
                    return;
                }
                put(works, height, ENDLESS);
            }
        }

        private int cheapest() {
            int best = 1;
            for (int height = 2; height <= HIGHEST; height++) {
                if (cell(works, height) < cell(works, best)) {
                    best = height;
                }
            }
            return best;
        }

        private boolean anyoneTrips(House h, int house, int step, int height, int last) {
            for (int p = 0; p < s.people; p++) {
                rules.turnTo(s, s.textOf(s.ruling), p, house, 0);
                rules.face(h, step);
                rules.suppose(height, last);
                if (rules.tripsNow()) {
                    return true;
                }
            }
            return false;
        }
    }
}
