import java.math.BigDecimal;
import java.math.BigInteger;
import java.util.ArrayDeque;
import java.util.ArrayList;
import java.util.Arrays;
import java.util.Deque;
import java.util.List;

/**
 * The document told a second time, in another way and without care for room: whole copies for what is taken back, a
 * stack of symbols that reads, decimals without end for what is in mind, all HEIGHTS tried in turn.
 */
final class Model {
    static final int NONE = -1;

    static final class Fault extends Exception {
        final int what;
        final int place;

        Fault(int what, int place) {
            this.what = what;
            this.place = place;
        }
    }

    static final class Token {
        final String s;
        final int place;
        final boolean number;

        Token(String s, int place) {
            this.s = s;
            this.place = place;
            this.number = !s.isEmpty() && Character.isDigit(s.charAt(0));
        }

        BigInteger value() {
            return new BigInteger(s);
        }
    }

    static final class Txt {
        final List<List<Token>> clauses = new ArrayList<>();

        List<Token> law(String name) {
            for (List<Token> c : clauses) {
                if (c.get(0).s.equals(name)) {
                    return c.subList(1, c.size());
                }
            }
            return null;
        }
    }

    static final class Stairs {
        int n = 12;
        int[] heights = new int[15];
        boolean[] marks = new boolean[15];
        int rail;
        boolean told;

        Stairs() {
            Arrays.fill(heights, 5);
        }

        Stairs copy() {
            Stairs c = new Stairs();
            c.n = n;
            c.heights = heights.clone();
            c.marks = marks.clone();
            c.rail = rail;
            c.told = told;
            return c;
        }
    }

    /** What an ACT can change. */
    static final class Going {
        int[] way;
        List<int[]> book = new ArrayList<>();
        int night;
        int x = 13;

        Going copy() {
            Going c = new Going();
            c.way = way == null ? null : way.clone();
            c.book = new ArrayList<>(book);
            c.night = night;
            c.x = x;
            return c;
        }
    }

    static final class All {
        Stairs[] houses = {new Stairs(), new Stairs(), new Stairs(), new Stairs()};
        List<int[]> people = new ArrayList<>();
        Going going = new Going();
        List<Going> past = new ArrayList<>();
        List<Txt> texts = new ArrayList<>();
        int ruling = NONE;
        List<int[]> seen = new ArrayList<>();

        All copy() {
            All c = new All();
            for (int i = 0; i < 4; i++) {
                c.houses[i] = houses[i].copy();
            }
            c.people = new ArrayList<>(people);
            c.going = going.copy();
            for (Going g : past) {
                c.past.add(g.copy());
            }
            c.texts = new ArrayList<>(texts);
            c.ruling = ruling;
            c.seen = new ArrayList<>(seen);
            return c;
        }
    }

    All all = new All();
    All image = new All();
    List<Integer> tape = new ArrayList<>();
    int fault = NONE;
    int place = NONE;

    // ---- telling

    private Stairs at(int house) {
        return house < 0 || house > 3 ? null : all.houses[house];
    }

    private boolean isStep(int house, int step) {
        return at(house) != null && step >= 1 && step <= at(house).n;
    }

    private boolean isPerson(int person) {
        return person >= 0 && person < all.people.size();
    }

    boolean stair(int house, int n) {
        if (at(house) == null || n < 1 || n > 14 || all.going.way != null && all.going.way[1] == house) {
            return false;
        }
        all.houses[house] = new Stairs();
        all.houses[house].n = n;
        all.houses[house].told = true;
        return true;
    }

    boolean height(int house, int step, int height) {
        if (!isStep(house, step) || height < 1 || height > 9) {
            return false;
        }
        at(house).heights[step] = height;
        return at(house).told = true;
    }

    boolean mark(int house, int step, boolean is) {
        if (!isStep(house, step) || at(house).marks[step] == is) {
            return false;
        }
        at(house).marks[step] = is;
        return at(house).told = true;
    }

    boolean rail(int house, int step) {
        if (at(house) == null || step != 0 && !isStep(house, step)) {
            return false;
        }
        at(house).rail = step;
        return at(house).told = true;
    }

    int person(int none, int twice, int landing) {
        if (none < 0 || twice < 0 || landing < 0 || none > 10 || twice > 10 || landing > 10) {
            return NONE;
        }
        if (none + twice > 10 || all.people.size() == 6) {
            return NONE;
        }
        all.people.add(new int[] {none, twice, landing});
        return all.people.size() - 1;
    }

    boolean seed(int seed) {
        if (seed < 0 || seed > 9999) {
            return false;
        }
        all.going.x = seed * 3 + 13;
        return true;
    }

    // ---- texts

    int feed(int a, int b, int c, int d, int e) {
        if (tape.size() > 280) {
            return NONE;
        }
        for (int four : new int[] {a, b, c, d, e}) {
            for (byte one : BigInteger.valueOf(four & 0xffffffffL | 1L << 32).toByteArray()) {
                tape.add(one & 255);
            }
            tape.remove(tape.size() - 5);
        }
        return tape.size();
    }

    int end(int n) {
        if (n < 0 || n > tape.size()) {
            return NONE;
        }
        tape = new ArrayList<>(tape.subList(0, n));
        return n;
    }

    int text() {
        if (all.texts.size() == 4) {
            return NONE;
        }
        try {
            all.texts.add(read(tape));
            fault = 0;
            place = NONE;
            return all.texts.size() - 1;
        } catch (Fault f) {
            fault = f.what;
            place = f.place;
            return NONE;
        } finally {
            tape = new ArrayList<>();
        }
    }

    int fault(int what) {
        return what == 0 ? fault : what == 1 ? place : NONE;
    }

    boolean by(int text) {
        if (text < NONE || text >= all.texts.size()) {
            return false;
        }
        all.ruling = text;
        return true;
    }

    private static final List<String> LAWS = List.of("none", "twice", "trips", "jar", "fall");
    private static final List<String> EVERYWHERE = List.of("who", "house", "steps", "drunk", "loaded", "nights");
    private static final List<String> AT_STEPS = List.of("nth", "height", "last", "rail");

    static List<Token> tokens(List<Integer> bytes) {
        StringBuilder chars = new StringBuilder();
        for (int b : bytes) {
            chars.append((char) b);
        }
        String s = chars.toString();
        List<Token> all = new ArrayList<>();
        java.util.regex.Matcher m =
            java.util.regex.Pattern.compile("[ \n]+|[a-zA-Z]+|[0-9]+|<=|>=|.", java.util.regex.Pattern.DOTALL).matcher(s);
        while (m.find()) {
            if (m.group().charAt(0) != ' ' && m.group().charAt(0) != '\n') {
                all.add(new Token(m.group(), m.start()));
            }
        }
        all.add(new Token("", s.length()));
        return all;
    }

    private static String shape(String first) {
        switch (first) {
            case "none": case "twice": case "jar": case "fall": return "SUM ;";
            case "trips": return "EITHER ;";
            case "stair": return "0..3 long 1..14 ;";
            case "high": return "1..9 at 1..14 of 0..3 ;";
            case "mark": return "1..14 of 0..3 ;";
            case "rail": return "0..14 of 0..3 ;";
            case "one": return "0..10 twice 0..10 landing 0..10 ;";
            case "begin": case "load": case "drink": return "0..5 at 0..3 ;";
            case "step": case "toe": return "1..20 ;";
            case "stop": return ";";
            case "night": return "1..99 ;";
            default: return null;
        }
    }

    static Txt read(List<Integer> bytes) throws Fault {
        Txt txt = new Txt();
        Deque<String> due = new ArrayDeque<>();
        List<Token> clause = null;
        int open = 0;
        for (Token t : tokens(bytes)) {
            if (due.isEmpty()) {
                if (t.s.isEmpty()) {
                    return txt;
                }
                if (shape(t.s) == null) {
                    throw new Fault(1, t.place);
                }
                if (LAWS.contains(t.s) && txt.law(t.s) != null) {
                    throw new Fault(4, t.place);
                }
                if (txt.clauses.size() == 24) {
                    throw new Fault(6, t.place);
                }
                clause = new ArrayList<>(List.of(t));
                txt.clauses.add(clause);
                push(due, shape(t.s));
                continue;
            }
            boolean taken = false;
            while (!taken) {
                if (due.isEmpty()) {
                    throw new Fault(1, t.place);
                }
                String top = due.pop();
                switch (top) {
                    case "EITHER": push(due, "BOTH OR"); break;
                    case "OR": push(due, t.s.equals("or") ? "or BOTH OR" : ""); break;
                    case "BOTH": push(due, "ASK AND"); break;
                    case "AND": push(due, t.s.equals("and") ? "and ASK AND" : ""); break;
                    case "ASK": push(due, t.s.equals("not") ? "not ASK SHUT" : "SUM RELATION SUM"); break;
                    case "SUM": push(due, "PRODUCT PLUS"); break;
                    case "PLUS": push(due, t.s.equals("+") || t.s.equals("-") ? "ANY PRODUCT PLUS" : ""); break;
                    case "PRODUCT": push(due, "ONE TIMES"); break;
                    case "TIMES": push(due, t.s.equals("*") || t.s.equals("/") ? "ANY ONE TIMES" : ""); break;
                    case "SHUT": open--; break;
                    case "ANY": taken = true; break;
                    case "RELATION":
                        if (!List.of("<", "<=", ">", ">=", "=", "#").contains(t.s)) {
                            throw new Fault(1, t.place);
                        }
                        taken = true;
                        break;
                    case "ONE":
                        if (t.number) {
                            push(due, "0..9999");
                        } else if (t.s.equals("(")) {
                            push(due, "( SUM ) SHUT");
                        } else if (t.s.equals("-")) {
                            push(due, "OPENING ONE SHUT");
                        } else if (t.s.equals("if")) {
                            push(due, "if EITHER ? SUM : SUM end SHUT");
                        } else if (AT_STEPS.contains(t.s)) {
                            if (clause.get(0).s.equals("jar") || clause.get(0).s.equals("fall")) {
                                throw new Fault(5, t.place);
                            }
                            taken = true;
                        } else if (EVERYWHERE.contains(t.s)) {
                            taken = true;
                        } else {
                            throw new Fault(1, t.place);
                        }
                        break;
                    default:
                        if (top.contains("..")) {
                            if (!t.number) {
                                throw new Fault(1, t.place);
                            }
                            String[] ends = top.split("\\.\\.");
                            if (t.value().compareTo(new BigInteger(ends[0])) < 0
                                || t.value().compareTo(new BigInteger(ends[1])) > 0) {
                                throw new Fault(2, t.place);
                            }
                        } else if (!top.equals("OPENING") && !top.equals(t.s)) {
                            throw new Fault(1, t.place);
                        }
                        if (List.of("OPENING", "(", "if", "not").contains(top)) {
                            open++;
                            if (open == 9) {
                                throw new Fault(3, t.place);
                            }
                        }
                        taken = true;
                }
            }
            clause.add(t);
        }
        throw new IllegalStateException("behind the end");
    }

    private static void push(Deque<String> due, String symbols) {
        if (!symbols.isEmpty()) {
            String[] each = symbols.split(" ");
            for (int i = each.length - 1; i >= 0; i--) {
                due.push(each[i]);
            }
        }
    }

    // ---- laws

    /** Works a law's TOKENS from the left. */
    static final class Work {
        final List<Token> tokens;
        final java.util.Map<String, Integer> names;
        int i;

        Work(List<Token> tokens, java.util.Map<String, Integer> names) {
            this.tokens = tokens;
            this.names = names;
        }

        boolean is(String s) {
            if (i < tokens.size() && tokens.get(i).s.equals(s)) {
                i++;
                return true;
            }
            return false;
        }

        static long cut(long v) {
            return Math.min(1000000, Math.max(-1000000, v));
        }

        boolean either() {
            boolean a = both();
            while (is("or")) {
                a |= both();
            }
            return a;
        }

        boolean both() {
            boolean a = ask();
            while (is("and")) {
                a &= ask();
            }
            return a;
        }

        boolean ask() {
            if (is("not")) {
                return !ask();
            }
            long a = sum();
            String sign = tokens.get(i++).s;
            int by = Long.compare(a, sum());
            switch (sign) {
                case "<": return by < 0;
                case "<=": return by <= 0;
                case ">": return by > 0;
                case ">=": return by >= 0;
                case "=": return by == 0;
                default: return by != 0;
            }
        }

        long sum() {
            long a = product();
            while (true) {
                if (is("+")) {
                    a = cut(a + product());
                } else if (is("-")) {
                    a = cut(a - product());
                } else {
                    return a;
                }
            }
        }

        long product() {
            long a = one();
            while (true) {
                if (is("*")) {
                    a = cut(a * one());
                } else if (is("/")) {
                    long b = one();
                    a = b == 0 ? 0 : cut(a / b);
                } else {
                    return a;
                }
            }
        }

        long one() {
            if (is("(")) {
                long a = sum();
                is(")");
                return a;
            }
            if (is("-")) {
                return cut(-one());
            }
            if (is("if")) {
                boolean so = either();
                is("?");
                long a = sum();
                is(":");
                long b = sum();
                is("end");
                return so ? a : b;
            }
            Token t = tokens.get(i++);
            return t.number ? t.value().longValueExact() : names.get(t.s);
        }
    }

    private java.util.Map<String, Integer> names(int person, int house, int kind, int step) {
        java.util.Map<String, Integer> names = new java.util.HashMap<>();
        Stairs h = at(house);
        names.put("who", person);
        names.put("house", house);
        names.put("steps", h.n);
        names.put("drunk", kind / 2);
        names.put("loaded", kind % 2);
        names.put("nights", all.going.night);
        if (step > 0) {
            names.put("nth", step);
            names.put("height", h.heights[step]);
            names.put("last", step == 1 ? 5 : h.heights[step - 1]);
            names.put("rail", h.rail >= step && kind % 2 == 0 ? 1 : 0);
        }
        return names;
    }

    private List<Token> law(Txt txt, String law) {
        return txt == null ? null : txt.law(law);
    }

    private Txt ruling() {
        return all.ruling == NONE ? null : all.texts.get(all.ruling);
    }

    private int amount(String law, int without, int most, int person, int house, int kind, int step) {
        List<Token> tokens = law(ruling(), law);
        long v = tokens == null ? without : new Work(tokens, names(person, house, kind, step)).sum();
        return (int) Math.max(0, Math.min(most, v));
    }

    int none(int person, int house, int kind, int step) {
        return amount("none", all.people.get(person)[0], 10, person, house, kind, step);
    }

    int twice(int person, int house, int kind, int step) {
        int most = 10 - none(person, house, kind, step);
        return amount("twice", all.people.get(person)[1], most, person, house, kind, step);
    }

    int jar(int person, int house, int kind) {
        return amount("jar", 5, 99, person, house, kind, 0);
    }

    int fall(int person, int house, int kind) {
        return amount("fall", 9, 99, person, house, kind, 0);
    }

    boolean trips(Txt txt, int person, int house, int kind, int step) {
        java.util.Map<String, Integer> names = names(person, house, kind, step);
        List<Token> tokens = law(txt, "trips");
        if (tokens == null) {
            int by = names.get("height") - names.get("last");
            return by >= 3 || by <= -3;
        }
        return new Work(tokens, names).either();
    }

    int says(int person, int house, int kind, int step, int what) {
        if (!isPerson(person) || !isStep(house, step) || kind < 0 || kind > 3) {
            return NONE;
        }
        switch (what) {
            case 0: return none(person, house, kind, step);
            case 1: return twice(person, house, kind, step);
            case 2: return trips(ruling(), person, house, kind, step) ? 1 : 0;
            case 3: return jar(person, house, kind);
            case 4: return fall(person, house, kind);
            default: return NONE;
        }
    }

    // ---- going

    private void remember() {
        all.past.add(all.going.copy());
        if (all.past.size() > 30) {
            all.past.remove(0);
        }
    }

    private void stir() {
        all.going.x = (int) ((all.going.x * 173L + 89) % 30071);
    }

    private int draw() {
        int d = all.going.x % 10;
        stir();
        return d;
    }

    private void setOut(int person, int house, int kind) {
        all.going.way = new int[] {person, house, kind, 0, draw() < all.people.get(person)[2] ? 1 : 0, 0, 0, 0};
    }

    private void down(int how) {
        int[] w = all.going.way;
        all.going.book.add(new int[] {w[0], w[1], all.going.night, w[4], w[5], w[6], how, w[7]});
        if (all.going.book.size() > 40) {
            all.going.book.remove(0);
        }
        all.going.way = null;
    }

    private int go(boolean boldly) {
        int[] w = all.going.way;
        int n = at(w[1]).n;
        w[5] += boldly ? 1 : 3;
        if (w[3] == n) {
            if (boldly) {
                w[6] += jar(w[0], w[1], w[2]);
            }
            down(boldly ? 1 : 0);
            return n;
        }
        w[3]++;
        if (boldly && trips(ruling(), w[0], w[1], w[2], w[3])) {
            w[6] += fall(w[0], w[1], w[2]);
            w[7]++;
        }
        w[4] = counted(w[0], w[1], w[2], w[3], w[4], draw(), at(w[1]).marks);
        return w[3];
    }

    private int counted(int person, int house, int kind, int step, int count, int draw, boolean[] marks) {
        if (marks[step] && kind % 2 == 0) {
            return step;
        }
        int none = none(person, house, kind, step);
        return draw < none ? count : draw < none + twice(person, house, kind, step) ? count + 2 : count + 1;
    }

    int begin(int person, int house, int kind) {
        if (!isPerson(person) || at(house) == null || kind < 0 || kind > 3) {
            return NONE;
        }
        remember();
        setOut(person, house, kind);
        return all.going.way[4];
    }

    int step() {
        if (all.going.way == null) {
            return NONE;
        }
        remember();
        return go(true);
    }

    int toe() {
        if (all.going.way == null) {
            return NONE;
        }
        remember();
        return go(false);
    }

    int stop() {
        int[] w = all.going.way;
        if (w == null) {
            return NONE;
        }
        remember();
        w = all.going.way;
        boolean there = w[3] == at(w[1]).n;
        if (!there) {
            w[6] += fall(w[0], w[1], w[2]);
        }
        down(there ? 2 : 3);
        return there ? 2 : 3;
    }

    int night(int n) {
        if (n < 1 || n > 99 || all.going.night + n > 999) {
            return NONE;
        }
        for (int i = 0; i < n; i++) {
            remember();
            all.going.night++;
        }
        return all.going.night;
    }

    int played(int text) {
        if (text < 0 || text >= all.texts.size()) {
            return -2;
        }
        List<List<Token>> clauses = all.texts.get(text).clauses;
        for (int i = 0; i < clauses.size(); i++) {
            if (!done(clauses.get(i))) {
                return i;
            }
        }
        return NONE;
    }

    private boolean done(List<Token> clause) {
        List<Integer> v = new ArrayList<>();
        for (Token t : clause) {
            if (t.number) {
                v.add(t.value().intValue());
            }
        }
        boolean can = true;
        switch (clause.get(0).s) {
            case "stair": return stair(v.get(0), v.get(1));
            case "high": return height(v.get(2), v.get(1), v.get(0));
            case "mark": return mark(v.get(1), v.get(0), true) || mark(v.get(1), v.get(0), false);
            case "rail": return rail(v.get(1), v.get(0));
            case "one": return person(v.get(0), v.get(1), v.get(2)) >= 0;
            case "begin": return begin(v.get(0), v.get(1), 0) >= 0;
            case "load": return begin(v.get(0), v.get(1), 1) >= 0;
            case "drink": return begin(v.get(0), v.get(1), 2) >= 0;
            case "stop": return stop() >= 0;
            case "step":
                for (int i = 0; i < v.get(0); i++) {
                    can &= step() >= 0;
                }
                return can;
            case "toe":
                for (int i = 0; i < v.get(0); i++) {
                    can &= toe() >= 0;
                }
                return can;
            case "night":
                for (int i = 0; i < v.get(0); i++) {
                    can &= night(1) >= 0;
                }
                return can;
            default: return true;
        }
    }

    int week(int seed, int f) {
        if (seed < 0 || seed > 9999 || f < 0 || f > 30 || all.people.isEmpty()) {
            return NONE;
        }
        remember();
        seed(seed);
        int harm = 0;
        for (int i = 0; i < 7; i++) {
            int person = all.going.x % all.people.size();
            stir();
            int house = all.going.x % 4;
            stir();
            setOut(person, house, 0);
            while (all.going.way != null) {
                go(all.going.way[4] < f);
            }
            harm += all.going.book.get(all.going.book.size() - 1)[5];
            if (all.going.night < 999) {
                all.going.night++;
            }
        }
        return harm;
    }

    int undo() {
        if (all.past.isEmpty()) {
            return NONE;
        }
        all.going = all.past.remove(all.past.size() - 1);
        int[] w = all.going.way;
        if (w != null && w[3] > at(w[1]).n) {
            w[3] = at(w[1]).n;
        }
        return all.past.size();
    }

    int way(int what) {
        return all.going.way == null || what < 0 || what > 7 ? NONE : all.going.way[what];
    }

    int house(int house, int what) {
        Stairs h = at(house);
        if (h == null) {
            return NONE;
        }
        if (what == 0) {
            return h.n;
        }
        if (what == 1) {
            int bits = 0;
            for (int i = 1; i <= h.n; i++) {
                bits += h.marks[i] ? (int) Math.pow(2, i) : 0;
            }
            return bits;
        }
        if (what == 2) {
            return h.rail;
        }
        return what >= 11 && what <= 10 + h.n ? h.heights[what - 10] : NONE;
    }

    int book(int i, int what) {
        List<int[]> book = all.going.book;
        if (i == NONE) {
            return book.size();
        }
        return i < 0 || i >= book.size() || what < 0 || what > 7 ? -2 : book.get(i)[what];
    }

    // ---- in mind

    static long part(BigInteger upper, BigInteger lower, boolean low) {
        BigInteger g = upper.gcd(lower);
        return (low ? lower : upper).divide(g).longValueExact();
    }

    static long part(BigDecimal upper, BigDecimal lower, boolean low) {
        int scale = Math.max(0, Math.max(upper.scale(), lower.scale()));
        return part(upper.setScale(scale).unscaledValue(), lower.setScale(scale).unscaledValue(), low);
    }

    private boolean sound(int person, int house, int kind) {
        return isPerson(person) && at(house) != null && kind >= 0 && kind <= 3;
    }

    /** The odds of each COUNT, AT t, from a COUNT at first on. */
    private BigDecimal[] counts(int person, int house, int kind, int t, boolean[] marks, BigDecimal[] first) {
        BigDecimal[] odds = first;
        for (int step = 1; step <= t; step++) {
            BigDecimal[] next = new BigDecimal[40];
            Arrays.fill(next, BigDecimal.ZERO);
            for (int draw = 0; draw < 10; draw++) {
                for (int c = 0; c < 32; c++) {
                    if (odds[c].signum() != 0) {
                        int to = counted(person, house, kind, step, c, draw, marks);
                        next[to] = next[to].add(odds[c].movePointLeft(1));
                    }
                }
            }
            odds = next;
        }
        return odds;
    }

    private BigDecimal[] first(int person, boolean zeroToo) {
        BigDecimal[] first = new BigDecimal[40];
        Arrays.fill(first, BigDecimal.ZERO);
        first[1] = BigDecimal.valueOf(all.people.get(person)[2]).movePointLeft(1);
        if (zeroToo) {
            first[0] = BigDecimal.ONE.subtract(first[1]);
        }
        return first;
    }

    long where(int person, int house, int kind, int c, int t, boolean low) {
        if (!sound(person, house, kind) || c < 0 || c > 29 || t < 0 || t > at(house).n) {
            return NONE;
        }
        BigDecimal all = BigDecimal.ZERO;
        BigDecimal its = BigDecimal.ZERO;
        for (int i = 0; i <= at(house).n; i++) {
            BigDecimal odds = counts(person, house, kind, i, at(house).marks, first(person, true))[c];
            all = all.add(odds);
            if (i == t) {
                its = odds;
            }
        }
        return all.signum() == 0 ? NONE : part(its, all, low);
    }

    /** SECONDS and HARM (of HARM alone: without SECONDS) from AT and COUNT on, by what follows. */
    private BigDecimal ahead(int[] who, int f, boolean[] marks, int at, int count, boolean harmOnly, BigDecimal[][] known) {
        if (known[at][count] != null) {
            return known[at][count];
        }
        int n = at(who[1]).n;
        boolean boldly = count < f;
        BigDecimal all = BigDecimal.valueOf(harmOnly ? 0 : boldly ? 1 : 3);
        if (at == n) {
            all = all.add(BigDecimal.valueOf(boldly ? jar(who[0], who[1], who[2]) : 0));
        } else {
            if (boldly && trips(ruling(), who[0], who[1], who[2], at + 1)) {
                all = all.add(BigDecimal.valueOf(fall(who[0], who[1], who[2])));
            }
            for (int draw = 0; draw < 10; draw++) {
                int to = counted(who[0], who[1], who[2], at + 1, count, draw, marks);
                all = all.add(ahead(who, f, marks, at + 1, to, harmOnly, known).movePointLeft(1));
            }
        }
        known[at][count] = all;
        return all;
    }

    private BigDecimal average(int person, int house, int kind, int f, boolean[] marks, boolean harmOnly) {
        int[] who = {person, house, kind};
        BigDecimal one = BigDecimal.valueOf(all.people.get(person)[2]).movePointLeft(1);
        BigDecimal[][] known = new BigDecimal[16][40];
        return ahead(who, f, marks, 0, 1, harmOnly, known).multiply(one)
            .add(ahead(who, f, marks, 0, 0, harmOnly, known).multiply(BigDecimal.ONE.subtract(one)));
    }

    long cost(int person, int house, int kind, int f, boolean low) {
        if (!sound(person, house, kind) || f < 0 || f > 30) {
            return NONE;
        }
        return part(average(person, house, kind, f, at(house).marks, false), BigDecimal.ONE, low);
    }

    private int best(int person, int house, int kind, boolean[] marks) {
        int best = 0;
        BigDecimal least = null;
        for (int f = 0; f <= 30; f++) {
            BigDecimal cost = average(person, house, kind, f, marks, false);
            if (least == null || cost.compareTo(least) < 0) {
                least = cost;
                best = f;
            }
        }
        return best;
    }

    private BigDecimal least(int person, int house, int kind, boolean[] marks) {
        return average(person, house, kind, best(person, house, kind, marks), marks, false);
    }

    int from(int person, int house, int kind) {
        return sound(person, house, kind) ? best(person, house, kind, at(house).marks) : NONE;
    }

    int worth(int person, int house, int kind) {
        if (!sound(person, house, kind)) {
            return NONE;
        }
        BigDecimal least = least(person, house, kind, at(house).marks);
        int best = NONE;
        for (int step = 1; step <= at(house).n; step++) {
            boolean[] marks = at(house).marks.clone();
            if (!marks[step]) {
                marks[step] = true;
                BigDecimal cost = least(person, house, kind, marks);
                if (cost.compareTo(least) < 0) {
                    least = cost;
                    best = step;
                }
            }
        }
        return best;
    }

    int goes(int person, int house) {
        if (!sound(person, house, 0)) {
            return NONE;
        }
        BigDecimal two = least(person, house, 0, at(house).marks).multiply(BigDecimal.valueOf(2));
        int by = two.compareTo(least(person, house, 1, at(house).marks));
        return by < 0 ? 1 : by > 0 ? 0 : 2;
    }

    int lamp(int person, int house, int h, int p) {
        if (!sound(person, house, 0) || h < 1 || h > 99 || p < 1 || p > 999) {
            return NONE;
        }
        int f = best(person, house, 0, at(house).marks);
        BigDecimal harm = average(person, house, 0, f, at(house).marks, true).multiply(BigDecimal.valueOf(h));
        for (int nights = 1; nights <= 9999; nights++) {
            if (harm.multiply(BigDecimal.valueOf(nights)).compareTo(BigDecimal.valueOf(p)) >= 0) {
                return nights;
            }
        }
        return NONE;
    }

    long which(int person, int c, int house, boolean low) {
        if (!sound(person, house, 0) || c < 0 || c > 29 || !at(house).told) {
            return NONE;
        }
        BigDecimal all = BigDecimal.ZERO;
        BigDecimal its = BigDecimal.ZERO;
        for (int i = 0; i < 4; i++) {
            if (at(i).told) {
                BigDecimal odds = counts(person, i, 0, at(i).n, at(i).marks, first(person, true))[c];
                all = all.add(odds);
                if (i == house) {
                    its = odds;
                }
            }
        }
        return all.signum() == 0 ? (low ? 1 : 0) : part(its, all, low);
    }

    long whether(int person, int house, int c, boolean low) {
        if (!sound(person, house, 0) || c < 0 || c > 29) {
            return NONE;
        }
        boolean[] marks = at(house).marks;
        BigDecimal all = counts(person, house, 0, at(house).n, marks, first(person, true))[c];
        BigDecimal its = counts(person, house, 0, at(house).n, marks, first(person, false))[c];
        return all.signum() == 0 ? NONE : part(its, all, low);
    }

    long sure(int r, int a, int n, boolean low) {
        if (r < 1 || r > 9 || a < 1 || a > 10 || n < 0 || n > 15) {
            return NONE;
        }
        BigInteger all = BigInteger.ZERO;
        for (int k = r; k <= n; k++) {
            BigInteger ways = BigInteger.ONE;
            for (int i = 0; i < k; i++) {
                ways = ways.multiply(BigInteger.valueOf(n - i)).divide(BigInteger.valueOf(i + 1));
            }
            all = all.add(ways.multiply(BigInteger.valueOf(a).pow(k)).multiply(BigInteger.valueOf(10 - a).pow(n - k)));
        }
        return part(all, BigInteger.TEN.pow(n), low);
    }

    int average(int r, int a, boolean low) {
        if (r < 1 || r > 9 || a < 1 || a > 10) {
            return NONE;
        }
        return (int) part(BigInteger.valueOf(10L * r), BigInteger.valueOf(a), low);
    }

    // ---- tales

    int tally(int person, int what) {
        if (!isPerson(person) || what < 0 || what > 5) {
            return NONE;
        }
        int[] sums = new int[6];
        for (int[] line : all.going.book) {
            if (line[0] == person) {
                sums[0]++;
                sums[1] += line[6] == 1 ? 1 : 0;
                sums[2] += line[6] == 3 ? 1 : 0;
                sums[3] += line[7];
                sums[4] += line[4];
                sums[5] += line[5];
            }
        }
        return sums[what];
    }

    int legs(int person, int house) {
        if (!isPerson(person) || house < NONE || house > 3) {
            return -100;
        }
        int[] often = new int[4];
        int[] latest = {NONE, NONE, NONE, NONE};
        for (int i = 0; i < all.going.book.size(); i++) {
            int[] line = all.going.book.get(i);
            if (line[0] == person) {
                often[line[1]]++;
                latest[line[1]] = i;
            }
        }
        int best = NONE;
        for (int i = 0; i < 4; i++) {
            if (often[i] > 0 && (best == NONE || often[i] > often[best]
                || often[i] == often[best] && latest[i] > latest[best])) {
                best = i;
            }
        }
        if (house == NONE) {
            return best == NONE ? NONE : at(best).n;
        }
        return best == NONE ? -100 : at(best).n - at(house).n;
    }

    int trippers(int house, int step, int kind) {
        if (!isStep(house, step) || kind < 0 || kind > 3) {
            return NONE;
        }
        int bits = 0;
        for (int p = 0; p < all.people.size(); p++) {
            bits += trips(ruling(), p, house, kind, step) ? (int) Math.pow(2, p) : 0;
        }
        return bits;
    }

    int seen(int person, int house, int step, boolean tripped) {
        if (person == NONE) {
            all.seen.clear();
            return 0;
        }
        if (!isPerson(person) || !isStep(house, step) || all.seen.size() == 12) {
            return -2;
        }
        all.seen.add(new int[] {person, house, step, tripped ? 1 : 0});
        return all.seen.size();
    }

    int laws() {
        int bits = 0;
        for (int i = 0; i < all.texts.size(); i++) {
            boolean so = true;
            for (int[] sight : all.seen) {
                if (isStep(sight[1], sight[2])) {
                    so &= trips(all.texts.get(i), sight[0], sight[1], 0, sight[2]) == (sight[3] == 1);
                }
            }
            bits += so ? (int) Math.pow(2, i) : 0;
        }
        return bits;
    }

    /** All HEIGHTS are tried, so only of few STEPS. */
    int alike(int house, int step, boolean few) {
        if (at(house) == null || step != NONE && !isStep(house, step)) {
            return NONE;
        }
        Stairs h = at(house);
        int[] as = h.heights.clone();
        int[] best = null;
        int least = Integer.MAX_VALUE;
        long all = Math.round(Math.pow(9, h.n));
        for (long i = 0; i < all; i++) {
            long rest = i;
            int work = 0;
            for (int s = h.n; s >= 1; s--) {
                h.heights[s] = (int) (rest % 9) + 1;
                rest /= 9;
                int by = Math.abs(h.heights[s] - as[s]);
                work += few ? (by > 0 ? 1 : 0) : by;
            }
            if (work < least && nobodyTrips(house)) {
                least = work;
                best = h.heights.clone();
            }
        }
        h.heights = as;
        return best == null ? NONE : step == NONE ? least : best[step];
    }

    private boolean nobodyTrips(int house) {
        for (int p = 0; p < all.people.size(); p++) {
            for (int s = 1; s <= at(house).n; s++) {
                if (trips(ruling(), p, house, 0, s)) {
                    return false;
                }
            }
        }
        return true;
    }

    int image() {
        image = all.copy();
        return all.going.night;
    }

    int back() {
        all = image.copy();
        return all.going.night;
    }

    int about(int what) {
        switch (what) {
            case 0: return all.people.size();
            case 1: return all.going.night;
            case 2: return all.going.x;
            case 3: return all.texts.size();
            case 4: return all.ruling;
            case 5: return all.past.size();
            case 6: return all.seen.size();
            case 7:
                int bits = 0;
                for (int i = 0; i < 4; i++) {
                    bits += at(i).told ? (int) Math.pow(2, i) : 0;
                }
                return bits;
            case 8: return tape.size();
            default:
                for (int k = 1; k <= 3; k++) {
                    if (what >= 10 * k && isPerson(what - 10 * k)) {
                        return all.people.get(what - 10 * k)[k - 1];
                    }
                }
                return -2;
        }
    }
}
