/** Each NAME in each law, by each call that asks laws: part II's last sentences, in promises 14 to 16, 23, 25, 26, 31, 37, 39, 40. */
public final class NamesTest {
    private static final Check c = new Check();
    private static final int PERSON = 3;
    private static final int HOUSE = 2;
    private static final int STEP = 4;
    private static final String[] NAMES = {
        "who", "house", "steps", "drunk", "loaded", "nights", "nth", "height", "last", "rail"};
    private static final int NAMES_IN_ALL = 6;

    public static void main(String[] args) {
        for (int name = 0; name < NAMES.length; name++) {
            for (int kind = 0; kind < 4; kind++) {
                for (int off = 0; off < 2; off++) {
                    trips(name, kind, off);
                    counts(name, kind, off, "none", 10, -1);
                    counts(name, kind, off, "twice", 10, 1);
                    if (name < NAMES_IN_ALL) {
                        jar(name, kind, off);
                        fall(name, kind, off);
                    }
                }
            }
            alike(name);
        }
        c.end("NamesTest");
    }

    /** PERSON 3 of 5 in HOUSE 2 of 7 STEPS; STEP 4 is 6 high behind one of 8, and the RAIL ends at it; NIGHT is 11. */
    private static OneStepMore told() {
        OneStepMore x = new OneStepMore();
        for (int i = 0; i < 5; i++) {
            x.person(0, 0, 0);
        }
        x.stair(HOUSE, 7);
        x.height(HOUSE, STEP - 1, 8);
        x.height(HOUSE, STEP, 6);
        x.rail(HOUSE, STEP);
        x.night(11);
        return x;
    }

    private static int value(int name, int kind) {
        int[] values = {PERSON, HOUSE, 7, kind / 2, kind % 2, 11, STEP, 6, 8, 1 - kind % 2};
        return values[name];
    }

    /** That a NAME is what it is (off 0) or one more (off 1), as an ASK. */
    private static String ask(int name, int kind, int off) {
        return NAMES[name] + "=" + (value(name, kind) + off);
    }

    private static OneStepMore by(String law) {
        OneStepMore x = told();
        c.is(law + " is a TEXT", Check.text(x, law), 0);
        x.by(0);
        return x;
    }

    private static void trips(int name, int kind, int off) {
        String law = "trips " + ask(name, kind, off) + " and nth=4;";
        String call = law + " of kind " + kind;
        int is = 1 - off;
        OneStepMore x = by(law);
        c.is("23: " + call, x.says(PERSON, HOUSE, kind, STEP, 2), is);
        // one more of who is told, too
        int all = NAMES[name].equals("who") ? 1 << PERSON + off : 31 * is;
        c.is("37: " + call, x.trippers(HOUSE, STEP, kind), all);
        c.part("26: " + call, x.cost(PERSON, HOUSE, kind, 30, false), x.cost(PERSON, HOUSE, kind, 30, true), 13 + 9 * is, 1);
        x.begin(PERSON, HOUSE, kind);
        for (int i = 1; i < STEP; i++) {
            x.step();
        }
        c.is("14: ahead of it", x.way(7), 0);
        x.step();
        c.is("14: " + call, x.way(7), is);
        c.is("14: HARM " + call, x.way(6), 9 * is);
        if (kind == 0) {
            x.by(-1);
            x.seen(PERSON, HOUSE, STEP, true);
            c.is("39: " + call, x.laws(), is);
        }
    }

    /** A law by which the STEP isn't counted, or twice: COUNT is one less or one more from there on. */
    private static void counts(int name, int kind, int off, String word, int says, int more) {
        String law = word + " if " + ask(name, kind, off) + " and nth=4?10:0 end;";
        String call = law + " of kind " + kind;
        int is = 1 - off;
        OneStepMore x = by(law);
        c.is("23: " + call, x.says(PERSON, HOUSE, kind, STEP, more < 0 ? 0 : 1), says * is);
        int count = STEP + more * is;
        int atStep = count == STEP - 1 ? 2 : 1;
        c.part("25: " + call, x.where(PERSON, HOUSE, kind, count, STEP, false), x.where(PERSON, HOUSE, kind, count, STEP, true),
            1, atStep);
        x.begin(PERSON, HOUSE, kind);
        for (int i = 1; i <= STEP; i++) {
            x.step();
        }
        c.is("14: " + call, x.way(4), count);
        x.begin(PERSON, HOUSE, kind);
        for (int i = 1; i <= STEP; i++) {
            x.toe();
        }
        c.is("15: " + call, x.way(4), count);
        if (kind == 0) {
            c.part("31: " + call, x.which(PERSON, 7 + more * is, HOUSE, false), x.which(PERSON, 7 + more * is, HOUSE, true), 1, 1);
            c.part("32: " + call, x.whether(PERSON, HOUSE, 7 + more * is, false),
                x.whether(PERSON, HOUSE, 7 + more * is, true), 0, 1);
        }
    }

    private static void jar(int name, int kind, int off) {
        String law = "jar if " + ask(name, kind, off) + "?77:3 end;";
        String call = law + " of kind " + kind;
        int due = off == 0 ? 77 : 3;
        OneStepMore x = by(law);
        c.is("23: " + call, x.says(PERSON, HOUSE, kind, STEP, 3), due);
        // with a TRIP at STEP 3, as there is no trips
        c.part("26: " + call, x.cost(PERSON, HOUSE, kind, 30, false), x.cost(PERSON, HOUSE, kind, 30, true), 17 + due, 1);
        x.begin(PERSON, HOUSE, kind);
        for (int i = 0; i < 7; i++) {
            x.toe();
        }
        x.step();
        c.is("14: " + call, x.book(0, 5), due);
    }

    private static void fall(int name, int kind, int off) {
        String law = "fall if " + ask(name, kind, off) + "?77:3 end;trips nth=2;";
        String call = law + " of kind " + kind;
        int due = off == 0 ? 77 : 3;
        OneStepMore x = by(law);
        c.is("23: " + call, x.says(PERSON, HOUSE, kind, STEP, 4), due);
        c.part("26: " + call, x.cost(PERSON, HOUSE, kind, 30, false), x.cost(PERSON, HOUSE, kind, 30, true), 13 + due, 1);
        x.begin(PERSON, HOUSE, kind);
        x.step();
        x.step();
        c.is("14: " + call, x.way(6), due);
        x.begin(PERSON, HOUSE, kind);
        x.stop();
        c.is("16: " + call, x.book(0, 5), due);
    }

    /** Where another HEIGHT can't help there is none; else it is changed by one. */
    private static void alike(int name) {
        boolean height = NAMES[name].equals("height");
        boolean last = NAMES[name].equals("last");
        int due = height || last ? 1 : -1;
        OneStepMore x = by("trips " + ask(name, 0, 0) + " and nth=4;");
        for (int few = 0; few < 2; few++) {
            String call = "40: " + NAMES[name] + (few == 0 ? "" : ", FEW");
            c.is(call, x.alike(HOUSE, -1, few == 1), due);
            c.is(call + ", STEP 3", x.alike(HOUSE, 3, few == 1), height ? 8 : last ? few == 0 ? 7 : 1 : -1);
            c.is(call + ", STEP 4", x.alike(HOUSE, 4, few == 1), height ? few == 0 ? 5 : 1 : last ? 6 : -1);
        }
        OneStepMore y = by("trips " + NAMES[name] + "=" + (name == 0 ? 5 : value(name, 0) + 1) + " and nth=4;");
        c.is("40: not " + NAMES[name], y.alike(HOUSE, -1, false), 0);
        c.is("40: not " + NAMES[name] + ", FEW", y.alike(HOUSE, -1, true), 0);
        c.is("40: HEIGHT as it is", y.alike(HOUSE, 3, false), 8);
    }
}
