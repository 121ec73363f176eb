/**
 * Behind a refused call nothing has changed, and no question changes anything: of two objects alike one gets the call, and
 * all that can be seen of them is the same behind it.
 */
public final class RefusedTest {
    private static final Check c = new Check();
    private static final int LOWEST = Integer.MIN_VALUE;
    private static final int HIGHEST = Integer.MAX_VALUE;

    private interface Setting {
        void on(OneStepMore x);
    }

    private interface Call {
        long on(OneStepMore x);
    }

    public static void main(String[] args) {
        lookTellsApart();
        houses();
        marks();
        people();
        tape();
        texts();
        begins();
        nobody();
        nights();
        weeks();
        sights();
        questionsOfAll();
        questionsInMind();
        questionsOfTales();
        c.end("RefusedTest");
    }

    private static void refused(String call, Setting setting, long answer, Call refused) {
        OneStepMore x = new OneStepMore();
        OneStepMore y = new OneStepMore();
        setting.on(x);
        setting.on(y);
        c.is(call, refused.on(x), answer);
        c.is(call + ": nothing has changed", Look.whole(x).equals(Look.whole(y)), true);
    }

    private static void asked(String call, Setting setting, Call question) {
        OneStepMore x = new OneStepMore();
        OneStepMore y = new OneStepMore();
        setting.on(x);
        setting.on(y);
        question.on(x);
        c.is(call + ": nothing is changed", Look.whole(x).equals(Look.whole(y)), true);
    }

    private static long one(boolean is) {
        return is ? 1 : 0;
    }

    /** Something of all; one is on the way in HOUSE 1, at STEP 2; the tape has a good text, the latest had a FAULT. */
    private static void going(OneStepMore x) {
        x.person(1, 2, 3);
        x.person(0, 1, 10);
        x.stair(0, 4);
        x.height(0, 2, 8);
        x.mark(0, 3, true);
        x.rail(0, 2);
        x.stair(1, 3);
        Check.text(x, "jar 7;trips height>7;");
        x.by(0);
        x.seen(0, 0, 2, true);
        x.begin(0, 0, 0);
        x.step();
        x.step();
        x.stop();
        x.night(2);
        x.image();
        x.mark(0, 1, true);
        x.begin(1, 1, 1);
        x.step();
        x.step();
        Check.text(x, "jar nth;");
        Check.tape(x, "none nth+2;fall 4;");
    }

    private static void idle(OneStepMore x) {
        going(x);
        x.stop();
    }

    private static void late(OneStepMore x) {
        for (int i = 0; i < 10; i++) {
            x.night(99);
        }
        idle(x);
    }

    private static void fullPeople(OneStepMore x) {
        going(x);
        for (int i = 2; i < 6; i++) {
            x.person(i, 0, i);
        }
    }

    private static void fullTexts(OneStepMore x) {
        going(x);
        Check.text(x, "fall 1;");
        Check.text(x, "fall 2;");
        Check.text(x, "fall 3;");
        Check.tape(x, "none 4;");
    }

    private static void fullSeen(OneStepMore x) {
        going(x);
        for (int i = 1; i < 12; i++) {
            x.seen(1, 0, 1 + i % 4, i % 4 == 1);
        }
    }

    private static void fullTape(OneStepMore x, int bytes) {
        idle(x);
        x.end(0);
        StringBuilder text = new StringBuilder("fall 6;");
        while (text.length() < bytes) {
            text.append(' ');
        }
        Check.tape(x, text.toString());
    }

    /** A look that sees too little would find all things alike: each change is seen. */
    private static void lookTellsApart() {
        Call[] changes = {
            x -> one(x.stair(2, 12)), x -> one(x.height(3, 12, 6)), x -> one(x.mark(1, 3, true)), x -> one(x.rail(1, 3)),
            x -> x.person(0, 0, 0), x -> one(x.seed(5)), x -> x.feed(0, 0, 0, 0, 0), x -> x.end(10), x -> x.text(),
            x -> one(x.by(-1)), x -> x.begin(0, 0, 0), x -> x.step(), x -> x.toe(), x -> x.stop(), x -> x.night(1),
            x -> x.undo(), x -> x.week(5, 5), x -> x.seen(1, 0, 1, true), x -> x.seen(-1, 0, 0, true), x -> x.image(),
            x -> x.back()};
        for (int i = 0; i < changes.length; i++) {
            OneStepMore x = new OneStepMore();
            OneStepMore y = new OneStepMore();
            going(x);
            going(y);
            c.is("change " + i + " is done", changes[i].on(x) != -2, true);
            c.is("change " + i + " is seen", Look.whole(x).equals(Look.whole(y)), false);
        }
    }

    private static void houses() {
        for (int house : new int[] {LOWEST, -1, 4, HIGHEST}) {
            refused("2: stair of house " + house, RefusedTest::going, 0, x -> one(x.stair(house, 5)));
            refused("3: height of house " + house, RefusedTest::going, 0, x -> one(x.height(house, 1, 6)));
            refused("4: mark of house " + house, RefusedTest::going, 0, x -> one(x.mark(house, 1, true)));
            refused("5: rail of house " + house, RefusedTest::going, 0, x -> one(x.rail(house, 1)));
            refused("13: begin at house " + house, RefusedTest::going, -1, x -> x.begin(0, house, 0));
            refused("38: seen in house " + house, RefusedTest::going, -2, x -> x.seen(0, house, 1, true));
        }
        for (int n : new int[] {LOWEST, -1, 0, 15, HIGHEST}) {
            refused("2: stair of " + n, RefusedTest::going, 0, x -> one(x.stair(0, n)));
        }
        for (int n = 1; n <= 14; n++) {
            int steps = n;
            refused("2: stair while one is on the way in it, " + n, RefusedTest::going, 0, x -> one(x.stair(1, steps)));
        }
        for (int step : new int[] {LOWEST, -1, 0, 5, 14, HIGHEST}) {
            refused("3: height of step " + step, RefusedTest::going, 0, x -> one(x.height(0, step, 6)));
        }
        for (int height : new int[] {LOWEST, -1, 0, 10, HIGHEST}) {
            refused("3: height " + height, RefusedTest::going, 0, x -> one(x.height(0, 1, height)));
        }
        for (int step : new int[] {LOWEST, -1, 5, 14, HIGHEST}) {
            refused("5: rail as far as " + step, RefusedTest::going, 0, x -> one(x.rail(0, step)));
        }
    }

    private static void marks() {
        for (int step : new int[] {LOWEST, -29, -1, 0, 5, 14, 33, 35, HIGHEST}) {
            refused("4: mark at step " + step, RefusedTest::going, 0, x -> one(x.mark(0, step, true)));
            refused("4: no mark at step " + step, RefusedTest::going, 0, x -> one(x.mark(0, step, false)));
        }
        refused("4: it is so already, with", RefusedTest::going, 0, x -> one(x.mark(0, 3, true)));
        refused("4: it is so already, without", RefusedTest::going, 0, x -> one(x.mark(0, 2, false)));
        refused("4: of a house of which nothing was told", RefusedTest::going, 0, x -> one(x.mark(3, 2, false)));
    }

    private static void people() {
        int[][] wrong = {
            {-1, 0, 0}, {0, -1, 0}, {0, 0, -1}, {11, 0, 0}, {0, 11, 0}, {0, 0, 11}, {10, 1, 0}, {1, 10, 0}, {6, 5, 0},
            {11, -1, 0}, {-1, 11, 0}, {LOWEST, 0, 0}, {0, LOWEST, 0}, {0, 0, LOWEST}, {HIGHEST, 0, 0}, {0, HIGHEST, 0},
            {0, 0, HIGHEST}, {HIGHEST, HIGHEST, 0}, {LOWEST, LOWEST, 0}, {1, HIGHEST, 0}};
        for (int[] w : wrong) {
            refused("6: person " + w[0] + " " + w[1] + " " + w[2], RefusedTest::going, -1, x -> x.person(w[0], w[1], w[2]));
        }
        refused("6: the seventh", RefusedTest::fullPeople, -1, x -> x.person(0, 0, 0));
        for (int seed : new int[] {LOWEST, -1, 10000, HIGHEST}) {
            refused("7: seed " + seed, RefusedTest::going, 0, x -> one(x.seed(seed)));
        }
    }

    private static void tape() {
        for (int bytes : new int[] {281, 290, 299, 300}) {
            refused("8: twenty behind " + bytes, x -> fullTape(x, bytes), -1, x -> x.feed(-1, -1, -1, -1, -1));
            refused("9: one more than " + bytes, x -> fullTape(x, bytes), -1, x -> x.end(bytes + 1));
        }
        for (int n : new int[] {LOWEST, -1, 19, 300, HIGHEST}) {
            refused("9: end " + n, RefusedTest::going, -1, x -> x.end(n));
        }
    }

    private static void texts() {
        refused("10: the fifth", RefusedTest::fullTexts, -1, x -> x.text());
        refused("10: the fifth, with a fault", x -> {
            fullTexts(x);
            Check.tape(x, "fall last;");
        }, -1, x -> x.text());
        refused("10: the fifth, empty", x -> {
            fullTexts(x);
            x.end(0);
        }, -1, x -> x.text());
        for (int text : new int[] {LOWEST, -2, 1, 4, HIGHEST}) {
            refused("12: by " + text, RefusedTest::going, 0, x -> one(x.by(text)));
            refused("18: played " + text, RefusedTest::going, -2, x -> x.played(text));
        }
        refused("12: by 4", RefusedTest::fullTexts, 0, x -> one(x.by(4)));
        refused("18: played -1", RefusedTest::fullTexts, -2, x -> x.played(-1));
        refused("18: played 4", RefusedTest::fullTexts, -2, x -> x.played(4));
        String[] cant = {
            "stair 1 long 3;", "high 6 at 5 of 0;", "mark 5 of 0;", "rail 5 of 0;", "one 6 twice 5 landing 0;",
            "begin 2 at 0;", "load 2 at 0;", "drink 5 at 0;"};
        for (String clause : cant) {
            Setting setting = x -> {
                going(x);
                Check.text(x, clause);
            };
            refused("18: can't be: " + clause, setting, 0, x -> x.played(1));
        }
        for (String clause : new String[] {"step 1;", "toe 1;", "stop;", "step 20;", "toe 20;"}) {
            Setting setting = x -> {
                idle(x);
                Check.text(x, clause);
            };
            refused("18: nobody: " + clause, setting, 0, x -> x.played(1));
        }
    }

    private static void begins() {
        for (int person : new int[] {LOWEST, -1, 2, 6, HIGHEST}) {
            refused("13: begin of person " + person, RefusedTest::going, -1, x -> x.begin(person, 0, 0));
        }
        refused("13: begin of person 6", RefusedTest::fullPeople, -1, x -> x.begin(6, 0, 0));
        for (int kind : new int[] {LOWEST, -1, 4, HIGHEST}) {
            refused("13: begin of kind " + kind, RefusedTest::going, -1, x -> x.begin(0, 0, kind));
        }
        refused("13: begin without people", x -> x.seed(3), -1, x -> x.begin(0, 0, 0));
    }

    private static void nobody() {
        refused("14: step of nobody", RefusedTest::idle, -1, x -> x.step());
        refused("15: toe of nobody", RefusedTest::idle, -1, x -> x.toe());
        refused("16: stop of nobody", RefusedTest::idle, -1, x -> x.stop());
        refused("14: step on a new object", x -> { }, -1, x -> x.step());
        refused("15: toe on a new object", x -> { }, -1, x -> x.toe());
        refused("16: stop on a new object", x -> { }, -1, x -> x.stop());
        refused("20: undo on a new object", x -> { }, -1, x -> x.undo());
        Setting taken = x -> {
            idle(x);
            while (x.about(5) > 0) {
                x.undo();
            }
        };
        refused("20: undo, all taken back", taken, -1, x -> x.undo());
    }

    private static void nights() {
        for (int n : new int[] {LOWEST, -1, 0, 100, HIGHEST}) {
            refused("17: night " + n, RefusedTest::going, -1, x -> x.night(n));
        }
        // NIGHT is 992
        for (int n : new int[] {8, 9, 99, HIGHEST}) {
            refused("17: beyond 999 by " + n, RefusedTest::late, -1, x -> x.night(n));
        }
        refused("17: beyond 999 by 1", x -> {
            late(x);
            x.night(7);
        }, -1, x -> x.night(1));
    }

    private static void weeks() {
        for (int seed : new int[] {LOWEST, -1, 10000, HIGHEST}) {
            refused("19: week by " + seed, RefusedTest::going, -1, x -> x.week(seed, 5));
        }
        for (int f : new int[] {LOWEST, -1, 31, HIGHEST}) {
            refused("19: week from " + f, RefusedTest::going, -1, x -> x.week(5, f));
        }
        refused("19: without people", x -> x.seed(3), -1, x -> x.week(5, 5));
    }

    private static void sights() {
        for (int person : new int[] {LOWEST, -2, 2, 6, HIGHEST}) {
            refused("38: seen person " + person, RefusedTest::going, -2, x -> x.seen(person, 0, 1, true));
        }
        for (int step : new int[] {LOWEST, -1, 0, 5, HIGHEST}) {
            refused("38: seen at step " + step, RefusedTest::going, -2, x -> x.seen(0, 0, step, true));
        }
        refused("38: the 13th", RefusedTest::fullSeen, -2, x -> x.seen(0, 0, 1, true));
    }

    private static void questionsOfAll() {
        for (int what : new int[] {LOWEST, -1, 0, 1, 2, 3, 8, 11, 14, 15, 31, HIGHEST}) {
            asked("21: way " + what, RefusedTest::going, x -> x.way(what));
            asked("22: house " + what, RefusedTest::going, x -> x.house(0, what));
            asked("11: fault " + what, RefusedTest::going, x -> x.fault(what));
            asked("24: book " + what, RefusedTest::going, x -> x.book(0, what) + x.book(what, 0));
            asked("43: about " + what, RefusedTest::going, x -> x.about(what));
            asked("23: says " + what, RefusedTest::going, x -> x.says(0, 0, 0, 1, what) + x.says(1, 1, 3, what, 1));
        }
    }

    private static void questionsInMind() {
        for (int any : new int[] {LOWEST, -1, 0, 1, 3, 30, HIGHEST}) {
            asked("25: where " + any, RefusedTest::going, x -> x.where(0, 0, 0, any, 2, true) + x.where(1, any, 1, 2, any, false));
            asked("26: cost " + any, RefusedTest::going, x -> x.cost(0, 0, 0, any, true) + x.cost(any, 0, 2, 3, false));
            asked("27: from " + any, RefusedTest::going, x -> x.from(any, 0, 0) + x.from(0, 1, any));
            asked("28: worth " + any, RefusedTest::going, x -> x.worth(any, 0, 0) + x.worth(0, 1, any));
            asked("29: goes " + any, RefusedTest::going, x -> x.goes(any, 0) + x.goes(1, any));
            asked("30: lamp " + any, RefusedTest::going, x -> x.lamp(any, 0, 9, 9) + x.lamp(0, 0, any, 500));
            asked("31: which " + any, RefusedTest::going, x -> x.which(0, any, 0, true) + x.which(0, 3, any, false));
            asked("32: whether " + any, RefusedTest::going, x -> x.whether(0, 0, any, true) + x.whether(any, 1, 3, false));
            asked("33: sure " + any, RefusedTest::going, x -> x.sure(3, any, 5, true) + x.sure(3, 3, any, false));
            asked("34: average " + any, RefusedTest::going, x -> x.average(3, any, true) + x.average(any, 3, false));
        }
    }

    private static void questionsOfTales() {
        for (int any : new int[] {LOWEST, -1, 0, 1, 3, HIGHEST}) {
            asked("35: tally " + any, RefusedTest::going, x -> x.tally(any, 0) + x.tally(0, any));
            asked("36: legs " + any, RefusedTest::going, x -> x.legs(any, -1) + x.legs(0, any));
            asked("37: trippers " + any, RefusedTest::going, x -> x.trippers(0, any, 0) + x.trippers(any, 2, 3));
            asked("39: laws", RefusedTest::fullSeen, x -> x.laws());
            asked("40: alike " + any, RefusedTest::going, x -> x.alike(0, any, false) + x.alike(any, -1, false));
            asked("40: few " + any, RefusedTest::going, x -> x.alike(0, any, true) + x.alike(any, -1, true));
        }
    }
}
