import java.util.Arrays;

/** The edges of part IV and of an image, sentence by sentence: promises 35 to 42. */
public final class TalesEdgesTest {
    private static final Check c = new Check();
    private static final int LOWEST = Integer.MIN_VALUE;
    private static final int HIGHEST = Integer.MAX_VALUE;

    public static void main(String[] args) {
        tallyOfNothing();
        tallyOf40();
        tallyAsked();
        legsNone();
        legsLike();
        legsOf40();
        legsOfOneAlone();
        legsAsked();
        trippersAsked();
        seenTill12();
        seenEachOf12();
        seenAsked();
        lawsOfAll();
        lawsAtStepsThatAreNoMore();
        alikeOfNobody();
        alikeFirstAndLast();
        alikeNone();
        alikeLowest();
        alikeAsked();
        imageKeepsAll();
        imageOfUnlikeNumbers();
        imageStays();
        c.end("TalesEdgesTest");
    }

    private static void down(OneStepMore x, int person, int house) {
        x.begin(person, house, 0);
        x.stop();
    }

    private static void tallyOfNothing() {
        OneStepMore x = new OneStepMore();
        c.is("35: nobody told", x.tally(0, 0), -1);
        x.person(0, 0, 0);
        for (int what = 0; what < 6; what++) {
            c.is("35: an empty book", x.tally(0, what), 0);
        }
        x.person(0, 0, 0);
        down(x, 1, 0);
        for (int what = 0; what < 6; what++) {
            c.is("35: of the other alone", x.tally(0, what), 0);
        }
        x.begin(0, 0, 0);
        x.step();
        for (int what = 0; what < 6; what++) {
            c.is("35: not of one on the way", x.tally(0, what), 0);
        }
    }

    private static void tallyOf40() {
        OneStepMore x = new OneStepMore();
        x.person(0, 0, 0);
        x.person(0, 0, 0);
        x.stair(0, 1);
        x.by(Check.text(x, "trips 1=1;"));
        x.begin(0, 0, 0);
        x.step();
        x.step();
        int[] first = {1, 1, 0, 1, 2, 14};
        for (int what = 0; what < 6; what++) {
            c.is("35: one line", x.tally(0, what), first[what]);
        }
        for (int i = 0; i < 39; i++) {
            down(x, 1, 0);
        }
        c.is("35: the first of 40", x.tally(0, 0), 1);
        c.is("35: the other's 39", x.tally(1, 0), 39);
        down(x, 1, 0);
        for (int what = 0; what < 6; what++) {
            c.is("35: not in THE BOOK any more", x.tally(0, what), 0);
        }
        int[] forty = {40, 0, 40, 0, 0, 360};
        for (int what = 0; what < 6; what++) {
            c.is("35: 40 lines", x.tally(1, what), forty[what]);
        }
        x.undo();
        c.is("35: the first is there again", x.tally(0, 5), 14);
        x.back();
        x.person(0, 0, 0);
        x.stair(0, 1);
        for (int i = 0; i < 4; i++) {
            x.begin(0, 0, 0);
            x.step();
            if (i == 0) {
                x.stop();
            } else if (i == 1) {
                x.step();
            } else {
                x.toe();
            }
        }
        int[] hows = {4, 1, 0, 0, 1 + 2 + 4 + 4, 5};
        for (int what = 0; what < 6; what++) {
            c.is("35: of each how", x.tally(0, what), hows[what]);
        }
    }

    private static void tallyAsked() {
        OneStepMore x = new OneStepMore();
        for (int i = 0; i < 6; i++) {
            x.person(0, 0, 0);
        }
        for (int person : new int[] {LOWEST, -2, -1, 6, HIGHEST}) {
            c.is("35: person " + person, x.tally(person, 0), -1);
        }
        for (int what : new int[] {LOWEST, -1, 6, 7, HIGHEST}) {
            c.is("35: what " + what, x.tally(0, what), -1);
        }
        c.is("35: PERSON 5, what 5", x.tally(5, 5), 0);
    }

    private static void legsNone() {
        OneStepMore x = new OneStepMore();
        c.is("36: nobody told", x.legs(0, -1), -100);
        x.person(0, 0, 0);
        x.person(0, 0, 0);
        c.is("36: none", x.legs(0, -1), -1);
        for (int house = 0; house < 4; house++) {
            c.is("36: ASTRAY if there are none", x.legs(0, house), -100);
        }
        x.begin(0, 0, 0);
        x.step();
        c.is("36: not DOWN yet", x.legs(0, -1), -1);
        x.stop();
        c.is("36: DOWN once", x.legs(0, -1), 12);
        c.is("36: the other wasn't", x.legs(1, -1), -1);
        c.is("36: nor ASTRAY", x.legs(1, 0), -100);
        x.undo();
        c.is("36: none again", x.legs(0, -1), -1);
    }

    private static void legsLike() {
        OneStepMore x = new OneStepMore();
        x.person(0, 0, 0);
        int[] n = {1, 14, 5, 7};
        for (int house = 0; house < 4; house++) {
            x.stair(house, n[house]);
        }
        for (int i = 0; i < 8; i++) {
            int house = i % 4;
            down(x, 0, house);
            c.is("36: of like ones the latest", x.legs(0, -1), n[house]);
        }
        c.is("36: ASTRAY below", x.legs(0, 1), 7 - 14);
        c.is("36: ASTRAY above", x.legs(0, 0), 7 - 1);
        c.is("36: not ASTRAY", x.legs(0, 3), 0);
        down(x, 0, 1);
        down(x, 0, 0);
        c.is("36: as often, later", x.legs(0, -1), 1);
        down(x, 0, 1);
        c.is("36: most often", x.legs(0, -1), 14);
        down(x, 0, 3);
        c.is("36: later, less often", x.legs(0, -1), 14);
        x.stair(1, 2);
        c.is("36: n as it is now", x.legs(0, -1), 2);
        c.is("36: ASTRAY then", x.legs(0, 1), 0);
        c.is("36: ASTRAY of another", x.legs(0, 3), -5);
    }

    private static void legsOf40() {
        OneStepMore x = new OneStepMore();
        x.person(0, 0, 0);
        x.person(0, 0, 0);
        x.stair(0, 3);
        x.stair(1, 4);
        x.stair(2, 5);
        for (int i = 0; i < 14; i++) {
            down(x, 0, 0);
        }
        for (int i = 0; i < 13; i++) {
            down(x, 0, 1);
        }
        for (int i = 0; i < 13; i++) {
            down(x, 1, 2);
        }
        c.is("36: 14 of 40", x.legs(0, -1), 3);
        down(x, 1, 2);
        c.is("36: 13 that are in THE BOOK, as the later 13", x.legs(0, -1), 4);
        x.undo();
        c.is("36: 14 again", x.legs(0, -1), 3);
    }

    private static void legsOfOneAlone() {
        OneStepMore x = new OneStepMore();
        x.person(0, 0, 0);
        x.person(0, 0, 0);
        x.stair(0, 3);
        x.stair(1, 4);
        down(x, 0, 0);
        down(x, 0, 0);
        down(x, 0, 1);
        for (int i = 0; i < 5; i++) {
            down(x, 1, 1);
        }
        c.is("36: the other's NIGHTS in a HOUSE don't count", x.legs(0, -1), 3);
        c.is("36: nor are they the latest", x.legs(0, 1), -1);
        c.is("36: the other's own", x.legs(1, -1), 4);
        down(x, 0, 1);
        down(x, 1, 0);
        c.is("36: as often, the one's own latest", x.legs(0, -1), 4);
    }

    private static void legsAsked() {
        OneStepMore x = new OneStepMore();
        x.person(0, 0, 0);
        down(x, 0, 0);
        for (int person : new int[] {LOWEST, -2, -1, 1, 6, HIGHEST}) {
            c.is("36: person " + person, x.legs(person, -1), -100);
            c.is("36: ASTRAY of person " + person, x.legs(person, 0), -100);
        }
        for (int house : new int[] {LOWEST, -2, 4, HIGHEST}) {
            c.is("36: house " + house, x.legs(0, house), -100);
        }
        c.is("36: HOUSE 3", x.legs(0, 3), 0);
    }

    private static void trippersAsked() {
        OneStepMore x = new OneStepMore();
        x.stair(3, 14);
        x.stair(0, 1);
        x.by(Check.text(x, "trips who<6;"));
        c.is("37: no PEOPLE", x.trippers(0, 1, 0), 0);
        for (int i = 0; i < 6; i++) {
            x.person(0, 0, 0);
            c.is("37: bits", x.trippers(3, 14, 3), (2 << i) - 1);
        }
        for (int house : new int[] {LOWEST, -1, 4, HIGHEST}) {
            c.is("37: house " + house, x.trippers(house, 1, 0), -1);
        }
        for (int step : new int[] {LOWEST, -1, 0, 15, HIGHEST}) {
            c.is("37: step " + step, x.trippers(3, step, 0), -1);
        }
        c.is("37: STEP 1 of 1", x.trippers(0, 1, 0), 63);
        c.is("37: STEP 2 of 1", x.trippers(0, 2, 0), -1);
        for (int kind : new int[] {LOWEST, -1, 4, HIGHEST}) {
            c.is("37: kind " + kind, x.trippers(3, 1, kind), -1);
        }
        Check.text(x, "trips loaded=1 and who=0 or drunk=1 and who=5;");
        x.by(1);
        int[] due = {0, 1, 32, 33};
        for (int kind = 0; kind < 4; kind++) {
            c.is("37: of kind " + kind, x.trippers(3, 1, kind), due[kind]);
        }
    }

    private static void seenTill12() {
        OneStepMore x = new OneStepMore();
        x.person(0, 0, 0);
        Check.text(x, "trips nth=12;");
        for (int i = 1; i <= 12; i++) {
            c.is("38: how many", x.seen(0, 0, i, i == 12), i);
            c.is("43: SEEN", x.about(6), i);
        }
        c.is("39: all that was SEEN", x.laws(), 1);
        c.is("38: there are 12", x.seen(0, 0, 1, true), -2);
        c.is("38: there are 12, and the same again", x.seen(0, 0, 12, true), -2);
        c.is("43: 12 still", x.about(6), 12);
        c.is("39: the 13th isn't there", x.laws(), 1);
        c.is("38: none any more", x.seen(-1, 0, 0, true), 0);
        c.is("43: none", x.about(6), 0);
        c.is("38: none of none", x.seen(-1, 3, 14, false), 0);
        c.is("38: one", x.seen(0, 0, 12, false), 1);
        c.is("39: that one alone", x.laws(), 0);
    }

    /** Of 12 that were SEEN each one counts, by its PERSON, HOUSE, STEP and what was SEEN there. */
    private static void seenEachOf12() {
        for (int wrong = 0; wrong <= 12; wrong++) {
            OneStepMore x = new OneStepMore();
            for (int i = 0; i < 6; i++) {
                x.person(0, 0, 0);
            }
            for (int i = 0; i < 4; i++) {
                x.stair(i, 14);
            }
            Check.text(x, "trips (who*4+house*3+nth)/2*2=who*4+house*3+nth;");
            for (int i = 0; i < 12; i++) {
                int person = i % 6;
                int house = i % 4;
                int step = 14 - i;
                boolean trips = (person * 4 + house * 3 + step) % 2 == 0;
                x.seen(person, house, step, trips == (i != wrong));
            }
            c.is("39: all 12 are so but " + wrong, x.laws(), wrong == 12 ? 1 : 0);
        }
        for (int other = 0; other < 3; other++) {
            OneStepMore x = new OneStepMore();
            for (int i = 0; i < 6; i++) {
                x.person(0, 0, 0);
            }
            Check.text(x, "trips who=5 and house=3 and nth=12;");
            for (int i = 0; i < 11; i++) {
                x.seen(0, 0, 1, false);
            }
            x.seen(other == 0 ? 4 : 5, other == 1 ? 2 : 3, other == 2 ? 11 : 12, false);
            c.is("39: beside that one", x.laws(), 1);
            x.seen(-1, 0, 0, true);
            x.seen(5, 3, 12, true);
            c.is("39: that one", x.laws(), 1);
        }
    }

    private static void seenAsked() {
        OneStepMore x = new OneStepMore();
        c.is("38: nobody told", x.seen(0, 0, 1, true), -2);
        c.is("38: none of none", x.seen(-1, 0, 0, true), 0);
        for (int i = 0; i < 6; i++) {
            x.person(0, 0, 0);
        }
        x.stair(3, 14);
        x.stair(0, 1);
        c.is("38: PERSON 5 at STEP 14 of HOUSE 3", x.seen(5, 3, 14, true), 1);
        c.is("38: PERSON 0 at STEP 1 of HOUSE 0", x.seen(0, 0, 1, false), 2);
        for (int person : new int[] {LOWEST, -2, 6, HIGHEST}) {
            c.is("38: person " + person, x.seen(person, 0, 1, true), -2);
        }
        for (int house : new int[] {LOWEST, -1, 4, HIGHEST}) {
            c.is("38: house " + house, x.seen(0, house, 1, true), -2);
        }
        for (int step : new int[] {LOWEST, -1, 0, 15, HIGHEST}) {
            c.is("38: step " + step, x.seen(0, 3, step, true), -2);
        }
        c.is("38: STEP 2 of 1", x.seen(0, 0, 2, true), -2);
        c.is("43: two", x.about(6), 2);
        for (int wild : new int[] {LOWEST, -1, 4, HIGHEST}) {
            x.seen(0, 0, 1, true);
            c.is("38: none any more, whatever is behind", x.seen(-1, wild, wild, true), 0);
        }
        c.is("43: none", x.about(6), 0);
    }

    private static void lawsOfAll() {
        OneStepMore x = new OneStepMore();
        x.person(0, 0, 0);
        c.is("39: no TEXTS", x.laws(), 0);
        x.seen(0, 0, 1, true);
        c.is("39: no TEXTS, one SEEN", x.laws(), 0);
        x.seen(-1, 0, 0, true);
        for (int i = 0; i < 4; i++) {
            Check.text(x, i == 0 ? "" : "trips nth=" + i + ";");
            c.is("39: nothing SEEN", x.laws(), (2 << i) - 1);
        }
        x.seen(0, 0, 3, true);
        c.is("39: TEXT 3", x.laws(), 8);
        x.by(0);
        c.is("39: whichever rules", x.laws(), 8);
        x.seen(-1, 0, 0, true);
        x.seen(0, 0, 3, false);
        c.is("39: all but TEXT 3", x.laws(), 7);
        x.height(0, 3, 8);
        c.is("39: HEIGHTS as they are now", x.laws(), 6);
        x.height(0, 3, 7);
        c.is("39: without trips: unlike by 2", x.laws(), 7);
        x.height(0, 2, 4);
        c.is("39: the one ahead, too", x.laws(), 6);
        x.seen(-1, 0, 0, true);
        x.seen(0, 1, 1, true);
        x.seen(0, 1, 1, false);
        c.is("39: none", x.laws(), 0);
    }

    private static void lawsAtStepsThatAreNoMore() {
        OneStepMore x = new OneStepMore();
        x.person(0, 0, 0);
        x.stair(2, 14);
        Check.text(x, "trips nth=1;");
        x.seen(0, 2, 14, true);
        c.is("39: STEP 14 of 14", x.laws(), 0);
        x.stair(2, 13);
        c.is("39: at a STEP that the HOUSE hasn't any more nothing is asked", x.laws(), 1);
        c.is("43: it is SEEN yet", x.about(6), 1);
        x.seen(0, 2, 13, false);
        x.seen(0, 2, 1, true);
        c.is("39: the others are", x.laws(), 1);
        x.seen(0, 2, 1, false);
        c.is("39: and fail", x.laws(), 0);
        x.seen(-1, 0, 0, true);
        x.seen(0, 2, 13, true);
        c.is("39: STEP 13 of 13", x.laws(), 0);
        x.stair(2, 12);
        c.is("39: STEP 13 of 12", x.laws(), 1);
        x.stair(2, 13);
        c.is("39: STEP 13 again", x.laws(), 0);
    }

    private static void due(String call, OneStepMore x, int house, boolean few, int work, int... heights) {
        c.is(call, x.alike(house, -1, few), work);
        for (int i = 0; i < heights.length; i++) {
            c.is(call + ", STEP " + (i + 1), x.alike(house, i + 1, few), heights[i]);
        }
    }

    private static void heights(OneStepMore x, int house, int... heights) {
        x.stair(house, heights.length);
        for (int i = 0; i < heights.length; i++) {
            x.height(house, i + 1, heights[i]);
        }
    }

    private static void alikeOfNobody() {
        OneStepMore x = new OneStepMore();
        heights(x, 0, 9, 1, 9, 1);
        x.by(Check.text(x, "trips 1=1;"));
        due("40: nobody told: none TRIPS", x, 0, false, 0, 9, 1, 9, 1);
        due("40: nobody told, FEW", x, 0, true, 0, 9, 1, 9, 1);
        x.person(0, 0, 0);
        c.is("40: one who TRIPS at all", x.alike(0, -1, false), -1);
    }

    private static int[] all(int n, int height) {
        int[] heights = new int[n];
        Arrays.fill(heights, height);
        return heights;
    }

    private static void alikeFirstAndLast() {
        for (int n = 1; n <= 14; n += 13) {
            OneStepMore x = new OneStepMore();
            x.person(0, 0, 0);
            x.stair(3, n);
            due("40: as it is", x, 3, false, 0, all(n, 5));
            due("40: as it is, FEW", x, 3, true, 0, all(n, 5));
            x.by(Check.text(x, "trips height<9;"));
            due("40: 9 alone", x, 3, false, 4 * n, all(n, 9));
            due("40: 9 alone, FEW", x, 3, true, n, all(n, 9));
            x.by(Check.text(x, "trips height>1;"));
            due("40: 1 alone", x, 3, false, 4 * n, all(n, 1));
            due("40: 1 alone, FEW", x, 3, true, n, all(n, 1));
            for (int step = 1; step <= n; step++) {
                x.height(3, step, 9);
            }
            due("40: from 9 to 1", x, 3, false, 8 * n, all(n, 1));
            due("40: from 9 to 1, FEW", x, 3, true, n, all(n, 1));
        }
    }

    private static void alikeNone() {
        OneStepMore x = new OneStepMore();
        x.person(0, 0, 0);
        x.person(0, 0, 0);
        Check.text(x, "trips last=5;");
        Check.text(x, "trips height>9 or height<9 and nth=12 or height=9 and who=1 and nth=12;");
        Check.text(x, "trips loaded=1 or drunk=1;");
        Check.text(x, "trips nth=12 and last>1 or nth=11 and height<3;");
        for (int text : new int[] {0, 1, 3}) {
            x.by(text);
            for (int step : new int[] {-1, 1, 12}) {
                c.is("40: none by " + text, x.alike(0, step, false), -1);
                c.is("40: none by " + text + ", FEW", x.alike(0, step, true), -1);
            }
        }
        x.by(2);
        due("40: of kind 0", x, 0, false, 0, all(12, 5));
        x.by(3);
        x.stair(0, 11);
        due("40: a STEP less", x, 0, false, 0, all(11, 5));
        x.height(0, 11, 1);
        due("40: a HEIGHT of 3", x, 0, false, 2, 5, 5, 5, 5, 5, 5, 5, 5, 5, 5, 3);
    }

    private static void alikeLowest() {
        OneStepMore x = new OneStepMore();
        x.person(0, 0, 0);
        Check.text(x, "trips height=last;");
        Check.text(x, "trips height+last#10;");
        Check.text(x, "trips height-last>2;");
        x.by(0);
        x.stair(0, 1);
        due("40: 4 or 6", x, 0, false, 1, 4);
        due("40: FEW, any but 5", x, 0, true, 1, 1);
        x.stair(0, 2);
        due("40: STEP 1 first", x, 0, false, 1, 4, 5);
        due("40: FEW, STEP 1 first", x, 0, true, 1, 1, 5);
        x.stair(0, 3);
        due("40: three", x, 0, false, 2, 4, 5, 4);
        due("40: FEW, three", x, 0, true, 2, 1, 2, 5);
        x.by(1);
        heights(x, 1, 4, 6, 5, 9);
        due("40: each by the one ahead", x, 1, false, 6, 5, 5, 5, 5);
        x.by(2);
        heights(x, 2, 9, 9, 9);
        due("40: the least work", x, 2, false, 2, 7, 9, 9);
        due("40: the fewest STEPS", x, 2, true, 1, 7, 9, 9);
        heights(x, 2, 5, 9, 9);
        due("40: STEP 1 or 2", x, 2, false, 2, 5, 7, 9);
        due("40: STEP 1 or 2, FEW", x, 2, true, 1, 5, 7, 9);
        x.by(-1);
        heights(x, 3, 8, 8, 5, 2);
        due("40: unlike by 3", x, 3, false, 3, 7, 7, 5, 3);
        due("40: unlike by 3, FEW", x, 3, true, 3, 3, 1, 1, 2);
    }

    private static void alikeAsked() {
        OneStepMore x = new OneStepMore();
        x.stair(0, 1);
        x.stair(3, 14);
        for (boolean few : new boolean[] {false, true}) {
            for (int house : new int[] {LOWEST, -1, 4, HIGHEST}) {
                c.is("40: house " + house, x.alike(house, -1, few), -1);
            }
            for (int step : new int[] {LOWEST, -2, 0, 15, HIGHEST}) {
                c.is("40: step " + step, x.alike(3, step, few), -1);
            }
            c.is("40: STEP 14 of 14", x.alike(3, 14, few), 5);
            c.is("40: STEP 1 of 1", x.alike(0, 1, few), 5);
            c.is("40: STEP 2 of 1", x.alike(0, 2, few), -1);
        }
    }

    private static void some(OneStepMore x) {
        x.person(1, 2, 3);
        x.person(0, 1, 10);
        x.stair(0, 4);
        x.height(0, 2, 8);
        x.mark(0, 3, true);
        x.rail(0, 2);
        Check.text(x, "jar 7;trips height>7;");
        x.by(0);
        x.seen(0, 0, 2, true);
        x.begin(0, 0, 0);
        x.step();
        x.stop();
        x.night(2);
        x.begin(1, 1, 1);
        x.step();
    }

    private static void imageKeepsAll() {
        OneStepMore x = new OneStepMore();
        some(x);
        c.is("41: NIGHT", x.image(), 2);
        String ahead = Look.plain(x);
        x.stair(0, 9);
        x.stair(3, 9);
        x.height(1, 1, 2);
        x.mark(1, 1, true);
        x.rail(1, 1);
        x.person(3, 3, 3);
        Check.text(x, "fall 3;");
        x.by(-1);
        x.seen(1, 0, 2, true);
        x.week(5, 5);
        x.begin(2, 2, 2);
        x.stop();
        x.begin(2, 2, 2);
        x.seed(17);
        c.is("41: another", Look.plain(x).equals(ahead), false);
        c.is("42: NIGHT", x.back(), 2);
        c.is("42: all is so again", Look.plain(x).equals(ahead), true);
        c.is("42: acts", x.undo(), 6);
        Check.text(x, "fall;");
        Check.tape(x, "fall 7");
        c.is("42: BACK", x.back(), 2);
        c.is("42: the tape is as it is", x.about(8), 6);
        c.is("42: the FAULT is as it is", x.fault(0), 1);
        c.is("42: its place", x.fault(1), 4);
        x.image();
        x.end(0);
        Check.text(x, "fall 10000;");
        x.back();
        c.is("42: no byte comes back", x.about(8), 0);
        c.is("42: no FAULT either", x.fault(0), 2);
    }

    /** Each of the numbers is unlike each other, in THE IMAGE and behind it. */
    private static void imageOfUnlikeNumbers() {
        OneStepMore x = new OneStepMore();
        for (int i = 0; i < 4; i++) {
            x.person(i, 1, 9 - i);
        }
        x.rail(1, 2);
        x.rail(2, 3);
        x.night(7);
        Check.text(x, "jar 1;");
        Check.text(x, "jar 2;");
        Check.text(x, "jar 3;");
        for (int i = 0; i < 5; i++) {
            x.seen(i % 4, i % 3, 1 + i, i == 4);
        }
        x.by(2);
        x.seed(70);
        for (int i = 0; i < 2; i++) {
            x.begin(i, 1, 0);
            x.stop();
        }
        int drawn = x.about(2);
        c.is("41: NIGHT", x.image(), 7);
        x.person(5, 5, 5);
        x.person(6, 4, 4);
        x.night(3);
        c.is("10: with 5 SEEN", Check.text(x, "jar 4;"), 3);
        x.seen(-1, 0, 0, true);
        x.by(0);
        x.week(1, 1);
        x.stair(0, 2);
        x.stair(3, 3);
        Check.tape(x, "jar");
        c.is("42: NIGHT", x.back(), 7);
        int[] due = {4, 7, drawn, 3, 2, 11, 5, 6, 3};
        for (int i = 0; i < due.length; i++) {
            c.is("42: about " + i, x.about(i), due[i]);
        }
        for (int i = 0; i < 4; i++) {
            c.is("42: NONE of " + i, x.about(10 + i), i);
            c.is("42: TWICE of " + i, x.about(20 + i), 1);
            c.is("42: LANDING of " + i, x.about(30 + i), 9 - i);
        }
        c.is("42: PERSON 4 isn't told", x.about(14), -2);
        c.is("42: TEXT 3 isn't there", x.by(3), false);
        c.is("42: nor PLAYED", x.played(3), -2);
        c.is("42: TEXT 2 is", x.says(0, 0, 0, 1, 3), 3);
        c.is("42: lines", x.book(-1, 0), 2);
        x.end(0);
        c.is("10: the next number", Check.text(x, "jar 5;"), 3);
        c.is("6: the next number", x.person(8, 1, 1), 4);
        c.is("43: its own", x.about(14), 8);
        x.by(3);
        c.is("23: its own", x.says(4, 0, 0, 1, 3), 5);
    }

    private static void imageStays() {
        OneStepMore x = new OneStepMore();
        c.is("42: THE IMAGE of a new object", x.back(), 0);
        c.is("42: no act", x.about(5), 0);
        for (int i = 0; i < 10; i++) {
            x.night(99);
        }
        x.night(9);
        c.is("41: NIGHT 999", x.image(), 999);
        c.is("41: acts stay", x.about(5), 30);
        for (int i = 0; i < 30; i++) {
            x.undo();
        }
        c.is("42: BACK", x.back(), 999);
        c.is("42: 30 acts again", x.about(5), 30);
        x.undo();
        c.is("42: it stays", x.back(), 999);
        c.is("42: BACK of BACK", x.back(), 999);
        for (int i = 29; i >= 0; i--) {
            c.is("42: each act as it was", x.undo(), i);
            c.is("42: its NIGHT", x.about(1), 969 + i);
        }
        c.is("41: anew", x.image(), 969);
        c.is("42: that one", x.back(), 969);
        c.is("42: without acts", x.undo(), -1);
    }
}
