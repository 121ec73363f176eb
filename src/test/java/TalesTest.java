/** Promises 35 to 42: THE BOOK's TALES, who TRIPS, ALIKE and FEW, and an image. */
public final class TalesTest {
    private static final Check c = new Check();

    public static void main(String[] args) {
        tally();
        legs();
        trippers();
        seen();
        laws();
        alike();
        alikeNone();
        image();
        imageOfAll();
        imageOfRows();
        c.end("TalesTest");
    }

    private static void tally() {
        OneStepMore x = new OneStepMore();
        x.person(0, 0, 0);
        x.person(0, 0, 0);
        x.stair(0, 1);
        x.height(0, 1, 9);
        x.begin(0, 0, 0);
        x.step();
        x.step();
        x.begin(1, 0, 0);
        x.toe();
        x.toe();
        x.begin(0, 0, 0);
        x.stop();
        x.begin(0, 0, 0);
        x.toe();
        x.stop();
        int[] due = {3, 1, 1, 1, 2 + 0 + 3, 14 + 9};
        int[] other = {1, 0, 0, 0, 6, 0};
        for (int i = 0; i < 6; i++) {
            c.is("35: " + i, x.tally(0, i), due[i]);
            c.is("35: the other's " + i, x.tally(1, i), other[i]);
        }
        c.is("35: what 6", x.tally(0, 6), -1);
        c.is("35: what -1", x.tally(0, -1), -1);
        c.is("35: person 2", x.tally(2, 0), -1);
        c.is("35: person -1", x.tally(-1, 0), -1);
    }

    private static void down(OneStepMore x, int person, int house) {
        x.begin(person, house, 0);
        x.stop();
    }

    private static void legs() {
        OneStepMore x = new OneStepMore();
        x.person(0, 0, 0);
        x.person(0, 0, 0);
        for (int h = 0; h < 4; h++) {
            x.stair(h, h + 3);
        }
        c.is("36: none", x.legs(0, -1), -1);
        c.is("36: astray without", x.legs(0, 0), -100);
        down(x, 0, 2);
        down(x, 1, 1);
        down(x, 0, 1);
        c.is("36: of like ones the latest", x.legs(0, -1), 4);
        down(x, 0, 2);
        c.is("36: most often", x.legs(0, -1), 5);
        down(x, 0, 3);
        down(x, 0, 3);
        c.is("36: as often, later", x.legs(0, -1), 6);
        down(x, 0, 1);
        c.is("36: three alike, the latest line's", x.legs(0, -1), 4);
        c.is("36: astray", x.legs(0, 3), -2);
        c.is("36: the other's", x.legs(1, -1), 4);
        x.stair(1, 9);
        c.is("36: n as it is now", x.legs(0, 0), 6);
        c.is("36: house 4", x.legs(0, 4), -100);
        c.is("36: house -2", x.legs(0, -2), -100);
        c.is("36: person 2", x.legs(2, -1), -100);
        c.is("36: person -1", x.legs(-1, -1), -100);
    }

    private static void trippers() {
        OneStepMore x = new OneStepMore();
        c.is("37: no people", x.trippers(0, 1, 0), 0);
        for (int i = 0; i < 6; i++) {
            x.person(0, 0, 0);
        }
        x.height(0, 2, 2);
        c.is("37: all", x.trippers(0, 2, 0), 63);
        c.is("37: none", x.trippers(0, 1, 0), 0);
        c.is("37: step 0", x.trippers(0, 0, 0), -1);
        c.is("37: step 13", x.trippers(0, 13, 0), -1);
        c.is("37: house 4", x.trippers(4, 1, 0), -1);
        c.is("37: kind 4", x.trippers(0, 1, 4), -1);
        c.is("37: kind -1", x.trippers(0, 1, -1), -1);
        x.by(Check.text(x, "trips who=2 or who=5 and drunk=1 or loaded=1 and who<2;"));
        c.is("37: sober", x.trippers(0, 1, 0), 4);
        c.is("37: loaded", x.trippers(0, 1, 1), 7);
        c.is("37: drunk", x.trippers(0, 1, 2), 36);
        c.is("37: both", x.trippers(0, 1, 3), 39);
    }

    private static void seen() {
        OneStepMore x = new OneStepMore();
        c.is("38: nobody told", x.seen(0, 0, 1, true), -2);
        x.person(0, 0, 0);
        c.is("38: house 4", x.seen(0, 4, 1, true), -2);
        c.is("38: house -1", x.seen(0, -1, 1, true), -2);
        c.is("38: step 0", x.seen(0, 0, 0, true), -2);
        c.is("38: step 13", x.seen(0, 0, 13, true), -2);
        c.is("38: person -2", x.seen(-2, 0, 1, true), -2);
        for (int i = 1; i <= 12; i++) {
            c.is("38: how many", x.seen(0, 0, i, true), i);
        }
        c.is("38: the 13th", x.seen(0, 0, 1, true), -2);
        c.is("38: 12", x.about(6), 12);
        c.is("38: none any more", x.seen(-1, 9, 99, false), 0);
        c.is("38: again", x.seen(0, 0, 1, false), 1);
        c.is("38: no act", x.about(5), 0);
    }

    private static void laws() {
        OneStepMore x = new OneStepMore();
        x.person(0, 0, 0);
        x.person(0, 0, 0);
        c.is("39: no texts", x.laws(), 0);
        Check.text(x, "jar 1;");
        Check.text(x, "trips nth=2;");
        Check.text(x, "trips who=1 or height>6;");
        Check.text(x, "trips loaded=1 or drunk=1;");
        c.is("39: nothing seen", x.laws(), 15);
        x.by(3);
        x.height(0, 2, 8);
        x.seen(0, 0, 2, true);
        c.is("39: one seen", x.laws(), 7);
        x.seen(0, 0, 3, false);
        c.is("39: without trips", x.laws(), 6);
        x.seen(1, 0, 1, true);
        c.is("39: by who", x.laws(), 4);
        x.height(0, 2, 6);
        c.is("39: heights as they are now", x.laws(), 0);
        x.stair(0, 1);
        c.is("39: steps that are no more", x.laws(), 4);
        x.stair(0, 3);
        c.is("39: and are again", x.laws(), 0);
        c.is("39: the text that rules stays", x.about(4), 3);
        x.seen(-1, 0, 0, true);
        x.seen(0, 1, 1, true);
        x.seen(0, 1, 1, false);
        c.is("39: both can't be", x.laws(), 0);
    }

    private static void heights(OneStepMore x, int house, int... heights) {
        x.stair(house, heights.length);
        for (int i = 0; i < heights.length; i++) {
            x.height(house, i + 1, heights[i]);
        }
    }

    private static void due(String call, OneStepMore x, int house, boolean few, int work, int... heights) {
        c.is(call, x.alike(house, -1, few), work);
        for (int i = 0; i < heights.length; i++) {
            c.is(call + ", step " + (i + 1), x.alike(house, i + 1, few), heights[i]);
        }
    }

    private static void alike() {
        OneStepMore x = new OneStepMore();
        heights(x, 0, 9, 1, 9);
        due("40: nobody told", x, 0, false, 0, 9, 1, 9);
        due("40: nobody told, few", x, 0, true, 0, 9, 1, 9);
        x.person(0, 0, 0);
        heights(x, 1, 8, 8, 8);
        due("40: least", x, 1, false, 1, 7, 8, 8);
        due("40: fewest", x, 1, true, 1, 6, 8, 8);
        heights(x, 2, 9, 1);
        due("40: of like ones the lowest", x, 2, false, 6, 3, 1);
        due("40: fewest, the lowest", x, 2, true, 1, 3, 1);
        x.by(Check.text(x, "trips height=last or height=nth+3;"));
        heights(x, 3, 5, 5, 6);
        due("40: by a law", x, 3, false, 3, 6, 4, 5);
        due("40: by a law, few", x, 3, true, 3, 1, 2, 1);
        x.height(3, 3, 7);
        due("40: by a law, like ones", x, 3, false, 2, 6, 4, 7);
        due("40: by a law, few, like ones", x, 3, true, 2, 1, 2, 7);
        c.is("40: step 0", x.alike(3, 0, false), -1);
        c.is("40: step 4", x.alike(3, 4, false), -1);
        c.is("40: step -2", x.alike(3, -2, false), -1);
        c.is("40: house 4", x.alike(4, -1, false), -1);
        c.is("40: house -1", x.alike(-1, -1, false), -1);
        c.is("40: heights stay", x.house(3, 11), 5);
    }

    private static void alikeNone() {
        OneStepMore x = new OneStepMore();
        x.person(0, 0, 0);
        x.person(0, 0, 0);
        x.stair(0, 3);
        x.by(Check.text(x, "trips nth=3;"));
        c.is("40: none", x.alike(0, -1, false), -1);
        c.is("40: none, few", x.alike(0, -1, true), -1);
        c.is("40: no height then", x.alike(0, 1, false), -1);
        x.by(Check.text(x, "trips who=0 and height#7 or who=1 and last>5 and nth>2;"));
        c.is("40: two can't both be", x.alike(0, -1, false), -1);
        x.stair(0, 2);
        due("40: two can", x, 0, false, 4, 7, 7);
        x.by(Check.text(x, "trips loaded=1 or drunk=1 or rail=1 and height<8;"));
        due("40: of kind 0", x, 0, false, 0, 5, 5);
        x.rail(0, 1);
        due("40: a rail", x, 0, false, 3, 8, 5);
    }

    private static void image() {
        OneStepMore x = new OneStepMore();
        x.person(0, 0, 0);
        x.night(4);
        c.is("41: night", x.image(), 4);
        x.night(2);
        c.is("42: back", x.back(), 4);
        x.night(3);
        c.is("42: it stays", x.back(), 4);
        c.is("42: acts too", x.about(5), 4);
        x.undo();
        c.is("42: taken back", x.about(1), 3);
        c.is("41: anew", x.image(), 3);
        x.back();
        c.is("42: acts then", x.about(5), 3);
    }

    private static void imageOfAll() {
        OneStepMore x = new OneStepMore();
        x.person(1, 2, 3);
        x.stair(0, 4);
        x.height(0, 2, 7);
        x.mark(0, 3, true);
        x.rail(0, 2);
        Check.text(x, "jar 7;");
        x.by(0);
        x.seen(0, 0, 1, true);
        x.begin(0, 0, 0);
        x.stop();
        x.begin(0, 0, 3);
        x.step();
        x.seed(5);
        Check.tape(x, "jar 1;");
        x.image();
        x.text();
        Check.text(x, "fall nth;");
        Check.tape(x, "step 1");
        x.person(0, 0, 0);
        x.stop();
        x.stair(0, 9);
        x.stair(1, 9);
        x.by(-1);
        x.seen(-1, 0, 0, true);
        x.week(7, 7);
        x.back();
        c.is("42: people", x.about(0), 1);
        c.is("42: X", x.about(2), 28);
        c.is("42: texts", x.about(3), 1);
        c.is("42: the text", x.about(4), 0);
        c.is("42: acts", x.about(5), 4);
        c.is("42: seen", x.about(6), 1);
        c.is("42: told", x.about(7), 1);
        c.is("42: the tape is as it was", x.about(8), 6);
        c.is("42: the latest fault too", x.fault(0), 5);
        c.is("42: its place", x.fault(1), 5);
        c.is("42: n", x.house(0, 0), 4);
        c.is("42: height", x.house(0, 12), 7);
        c.is("42: marks", x.house(0, 1), 8);
        c.is("42: rail", x.house(0, 2), 2);
        c.is("42: book", x.book(-1, 0), 1);
        c.is("42: on the way", x.way(3), 1);
        c.is("42: kind", x.way(2), 3);
        c.is("42: what laws say", x.says(0, 0, 0, 1, 3), 7);
        c.is("42: what is taken back", x.undo(), 3);
        c.is("42: at the landing", x.way(3), 0);
    }

    /** What is written over behind an image is there again. */
    private static void imageOfRows() {
        OneStepMore x = new OneStepMore();
        x.person(0, 0, 0);
        x.person(0, 0, 0);
        Check.text(x, "trips nth=2;");
        x.seen(0, 0, 2, true);
        x.night(1);
        x.stair(3, 2);
        down(x, 0, 3);
        x.begin(1, 2, 3);
        x.image();
        x.seen(-1, 0, 0, true);
        x.seen(1, 0, 1, true);
        for (int i = 0; i < 4; i++) {
            x.undo();
        }
        x.night(40);
        down(x, 1, 0);
        x.back();
        c.is("42: what was seen", x.laws(), 1);
        c.is("42: the line's person", x.book(0, 0), 0);
        c.is("42: the line's house", x.book(0, 1), 3);
        c.is("42: the line's night", x.book(0, 2), 1);
        c.is("42: who is on the way", x.way(0), 1);
        c.is("42: acts", x.undo(), 3);
        x.undo();
        c.is("42: the act's house", x.way(1), 3);
        c.is("42: the act's night", x.about(1), 1);
        x.undo();
        x.undo();
        c.is("42: the first act's night", x.about(1), 0);
    }
}
