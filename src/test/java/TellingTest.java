/** Promises 1 to 7 and 22, 43: a new object, and what is told by hand. */
public final class TellingTest {
    private static final Check c = new Check();

    public static void main(String[] args) {
        anew();
        stair();
        height();
        mark();
        rail();
        person();
        seed();
        house();
        about();
        c.end("TellingTest");
    }

    private static void anew() {
        OneStepMore x = new OneStepMore();
        c.is("1: NONE", OneStepMore.NONE, -1);
        for (int h = 0; h < 4; h++) {
            c.is("1: n", x.house(h, 0), 12);
            c.is("1: marks", x.house(h, 1), 0);
            c.is("1: rail", x.house(h, 2), 0);
            c.is("1: height", x.house(h, 22), 5);
        }
        c.is("1: people", x.about(0), 0);
        c.is("1: night", x.about(1), 0);
        c.is("1: X", x.about(2), 13);
        c.is("1: nobody", x.way(0), -1);
        x.person(0, 0, 0);
        x.night(3);
        x.stair(2, 4);
        c.is("1: back to the new one", x.back(), 0);
        c.is("1: back, people", x.about(0), 0);
        c.is("1: back, n", x.house(2, 0), 12);
        c.is("1: back, told", x.about(7), 0);
        c.is("1: back, acts", x.about(5), 0);
    }

    private static void stair() {
        OneStepMore x = new OneStepMore();
        c.is("2: 14", x.stair(3, 14), true);
        c.is("2: n", x.house(3, 0), 14);
        c.is("2: 1", x.stair(3, 1), true);
        c.is("2: 0", x.stair(3, 0), false);
        c.is("2: 15", x.stair(3, 15), false);
        c.is("2: house 4", x.stair(4, 5), false);
        c.is("2: house -1", x.stair(-1, 5), false);
        c.is("2: told", x.about(7), 8);
        x.stair(0, 4);
        x.height(0, 4, 9);
        x.mark(0, 4, true);
        x.rail(0, 3);
        x.stair(0, 3);
        x.stair(0, 4);
        c.is("2: heights as at first", x.house(0, 14), 5);
        c.is("2: marks as at first", x.house(0, 1), 0);
        c.is("2: rail as at first", x.house(0, 2), 0);
        x.person(0, 0, 0);
        x.begin(0, 0, 0);
        c.is("2: while one is on the way in it", x.stair(0, 4), false);
        c.is("2: while one is elsewhere", x.stair(1, 4), true);
        x.stop();
        c.is("2: nobody any more", x.stair(0, 5), true);
    }

    private static void height() {
        OneStepMore x = new OneStepMore();
        x.stair(1, 3);
        c.is("3: 9", x.height(1, 3, 9), true);
        c.is("3: it is so", x.house(1, 13), 9);
        c.is("3: 1", x.height(1, 1, 1), true);
        c.is("3: the same", x.height(1, 1, 1), true);
        c.is("3: 0", x.height(1, 1, 0), false);
        c.is("3: 10", x.height(1, 1, 10), false);
        c.is("3: step 0", x.height(1, 0, 5), false);
        c.is("3: step 4", x.height(1, 4, 5), false);
        c.is("3: house 4", x.height(4, 1, 5), false);
        c.is("3: not told by wrong ones", x.about(7), 2);
        c.is("3: step 12", x.height(2, 12, 5), true);
        c.is("3: told", x.about(7), 6);
    }

    private static void mark() {
        OneStepMore x = new OneStepMore();
        c.is("4: none there", x.mark(2, 1, false), false);
        c.is("4: nothing told", x.about(7), 0);
        c.is("4: one", x.mark(2, 1, true), true);
        c.is("4: told", x.about(7), 4);
        c.is("4: already", x.mark(2, 1, true), false);
        c.is("4: two", x.mark(2, 12, true), true);
        c.is("4: bits", x.house(2, 1), 2 + 4096);
        c.is("4: away", x.mark(2, 1, false), true);
        c.is("4: away already", x.mark(2, 1, false), false);
        c.is("4: bits then", x.house(2, 1), 4096);
        c.is("4: step 0", x.mark(2, 0, true), false);
        c.is("4: step 13", x.mark(2, 13, true), false);
        c.is("4: house -1", x.mark(-1, 1, true), false);
        c.is("4: house 4", x.mark(4, 1, true), false);
    }

    private static void rail() {
        OneStepMore x = new OneStepMore();
        c.is("5: none", x.rail(0, 0), true);
        c.is("5: told", x.about(7), 1);
        c.is("5: all", x.rail(0, 12), true);
        c.is("5: it is so", x.house(0, 2), 12);
        c.is("5: again", x.rail(0, 12), true);
        c.is("5: 13", x.rail(0, 13), false);
        c.is("5: -1", x.rail(0, -1), false);
        c.is("5: house 4", x.rail(4, 1), false);
        c.is("5: it stays", x.house(0, 2), 12);
    }

    private static void person() {
        OneStepMore x = new OneStepMore();
        c.is("6: together 11", x.person(6, 5, 0), -1);
        c.is("6: none 11", x.person(11, 0, 0), -1);
        c.is("6: twice 11", x.person(0, 11, 0), -1);
        c.is("6: landing 11", x.person(0, 0, 11), -1);
        c.is("6: none -1", x.person(-1, 5, 0), -1);
        c.is("6: twice -1", x.person(5, -1, 0), -1);
        c.is("6: landing -1", x.person(0, 0, -1), -1);
        c.is("6: together past all", x.person(Integer.MAX_VALUE, Integer.MAX_VALUE, 0), -1);
        c.is("6: first", x.person(6, 4, 10), 0);
        for (int i = 1; i < 6; i++) {
            c.is("6: next", x.person(i, 0, i), i);
        }
        c.is("6: the seventh", x.person(0, 0, 0), -1);
        c.is("6: how many", x.about(0), 6);
    }

    private static void seed() {
        OneStepMore x = new OneStepMore();
        c.is("7: 9999", x.seed(9999), true);
        c.is("7: X", x.about(2), 30010);
        c.is("7: 10000", x.seed(10000), false);
        c.is("7: -1", x.seed(-1), false);
        c.is("7: X stays", x.about(2), 30010);
        c.is("7: 0", x.seed(0), true);
        c.is("7: X then", x.about(2), 13);
        c.is("7: no act", x.about(5), 0);
    }

    private static void house() {
        OneStepMore x = new OneStepMore();
        c.is("22: others", x.house(0, 3), -1);
        c.is("22: step 0", x.house(0, 10), -1);
        c.is("22: step 1", x.house(0, 11), 5);
        c.is("22: step 13", x.house(0, 23), -1);
        c.is("22: -1", x.house(0, -1), -1);
        c.is("22: lowest", x.house(0, Integer.MIN_VALUE), -1);
        c.is("22: house 4", x.house(4, 0), -1);
        c.is("22: house -1", x.house(-1, 0), -1);
    }

    private static void about() {
        OneStepMore x = new OneStepMore();
        x.person(3, 4, 9);
        x.person(1, 2, 8);
        c.is("43: 10", x.about(10), 3);
        c.is("43: 20", x.about(20), 4);
        c.is("43: 30", x.about(30), 9);
        c.is("43: 11", x.about(11), 1);
        c.is("43: 21", x.about(21), 2);
        c.is("43: 31", x.about(31), 8);
        c.is("43: 12", x.about(12), -2);
        c.is("43: 9", x.about(9), -2);
        c.is("43: 40", x.about(40), -2);
        c.is("43: -1", x.about(-1), -2);
        c.is("43: -10", x.about(-10), -2);
        c.is("43: texts", x.about(3), 0);
        c.is("43: no text", x.about(4), -1);
        Check.tape(x, "jar 1;");
        c.is("43: bytes", x.about(8), 6);
        x.text();
        x.by(0);
        c.is("43: no bytes", x.about(8), 0);
        c.is("43: one text", x.about(3), 1);
        c.is("43: the text", x.about(4), 0);
        x.seen(0, 0, 1, true);
        c.is("43: seen", x.about(6), 1);
        x.night(2);
        c.is("43: night", x.about(1), 2);
        c.is("43: acts", x.about(5), 2);
        x.rail(0, 1);
        x.rail(3, 1);
        c.is("43: told", x.about(7), 9);
        x.seed(1);
        c.is("43: X", x.about(2), 16);
    }
}
