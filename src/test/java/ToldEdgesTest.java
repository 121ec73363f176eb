/** The edges of what is told, sentence by sentence: 'Terms' and promises 1 to 7, 22, 43. What is refused: RefusedTest. */
public final class ToldEdgesTest {
    private static final Check c = new Check();

    public static void main(String[] args) {
        atFirst();
        imageAtFirst();
        stepsOfEachHouse();
        stairMakesAllElseAsAtFirst();
        stairWhileOnTheWay();
        heights();
        marks();
        rails();
        people();
        sixPeople();
        seeds();
        houseAsked();
        aboutAsked();
        toldHouses();
        c.end("ToldEdgesTest");
    }

    private static void atFirst() {
        OneStepMore x = new OneStepMore();
        for (int h = 0; h < 4; h++) {
            c.is("1: at first 12 STEPS", x.house(h, 0), 12);
            c.is("1: at first no MARKS", x.house(h, 1), 0);
            c.is("1: no RAIL at first", x.house(h, 2), 0);
            for (int step = 1; step <= 12; step++) {
                c.is("1: at first HEIGHT 5", x.house(h, 10 + step), 5);
            }
            c.is("1: no STEP 13", x.house(h, 23), -1);
        }
        int[] about = {0, 0, 13, 0, -1, 0, 0, 0, 0};
        for (int i = 0; i < about.length; i++) {
            c.is("1: about " + i, x.about(i), about[i]);
        }
        for (int i = 0; i < 8; i++) {
            c.is("1: nobody on the way", x.way(i), -1);
        }
        c.is("1: an empty book", x.book(-1, 0), 0);
        c.is("1: no line", x.book(0, 0), -2);
        c.is("11: ahead of any", x.fault(0), -1);
        c.is("11: ahead of any, place", x.fault(1), -1);
        c.is("20: no acts", x.undo(), -1);
        c.is("39: no texts", x.laws(), 0);
        c.is("12: no text", x.by(0), false);
        c.is("18: no text", x.played(0), -2);
    }

    private static void imageAtFirst() {
        OneStepMore x = new OneStepMore();
        String first = Look.plain(x);
        x.person(1, 2, 3);
        x.stair(0, 3);
        x.height(1, 12, 9);
        x.mark(2, 12, true);
        x.rail(3, 12);
        Check.text(x, "jar 1;");
        x.by(0);
        x.seen(0, 0, 3, true);
        x.week(9, 9);
        x.begin(0, 0, 3);
        c.is("1: it is another", Look.plain(x).equals(first), false);
        c.is("1: THE IMAGE is this", x.back(), 0);
        c.is("11: the latest FAULT isn't in it", x.fault(0), 0);
        c.is("1: all as at first but that", Look.plain(x).equals(first.replace("fault: -1 -1", "fault: 0 -1")), true);
        c.is("1: no acts", x.undo(), -1);
    }

    private static void stepsOfEachHouse() {
        for (int h = 0; h < 4; h++) {
            OneStepMore x = new OneStepMore();
            for (int n = 1; n <= 14; n++) {
                c.is("2: house " + h + " has " + n, x.stair(h, n), true);
                c.is("2: n", x.house(h, 0), n);
                c.is("2: the last STEP", x.house(h, 10 + n), 5);
                c.is("2: no STEP behind it", x.house(h, 11 + n), -1);
            }
            c.is("2: 15", x.stair(h, 15), false);
            c.is("2: 14 still", x.house(h, 0), 14);
            c.is("2: 1", x.stair(h, 1), true);
            c.is("2: 0", x.stair(h, 0), false);
            c.is("2: 1 still", x.house(h, 0), 1);
            for (int other = 0; other < 4; other++) {
                c.is("2: no other house", x.house(other, 0), other == h ? 1 : 12);
            }
        }
    }

    private static void stairMakesAllElseAsAtFirst() {
        for (int n = 1; n <= 14; n++) {
            OneStepMore x = new OneStepMore();
            x.stair(2, 14);
            for (int step = 1; step <= 14; step++) {
                x.height(2, step, 9);
                x.mark(2, step, true);
            }
            x.rail(2, 14);
            c.is("2: all MARKS", x.house(2, 1), 32766);
            c.is("2: told anew", x.stair(2, n), true);
            c.is("2: no MARKS then", x.house(2, 1), 0);
            c.is("2: no RAIL then", x.house(2, 2), 0);
            for (int step = 1; step <= n; step++) {
                c.is("2: HEIGHT then", x.house(2, 10 + step), 5);
            }
            x.stair(2, 14);
            for (int step = 1; step <= 14; step++) {
                c.is("2: HEIGHT of STEPS that were away", x.house(2, 10 + step), 5);
            }
        }
    }

    private static void stairWhileOnTheWay() {
        OneStepMore x = new OneStepMore();
        x.person(0, 0, 0);
        x.stair(0, 2);
        c.is("2: told", x.stair(0, 2), true);
        x.begin(0, 0, 0);
        c.is("2: at the LANDING of it", x.stair(0, 2), false);
        x.step();
        c.is("2: on STEP 1 of it", x.stair(0, 14), false);
        x.toe();
        c.is("2: on STEP n of it", x.stair(0, 1), false);
        for (int h = 1; h < 4; h++) {
            c.is("2: in another", x.stair(h, 3), true);
        }
        c.is("2: heights may be told", x.height(0, 2, 6), true);
        x.toe();
        c.is("2: DOWN", x.stair(0, 3), true);
        c.is("2: it is so", x.house(0, 0), 3);
        x.undo();
        c.is("2: on the way again", x.stair(0, 2), false);
        x.begin(0, 3, 0);
        c.is("2: gone elsewhere", x.stair(0, 2), true);
        c.is("2: there now", x.stair(3, 2), false);
        x.stop();
        c.is("2: STOPPED", x.stair(3, 2), true);
        x.begin(0, 3, 0);
        x.week(1, 1);
        c.is("2: gone by A WEEK", x.stair(3, 2), true);
        x.begin(0, 3, 0);
        x.back();
        c.is("2: nobody behind BACK", x.stair(3, 2), true);
    }

    private static void heights() {
        OneStepMore x = new OneStepMore();
        for (int h = 0; h < 4; h += 3) {
            x.stair(h, 14);
            for (int step = 1; step <= 14; step += 13) {
                for (int height = 1; height <= 9; height++) {
                    c.is("3: " + height, x.height(h, step, height), true);
                    c.is("3: it is so", x.house(h, 10 + step), height);
                }
                c.is("3: again", x.height(h, step, 9), true);
                c.is("3: 10", x.height(h, step, 10), false);
                c.is("3: 0", x.height(h, step, 0), false);
                c.is("3: 9 still", x.house(h, 10 + step), 9);
            }
            c.is("3: the STEP behind the first", x.house(h, 12), 5);
            c.is("3: the STEP ahead of the last", x.house(h, 23), 5);
            c.is("3: STEP 0", x.height(h, 0, 6), false);
            c.is("3: STEP 15", x.height(h, 15, 6), false);
        }
        x.stair(1, 1);
        c.is("3: STEP 1 of 1", x.height(1, 1, 2), true);
        c.is("3: STEP 2 of 1", x.height(1, 2, 2), false);
        x.person(0, 0, 0);
        x.begin(0, 1, 0);
        c.is("3: while one is on the way in it", x.height(1, 1, 3), true);
        x.by(Check.text(x, "jar 1;none last;"));
        c.is("3: the LANDING's is 5", x.says(0, 1, 0, 1, 0), 5);
    }

    private static void marks() {
        OneStepMore x = new OneStepMore();
        for (int h = 0; h < 4; h += 3) {
            x.stair(h, 14);
            int bits = 0;
            for (int step = 14; step >= 1; step--) {
                bits |= 1 << step;
                c.is("4: a MARK at " + step, x.mark(h, step, true), true);
                c.is("4: bit 1 for STEP 1, ..", x.house(h, 1), bits);
                c.is("4: it is so already", x.mark(h, step, true), false);
                c.is("4: it stays", x.house(h, 1), bits);
            }
            c.is("4: STEP 0", x.mark(h, 0, true), false);
            c.is("4: STEP 15", x.mark(h, 15, true), false);
            c.is("4: none at STEP 0", x.mark(h, 0, false), false);
            c.is("4: none at STEP 15", x.mark(h, 15, false), false);
            c.is("4: all of them still", x.house(h, 1), 32766);
            for (int step = 1; step <= 14; step++) {
                bits &= ~(1 << step);
                c.is("4: none any more at " + step, x.mark(h, step, false), true);
                c.is("4: bits then", x.house(h, 1), bits);
                c.is("4: none already", x.mark(h, step, false), false);
            }
        }
    }

    private static void rails() {
        OneStepMore x = new OneStepMore();
        x.person(0, 0, 0);
        x.by(Check.text(x, "trips rail=1;"));
        for (int h = 0; h < 4; h += 3) {
            x.stair(h, 14);
            for (int to : new int[] {14, 13, 1, 0}) {
                c.is("5: as far as " + to, x.rail(h, to), true);
                c.is("5: it is so", x.house(h, 2), to);
                c.is("5: the same again", x.rail(h, to), true);
                if (to > 0) {
                    c.is("5: STEP " + to + " has it", x.says(0, h, 0, to, 2), 1);
                }
                if (to < 14) {
                    c.is("5: the STEP behind hasn't", x.says(0, h, 0, to + 1, 2), 0);
                }
            }
            x.rail(h, 7);
            c.is("5: -1", x.rail(h, -1), false);
            c.is("5: 15", x.rail(h, 15), false);
            c.is("5: 7 still", x.house(h, 2), 7);
        }
        x.stair(1, 1);
        c.is("5: 1 of 1", x.rail(1, 1), true);
        c.is("5: 2 of 1", x.rail(1, 2), false);
        for (int to = 0; to <= 14; to++) {
            x.rail(3, to);
            for (int step = 1; step <= 14; step += 3) {
                c.is("5: as far as " + to + ", STEP " + step, x.says(0, 3, 0, step, 2), step <= to ? 1 : 0);
            }
        }
    }

    private static void people() {
        int[][] can = {
            {0, 0, 0}, {10, 0, 0}, {0, 10, 0}, {0, 0, 10}, {10, 0, 10}, {0, 10, 10}, {5, 5, 5}, {9, 1, 0}, {1, 9, 10}};
        for (int[] p : can) {
            OneStepMore x = new OneStepMore();
            c.is("6: the number", x.person(p[0], p[1], p[2]), 0);
            c.is("6: NONE", x.about(10), p[0]);
            c.is("6: TWICE", x.about(20), p[1]);
            c.is("6: LANDING", x.about(30), p[2]);
        }
        OneStepMore x = new OneStepMore();
        for (int none = -1; none <= 11; none++) {
            for (int twice = -1; twice <= 11; twice++) {
                boolean is = none >= 0 && twice >= 0 && none + twice <= 10;
                c.is("6: " + none + " and " + twice, x.person(none, twice, 10), is ? 0 : -1);
                if (is) {
                    x.back();
                }
            }
        }
        for (int landing = -1; landing <= 11; landing++) {
            c.is("6: landing " + landing, x.person(0, 0, landing), landing < 0 || landing > 10 ? -1 : 0);
            x.back();
        }
    }

    private static void sixPeople() {
        OneStepMore x = new OneStepMore();
        for (int i = 0; i < 6; i++) {
            c.is("6: the number", x.person(i, 10 - i, i + 4), i);
            c.is("43: PEOPLE", x.about(0), i + 1);
        }
        c.is("6: there are 6", x.person(0, 0, 0), -1);
        c.is("6: there are 6, and it is wrong", x.person(11, 0, 0), -1);
        c.is("43: 6 still", x.about(0), 6);
        for (int i = 0; i < 6; i++) {
            c.is("43: NONE", x.about(10 + i), i);
            c.is("43: TWICE", x.about(20 + i), 10 - i);
            c.is("43: LANDING", x.about(30 + i), i + 4);
            c.is("13: each can be begun", x.begin(i, 3, 3) != -1, true);
        }
    }

    private static void seeds() {
        OneStepMore x = new OneStepMore();
        for (int seed : new int[] {0, 1, 9998, 9999}) {
            c.is("7: " + seed, x.seed(seed), true);
            c.is("7: X", x.about(2), seed * 3 + 13);
        }
        c.is("7: 10000", x.seed(10000), false);
        c.is("7: -1", x.seed(-1), false);
        c.is("7: X as it was", x.about(2), 30010);
    }

    private static void houseAsked() {
        OneStepMore x = new OneStepMore();
        x.stair(3, 14);
        x.stair(0, 1);
        for (int house : new int[] {Integer.MIN_VALUE, -2, -1, 4, 5, Integer.MAX_VALUE}) {
            for (int what : new int[] {0, 1, 2, 11}) {
                c.is("22: house " + house + ", " + what, x.house(house, what), -1);
            }
        }
        c.is("22: n of 0", x.house(0, 0), 1);
        c.is("22: n of 3", x.house(3, 0), 14);
        for (int what = 3; what <= 10; what++) {
            c.is("22: what " + what, x.house(3, what), -1);
        }
        c.is("22: STEP 1", x.house(3, 11), 5);
        c.is("22: STEP 14", x.house(3, 24), 5);
        c.is("22: STEP 15", x.house(3, 25), -1);
        c.is("22: STEP 1 of 1", x.house(0, 11), 5);
        c.is("22: STEP 2 of 1", x.house(0, 12), -1);
        int[] wild = {Integer.MIN_VALUE, Integer.MIN_VALUE + 9, Integer.MIN_VALUE + 11, -11, -10, -1, 26, Integer.MAX_VALUE};
        for (int what : wild) {
            c.is("22: what " + what, x.house(3, what), -1);
        }
    }

    private static void aboutAsked() {
        OneStepMore x = new OneStepMore();
        for (int what = 9; what <= 40; what++) {
            c.is("43: nobody told, " + what, x.about(what), -2);
        }
        x.person(1, 2, 3);
        for (int what = 9; what <= 50; what++) {
            int due = what == 10 ? 1 : what == 20 ? 2 : what == 30 ? 3 : -2;
            c.is("43: one is told, " + what, x.about(what), due);
        }
        for (int i = 0; i < 5; i++) {
            x.person(0, 0, 0);
        }
        for (int what = 9; what <= 50; what++) {
            boolean is = what >= 10 && what <= 35 && what % 10 < 6;
            c.is("43: six are told, " + what, x.about(what) != -2, is);
        }
        int[] wild = {Integer.MIN_VALUE, Integer.MIN_VALUE + 8, -30, -20, -10, -9, -2, -1, 100, 110, Integer.MAX_VALUE};
        for (int what : wild) {
            c.is("43: others, " + what, x.about(what), -2);
        }
    }

    private static void toldHouses() {
        OneStepMore x = new OneStepMore();
        x.stair(0, 15);
        x.height(1, 13, 5);
        x.mark(2, 1, false);
        x.rail(3, 13);
        c.is("43: what is refused doesn't tell", x.about(7), 0);
        x.person(0, 0, 0);
        x.begin(0, 1, 0);
        x.stop();
        x.seen(0, 1, 1, true);
        c.is("43: nor does going there", x.about(7), 0);
        x.stair(0, 12);
        c.is("43: a stair as it was tells", x.about(7), 1);
        x.rail(3, 0);
        c.is("43: a RAIL as it was", x.about(7), 9);
        x.height(1, 1, 5);
        c.is("43: a HEIGHT as it was", x.about(7), 11);
        x.mark(2, 1, true);
        c.is("43: a MARK", x.about(7), 15);
        x.image();
        x.mark(2, 1, false);
        c.is("43: told it stays", x.about(7), 15);
        x.back();
        c.is("42: told it is again", x.about(7), 15);
        OneStepMore y = new OneStepMore();
        String[] deeds = {"stair 3 long 12;", "high 5 at 1 of 2;", "mark 12 of 1;", "rail 0 of 0;"};
        int[] due = {8, 12, 14, 15};
        for (int i = 0; i < 4; i++) {
            c.is("18: " + deeds[i], y.played(Check.text(y, deeds[i])), -1);
            c.is("43: played it tells", y.about(7), due[i]);
        }
    }
}
