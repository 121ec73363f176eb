/** Promises 13 to 17, 19 to 21 and 24: going by hand, A WEEK, what is taken back, THE BOOK. */
public final class GoingTest {
    private static final Check c = new Check();

    public static void main(String[] args) {
        begin();
        steps();
        toes();
        stops();
        counts();
        marks();
        trips();
        nights();
        undo();
        undoShorter();
        book();
        week();
        weekOne();
        c.end("GoingTest");
    }

    private static int next(int x) {
        return (x * 173 + 89) % 30071;
    }

    private static void begin() {
        OneStepMore x = new OneStepMore();
        c.is("13: nobody told", x.begin(0, 0, 0), -1);
        x.person(0, 0, 3);
        x.person(0, 0, 4);
        c.is("13: person 2", x.begin(2, 0, 0), -1);
        c.is("13: person -1", x.begin(-1, 0, 0), -1);
        c.is("13: house 4", x.begin(0, 4, 0), -1);
        c.is("13: kind 4", x.begin(0, 0, 4), -1);
        c.is("13: kind -1", x.begin(0, 0, -1), -1);
        c.is("13: no draw", x.about(2), 13);
        c.is("13: a draw of 3 isn't below 3", x.begin(0, 0, 0), 0);
        c.is("13: X", x.about(2), 2338);
        x.seed(0);
        c.is("13: a draw of 3 is below 4", x.begin(1, 3, 2), 1);
        int[] due = {1, 3, 2, 0, 1, 0, 0, 0};
        for (int i = 0; i < 8; i++) {
            c.is("21: way " + i, x.way(i), due[i]);
        }
        c.is("21: 8", x.way(8), -1);
        c.is("21: -1", x.way(-1), -1);
        x.step();
        c.is("13: who was there is gone", x.begin(1, 2, 1), 1);
        c.is("13: not written down", x.book(-1, 0), 0);
        c.is("13: at the landing", x.way(3), 0);
        c.is("13: no told houses", x.about(7), 0);
    }

    private static void steps() {
        OneStepMore x = new OneStepMore();
        x.person(0, 0, 0);
        x.stair(0, 2);
        c.is("14: nobody", x.step(), -1);
        x.begin(0, 0, 0);
        c.is("14: 1", x.step(), 1);
        c.is("14: 2", x.step(), 2);
        c.is("14: seconds", x.way(5), 2);
        int draws = x.about(2);
        c.is("14: jar", x.step(), 2);
        c.is("14: no draw", x.about(2), draws);
        c.is("14: down", x.way(0), -1);
        c.is("14: seconds written", x.book(0, 4), 3);
        c.is("14: harm", x.book(0, 5), 5);
        c.is("14: how", x.book(0, 6), 1);
        c.is("14: nobody any more", x.step(), -1);
    }

    private static void toes() {
        OneStepMore x = new OneStepMore();
        x.person(0, 0, 0);
        x.stair(0, 1);
        x.height(0, 1, 9);
        c.is("15: nobody", x.toe(), -1);
        x.begin(0, 0, 0);
        c.is("15: 1", x.toe(), 1);
        c.is("15: seconds", x.way(5), 3);
        c.is("15: counted", x.way(4), 1);
        c.is("15: no trip", x.way(7), 0);
        c.is("15: down", x.toe(), 1);
        c.is("15: how", x.book(0, 6), 0);
        c.is("15: harm", x.book(0, 5), 0);
        c.is("15: seconds written", x.book(0, 4), 6);
        c.is("15: nobody any more", x.toe(), -1);
    }

    private static void stops() {
        OneStepMore x = new OneStepMore();
        x.person(0, 0, 0);
        x.stair(0, 1);
        c.is("16: nobody", x.stop(), -1);
        x.begin(0, 0, 0);
        c.is("16: too early", x.stop(), 3);
        c.is("16: harm", x.book(0, 5), 9);
        c.is("16: no seconds", x.book(0, 4), 0);
        c.is("16: no trips", x.book(0, 7), 0);
        x.begin(0, 0, 0);
        x.step();
        c.is("16: there", x.stop(), 2);
        c.is("16: no harm", x.book(1, 5), 0);
        c.is("16: how", x.book(1, 6), 2);
        c.is("16: nobody any more", x.stop(), -1);
    }

    /** Draws behind seed 0: 3, then 8, 0, 1, 0, 1. */
    private static void counts() {
        OneStepMore x = new OneStepMore();
        x.person(1, 8, 0);
        x.begin(0, 0, 0);
        x.step();
        c.is("14: below none and twice: 2 more", x.way(4), 2);
        x.step();
        c.is("14: below none: it stays", x.way(4), 2);
        x.step();
        c.is("14: not below none", x.way(4), 4);
        x.seed(0);
        x.person(1, 7, 0);
        x.begin(1, 0, 0);
        x.toe();
        c.is("15: else 1 more", x.way(4), 1);
    }

    private static void marks() {
        OneStepMore x = new OneStepMore();
        x.person(10, 0, 0);
        x.mark(0, 3, true);
        for (int kind = 0; kind < 4; kind++) {
            x.begin(0, 0, kind);
            x.step();
            x.toe();
            int before = x.about(2);
            x.step();
            c.is("14: a mark, kind " + kind, x.way(4), kind % 2 == 0 ? 3 : 0);
            c.is("14: a draw there too", x.about(2), next(before));
        }
    }

    private static void trips() {
        OneStepMore x = new OneStepMore();
        x.person(0, 0, 0);
        x.height(0, 1, 8);
        x.by(Check.text(x, "fall 7;jar 11;"));
        x.begin(0, 0, 0);
        x.step();
        c.is("14: trips", x.way(7), 1);
        c.is("14: fall", x.way(6), 7);
        x.step();
        c.is("14: trips again", x.way(7), 2);
        x.step();
        c.is("14: no more", x.way(6), 14);
        for (int i = 0; i < 10; i++) {
            x.step();
        }
        c.is("14: fall and jar", x.book(0, 5), 25);
        c.is("24: trips", x.book(0, 7), 2);
    }

    private static void nights() {
        OneStepMore x = new OneStepMore();
        c.is("17: 0", x.night(0), -1);
        c.is("17: 100", x.night(100), -1);
        c.is("17: -1", x.night(-1), -1);
        for (int i = 1; i <= 10; i++) {
            c.is("17: 99", x.night(99), 99 * i);
        }
        c.is("17: beyond 999", x.night(10), -1);
        c.is("17: none of them", x.about(1), 990);
        c.is("17: 999", x.night(9), 999);
        c.is("17: 1000", x.night(1), -1);
        c.is("17: one act each", x.undo(), 29);
        c.is("17: one back", x.about(1), 998);
    }

    private static void undo() {
        OneStepMore x = new OneStepMore();
        c.is("20: none", x.undo(), -1);
        x.night(35);
        c.is("20: 30 at most", x.about(5), 30);
        for (int i = 29; i >= 0; i--) {
            c.is("20: how many yet", x.undo(), i);
        }
        c.is("20: none any more", x.undo(), -1);
        c.is("20: five stay", x.about(1), 5);
        x.person(0, 0, 5);
        x.stair(0, 2);
        x.begin(0, 0, 1);
        int drawn = x.about(2);
        x.step();
        x.step();
        x.step();
        c.is("20: written", x.book(-1, 0), 1);
        c.is("20: the jar", x.undo(), 3);
        c.is("20: not written", x.book(-1, 0), 0);
        c.is("20: on the way again", x.way(3), 2);
        c.is("20: kind", x.way(2), 1);
        x.undo();
        x.undo();
        c.is("20: X", x.about(2), drawn);
        x.undo();
        c.is("20: nobody", x.way(0), -1);
        c.is("20: X at first", x.about(2), 13);
        c.is("20: people stay", x.about(0), 1);
        x.begin(0, 0, 0);
        x.step();
        x.begin(0, 1, 3);
        x.undo();
        c.is("20: who was gone", x.way(3), 1);
        c.is("20: where", x.way(1), 0);
    }

    private static void undoShorter() {
        OneStepMore x = new OneStepMore();
        x.person(0, 0, 0);
        x.begin(0, 0, 0);
        for (int i = 0; i < 7; i++) {
            x.step();
        }
        x.stop();
        x.stair(0, 4);
        x.undo();
        c.is("20: at n", x.way(3), 4);
        c.is("20: count as it was", x.way(4), 7);
        c.is("20: it is the last", x.step(), 4);
        c.is("20: jar", x.book(0, 6), 1);
        x.undo();
        x.undo();
        c.is("20: one further back", x.way(3), 4);
        for (int i = 0; i < 3; i++) {
            x.undo();
        }
        c.is("20: at 3", x.way(3), 3);
    }

    private static void book() {
        OneStepMore x = new OneStepMore();
        c.is("24: none", x.book(-1, 0), 0);
        c.is("24: none such", x.book(0, 0), -2);
        x.person(0, 0, 10);
        for (int i = 0; i < 43; i++) {
            x.begin(0, i % 4, 0);
            x.stop();
            x.night(1);
        }
        c.is("24: 40", x.book(-1, 0), 40);
        c.is("24: the eldest", x.book(0, 2), 3);
        c.is("24: the eldest's house", x.book(0, 1), 3);
        c.is("24: the latest", x.book(39, 2), 42);
        c.is("24: count", x.book(39, 3), 1);
        c.is("24: person", x.book(39, 0), 0);
        c.is("24: 40th", x.book(40, 0), -2);
        c.is("24: -2", x.book(-2, 0), -2);
        c.is("24: what 8", x.book(0, 8), -2);
        c.is("24: what -1", x.book(0, -1), -2);
        for (int i = 0; i < 30; i++) {
            x.undo();
        }
        c.is("20: ten nights back, elder ones are there again", x.book(-1, 0), 33);
        c.is("24: the eldest then", x.book(0, 2), 0);
        c.is("24: the latest then", x.book(32, 2), 32);
    }

    private static void week() {
        OneStepMore x = new OneStepMore();
        c.is("19: without people", x.week(0, 0), -1);
        x.person(0, 0, 0);
        c.is("19: seed -1", x.week(-1, 0), -1);
        c.is("19: seed 10000", x.week(10000, 0), -1);
        c.is("19: f -1", x.week(0, -1), -1);
        c.is("19: f 31", x.week(0, 31), -1);
        c.is("19: nothing done", x.about(5), 0);
        x.seed(77);
        x.begin(0, 0, 0);
        c.is("19: seven jars", x.week(0, 30), 35);
        c.is("19: gone", x.way(0), -1);
        c.is("19: nights", x.about(1), 7);
        int due = 13;
        for (int i = 0; i < 7; i++) {
            due = next(due);
            c.is("19: house", x.book(i, 1), due % 4);
            for (int k = 0; k < 14; k++) {
                due = next(due);
            }
            c.is("19: night", x.book(i, 2), i);
            c.is("19: seconds", x.book(i, 4), 13);
            c.is("19: kind 0 counts", x.book(i, 3), 12);
        }
        c.is("19: X", x.about(2), due);
        c.is("19: one act", x.undo(), 1);
        c.is("19: back on the way", x.way(3), 0);
        c.is("19: X back", x.about(2), next(77 * 3 + 13));
        for (int i = 0; i < 11; i++) {
            x.night(i < 10 ? 99 : 7);
        }
        c.is("19: towards 999", x.about(1), 997);
        x.week(5, 3);
        c.is("19: till 999", x.about(1), 999);
        c.is("19: written", x.book(6, 2), 999);
        c.is("19: seconds of 3 steps and toes", x.book(6, 4), 3 + 30);
    }

    private static void weekOne() {
        OneStepMore x = new OneStepMore();
        x.person(0, 0, 10);
        x.person(0, 0, 0);
        x.person(10, 0, 10);
        for (int h = 0; h < 4; h++) {
            x.stair(h, h + 1);
        }
        x.week(123, 2);
        int due = 123 * 3 + 13;
        for (int i = 0; i < 7; i++) {
            int person = due % 3;
            due = next(due);
            int house = due % 4;
            c.is("19: person", x.book(i, 0), person);
            c.is("19: of house", x.book(i, 1), house);
            int n = house + 1;
            for (int k = 0; k < n + 2; k++) {
                due = next(due);
            }
            int first = person == 1 ? 0 : 1;
            c.is("19: count", x.book(i, 3), person == 2 ? 1 : first + n);
            int boldly = person == 2 ? n + 1 : Math.min(n + 1, 2 - first);
            c.is("19: seconds by f", x.book(i, 4), boldly + 3 * (n + 1 - boldly));
        }
    }
}
