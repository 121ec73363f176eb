/** The edges of going, of what is taken back, of THE BOOK and of A WEEK: promises 13 to 17, 19 to 21, 24. */
public final class GoingEdgesTest {
    private static final Check c = new Check();

    public static void main(String[] args) {
        begins();
        landingDraws();
        goneNotWritten();
        nobodyAsked();
        oneStep();
        fourteenSteps();
        counted();
        countedByLaws();
        marked();
        tripped();
        toldOnTheWay();
        stopped();
        stoppedBehindTrips();
        nights();
        bookOf40();
        bookAsked();
        actsOf30();
        whatIsAnAct();
        takenBack();
        takenBackShorter();
        atIsNoCount();
        thirtyWeeksBack();
        weekAsked();
        weekFromFirstToLast();
        weekTill999();
        weekGone();
        weekOfKind0();
        c.end("GoingEdgesTest");
    }

    private static int next(int x) {
        return (x * 173 + 89) % 30071;
    }

    private static void begins() {
        OneStepMore x = new OneStepMore();
        c.is("13: nobody told", x.begin(0, 0, 0), -1);
        for (int i = 0; i < 6; i++) {
            x.person(0, 0, 10 * (i % 2));
        }
        for (int person = 0; person < 6; person += 5) {
            for (int house = 0; house < 4; house += 3) {
                for (int kind = 0; kind < 4; kind += 3) {
                    x.seed(0);
                    c.is("13: begun", x.begin(person, house, kind), person % 2);
                    int[] due = {person, house, kind, 0, person % 2, 0, 0, 0};
                    for (int i = 0; i < 8; i++) {
                        c.is("21: way " + i, x.way(i), due[i]);
                    }
                    c.is("13: one draw", x.about(2), next(13));
                }
            }
        }
        int[] wild = {Integer.MIN_VALUE, -1, 8, 9, Integer.MAX_VALUE};
        for (int what : wild) {
            c.is("21: others, " + what, x.way(what), -1);
        }
    }

    /** A draw below LANDING is COUNTED; one like it isn't. */
    private static void landingDraws() {
        for (int landing = 0; landing <= 10; landing++) {
            OneStepMore x = new OneStepMore();
            x.person(0, 0, landing);
            for (int seed = 0; seed < 10; seed++) {
                x.seed(seed);
                int draw = (seed * 3 + 13) % 10;
                c.is("13: LANDING " + landing + ", a draw of " + draw, x.begin(0, 0, 0), draw < landing ? 1 : 0);
                c.is("13: X behind it", x.about(2), next(seed * 3 + 13));
            }
        }
        OneStepMore x = new OneStepMore();
        x.person(0, 0, 10);
        x.seed(9999);
        c.is("13: from the highest X", x.begin(0, 0, 0), 1);
        c.is("13: X behind it", x.about(2), (30010 * 173 + 89) % 30071);
        int due = x.about(2);
        for (int i = 0; i < 100; i++) {
            x.begin(0, 0, 0);
            due = next(due);
            c.is("13: draw by draw", x.about(2), due);
        }
    }

    private static void goneNotWritten() {
        OneStepMore x = new OneStepMore();
        x.person(0, 0, 0);
        x.person(0, 0, 0);
        x.height(0, 1, 9);
        x.begin(0, 0, 0);
        x.step();
        c.is("13: some HARM", x.way(6), 9);
        x.begin(1, 1, 2);
        c.is("13: who was on the way is gone", x.way(0), 1);
        c.is("13: not written down", x.book(-1, 0), 0);
        int[] due = {1, 1, 2, 0, 0, 0, 0, 0};
        for (int i = 0; i < 8; i++) {
            c.is("13: as at the LANDING, " + i, x.way(i), due[i]);
        }
    }

    private static void nobodyAsked() {
        OneStepMore x = new OneStepMore();
        x.person(0, 0, 0);
        c.is("14: nobody", x.step(), -1);
        c.is("15: nobody", x.toe(), -1);
        c.is("16: nobody", x.stop(), -1);
        x.begin(0, 3, 3);
        x.step();
        x.stop();
        for (int i = -1; i < 9; i++) {
            c.is("21: nobody is, " + i, x.way(i), -1);
        }
        c.is("14: nobody any more", x.step(), -1);
        c.is("15: nobody any more", x.toe(), -1);
        c.is("16: nobody any more", x.stop(), -1);
        c.is("24: one line", x.book(-1, 0), 1);
    }

    private static void oneStep() {
        OneStepMore x = new OneStepMore();
        x.person(0, 0, 0);
        x.stair(0, 1);
        x.begin(0, 0, 0);
        c.is("14: STEP 1 of 1", x.step(), 1);
        int draws = x.about(2);
        c.is("14: a JAR: AT n", x.step(), 1);
        c.is("14: no draw in it", x.about(2), draws);
        x.begin(0, 0, 0);
        c.is("15: STEP 1 of 1", x.toe(), 1);
        draws = x.about(2);
        c.is("15: DOWN: AT n", x.toe(), 1);
        c.is("15: no draw in it", x.about(2), draws);
        x.begin(0, 0, 0);
        c.is("16: AT 0 of 1", x.stop(), 3);
        x.begin(0, 0, 0);
        x.toe();
        c.is("16: AT 1 of 1", x.stop(), 2);
        int[] seconds = {2, 6, 0, 3};
        int[] harm = {5, 0, 9, 0};
        int[] how = {1, 0, 3, 2};
        int[] count = {1, 1, 0, 1};
        for (int i = 0; i < 4; i++) {
            c.is("24: COUNT", x.book(i, 3), count[i]);
            c.is("24: SECONDS", x.book(i, 4), seconds[i]);
            c.is("24: HARM", x.book(i, 5), harm[i]);
            c.is("24: how", x.book(i, 6), how[i]);
        }
    }

    private static void fourteenSteps() {
        OneStepMore x = new OneStepMore();
        x.person(0, 10, 10);
        x.stair(3, 14);
        x.by(Check.text(x, "trips 1=1;fall 99;jar 99;"));
        c.is("13: COUNT 1", x.begin(0, 3, 0), 1);
        for (int i = 1; i <= 14; i++) {
            c.is("14: AT", x.step(), i);
            c.is("14: COUNT", x.way(4), 1 + 2 * i);
            c.is("14: HARM", x.way(6), 99 * i);
            c.is("14: TRIPS", x.way(7), i);
        }
        c.is("14: the highest COUNT", x.way(4), 29);
        c.is("14: the JAR", x.step(), 14);
        int[] due = {0, 3, 0, 29, 15, 1485, 1, 14};
        for (int i = 0; i < 8; i++) {
            c.is("24: line, " + i, x.book(0, i), due[i]);
        }
        x.begin(0, 3, 0);
        for (int i = 1; i <= 14; i++) {
            c.is("15: AT", x.toe(), i);
        }
        c.is("15: SECONDS", x.way(5), 42);
        c.is("15: AT n", x.toe(), 14);
        int[] felt = {0, 3, 0, 29, 45, 0, 0, 0};
        for (int i = 0; i < 8; i++) {
            c.is("24: line of TOES, " + i, x.book(1, i), felt[i]);
        }
    }

    private static int more(int draw, int none, int twice) {
        return draw < none ? 0 : draw < none + twice ? 2 : 1;
    }

    /** All draws, for each NONE and TWICE: below none; like it; below both together; like them. */
    private static void counted() {
        for (int none = 0; none <= 10; none++) {
            for (int twice = 0; twice <= 10 - none; twice++) {
                OneStepMore x = new OneStepMore();
                x.person(none, twice, 0);
                for (int seed = 0; seed < 10; seed++) {
                    x.seed(seed);
                    int draw = next(seed * 3 + 13);
                    x.begin(0, 0, 0);
                    x.step();
                    c.is("14: COUNTED", x.way(4), more(draw % 10, none, twice));
                    c.is("14: one draw", x.about(2), next(draw));
                    x.toe();
                    c.is("15: COUNTED", x.way(4), more(draw % 10, none, twice) + more(next(draw) % 10, none, twice));
                }
            }
        }
    }

    private static void countedByLaws() {
        OneStepMore x = new OneStepMore();
        x.person(0, 0, 0);
        x.by(Check.text(x, "none if nth=1?10:0 end;twice if nth=2?10:0 end;"));
        x.begin(0, 0, 0);
        x.step();
        c.is("14: by the law of STEP 1", x.way(4), 0);
        x.step();
        c.is("14: by the law of STEP 2", x.way(4), 2);
        x.toe();
        c.is("15: by the law of STEP 3", x.way(4), 3);
    }

    private static void marked() {
        OneStepMore x = new OneStepMore();
        x.person(10, 0, 0);
        x.person(0, 10, 10);
        x.stair(0, 14);
        for (int step = 1; step <= 14; step += 13) {
            x.mark(0, step, true);
        }
        for (int kind = 0; kind < 4; kind++) {
            for (int person = 0; person < 2; person++) {
                x.begin(person, 0, kind);
                int at0 = person;
                int each = 2 * person;
                x.step();
                boolean loaded = kind % 2 == 1;
                int at1 = loaded ? at0 + each : 1;
                c.is("14: a MARK at STEP 1", x.way(4), at1);
                for (int i = 2; i <= 13; i++) {
                    x.toe();
                }
                c.is("15: without MARKS", x.way(4), at1 + 12 * each);
                int before = x.about(2);
                x.toe();
                c.is("15: a MARK at STEP 14", x.way(4), loaded ? at1 + 13 * each : 14);
                c.is("15: a draw there, too", x.about(2), next(before));
                x.stop();
            }
        }
    }

    private static void tripped() {
        OneStepMore x = new OneStepMore();
        x.person(0, 0, 0);
        x.stair(0, 3);
        x.height(0, 1, 7);
        x.height(0, 2, 4);
        x.height(0, 3, 6);
        x.begin(0, 0, 0);
        x.step();
        c.is("14: unlike by 2", x.way(7), 0);
        x.step();
        c.is("14: unlike by 3", x.way(7), 1);
        c.is("14: HARM is more by fall", x.way(6), 9);
        x.step();
        c.is("14: unlike by 2 again", x.way(7), 1);
        x.begin(0, 0, 0);
        x.toe();
        x.toe();
        c.is("15: no TRIP by a TOE", x.way(7), 0);
        c.is("15: no HARM by a TOE", x.way(6), 0);
    }

    /** What is told while one is on the way counts from there on. */
    private static void toldOnTheWay() {
        OneStepMore x = new OneStepMore();
        x.person(0, 0, 0);
        x.stair(0, 6);
        Check.text(x, "trips nth<3;none 10;");
        Check.text(x, "jar nights;fall 3;");
        x.begin(0, 0, 0);
        x.step();
        c.is("14: none rules", x.way(4), 1);
        x.by(0);
        x.step();
        c.is("14: TEXT 0 rules: COUNT", x.way(4), 1);
        c.is("14: TEXT 0 rules: TRIPS", x.way(7), 1);
        c.is("14: TEXT 0 rules: HARM", x.way(6), 9);
        x.by(1);
        x.mark(0, 3, true);
        x.step();
        c.is("14: a MARK", x.way(4), 3);
        x.height(0, 4, 8);
        x.step();
        c.is("14: a HEIGHT: TRIPS", x.way(7), 2);
        c.is("14: TEXT 1 rules: HARM", x.way(6), 12);
        x.height(0, 4, 5);
        x.step();
        c.is("14: a HEIGHT as ahead of it", x.way(7), 2);
        x.mark(0, 6, true);
        x.mark(0, 6, false);
        x.toe();
        c.is("15: a MARK that is away", x.way(4), 6);
        c.is("17: NIGHTS go by on the way", x.night(8), 8);
        c.is("17: on the way yet", x.way(3), 6);
        x.step();
        c.is("14: jar of that NIGHT", x.book(0, 5), 12 + 8);
        c.is("24: that NIGHT is written", x.book(0, 2), 8);
    }

    private static void stopped() {
        OneStepMore x = new OneStepMore();
        x.person(0, 0, 0);
        x.stair(0, 14);
        x.by(Check.text(x, "fall nights+90;"));
        for (int at = 0; at <= 14; at++) {
            x.begin(0, 0, 0);
            for (int i = 0; i < at; i++) {
                x.toe();
            }
            c.is("16: AT " + at, x.stop(), at == 14 ? 2 : 3);
            c.is("16: HARM", x.book(at, 5), at == 14 ? 0 : 90);
            c.is("16: how", x.book(at, 6), at == 14 ? 2 : 3);
            c.is("16: SECONDS", x.book(at, 4), 3 * at);
        }
        x.night(20);
        x.begin(0, 0, 0);
        x.stop();
        c.is("16: fall, 99 at most", x.book(15, 5), 99);
        x.by(Check.text(x, "fall 1+2*loaded+4*drunk+8*house;jar 16+2*loaded+4*drunk+8*house;"));
        for (int kind = 0; kind < 4; kind++) {
            x.begin(0, 3, kind);
            x.stop();
            c.is("16: fall of kind " + kind, x.book(16 + kind, 5), 1 + 2 * kind + 24);
        }
        x.stair(3, 1);
        for (int kind = 0; kind < 4; kind++) {
            x.begin(0, 3, kind);
            x.toe();
            x.step();
            c.is("14: jar of kind " + kind, x.book(20 + kind, 5), 16 + 2 * kind + 24);
        }
    }

    /** HARM is more by what comes behind: TRIPS and fall, TRIPS and jar. */
    private static void stoppedBehindTrips() {
        OneStepMore x = new OneStepMore();
        x.person(0, 0, 0);
        x.stair(0, 3);
        x.height(0, 1, 9);
        x.height(0, 2, 9);
        for (int trips = 0; trips <= 2; trips++) {
            x.begin(0, 0, 0);
            for (int i = 0; i < 2; i++) {
                // STEP 2 is like STEP 1 ahead of it, STEP 3 isn't
                c.is("14: AT", i < trips ? x.step() : x.toe(), i + 1);
            }
            int harm = trips > 0 ? 9 : 0;
            c.is("14: HARM", x.way(6), harm);
            c.is("16: not AT n", x.stop(), 3);
            c.is("16: HARM is more by fall", x.book(3 * trips, 5), harm + 9);
            x.begin(0, 0, 0);
            for (int i = 0; i < 3; i++) {
                c.is("14: AT", i < trips || i == 2 ? x.step() : x.toe(), i + 1);
            }
            c.is("16: AT n", x.stop(), 2);
            c.is("16: HARM stays", x.book(3 * trips + 1, 5), harm + 9);
            c.is("16: TRIPS stay", x.book(3 * trips + 1, 7), trips > 0 ? 2 : 1);
            x.begin(0, 0, 0);
            for (int i = 0; i < 3; i++) {
                c.is("14: AT", i < trips ? x.step() : x.toe(), i + 1);
            }
            c.is("15: felt, or a JAR", trips == 0 ? x.toe() : x.step(), 3);
            c.is("14: HARM is more by jar", x.book(3 * trips + 2, 5), trips == 0 ? 0 : harm + 5);
        }
    }

    private static void nights() {
        OneStepMore x = new OneStepMore();
        c.is("17: 1", x.night(1), 1);
        c.is("17: 0", x.night(0), -1);
        c.is("17: 99", x.night(99), 100);
        c.is("17: 100", x.night(100), -1);
        c.is("17: NIGHT stays", x.about(1), 100);
        for (int i = 0; i < 9; i++) {
            x.night(99);
        }
        c.is("17: 991", x.about(1), 991);
        c.is("17: by 9 beyond 999", x.night(9), -1);
        c.is("17: none of them", x.about(1), 991);
        c.is("17: 999", x.night(8), 999);
        c.is("17: 1000", x.night(1), -1);
        c.is("17: 999 still", x.about(1), 999);
        c.is("20: 30 acts", x.about(5), 30);
        for (int i = 29; i >= 0; i--) {
            c.is("20: one act each", x.undo(), i);
        }
        c.is("20: back to 969", x.about(1), 969);
        c.is("17: and on again", x.night(30), 999);
    }

    private static void bookOf40() {
        OneStepMore x = new OneStepMore();
        x.person(0, 0, 0);
        for (int i = 1; i <= 42; i++) {
            x.night(1);
            x.begin(0, 0, 0);
            x.stop();
            int lines = Math.min(40, i);
            c.is("24: how many", x.book(-1, 0), lines);
            c.is("24: the eldest", x.book(0, 2), i - lines + 1);
            c.is("24: the latest", x.book(lines - 1, 2), i);
            c.is("24: none behind it", x.book(lines, 2), -2);
        }
        c.is("24: the second", x.book(1, 2), 4);
        c.is("35: those that are in it", x.tally(0, 0), 40);
        x.undo();
        c.is("20: the eldest is there again", x.book(0, 2), 2);
        c.is("20: 40 of them", x.book(-1, 0), 40);
        c.is("20: the latest", x.book(39, 2), 41);
        for (int i = 0; i < 3; i++) {
            x.undo();
        }
        c.is("20: the first is there again", x.book(0, 2), 1);
        c.is("20: the latest then", x.book(39, 2), 40);
        for (int i = 0; i < 3; i++) {
            x.undo();
        }
        c.is("20: 39 of them", x.book(-1, 0), 39);
        c.is("20: the latest of 39", x.book(38, 2), 39);
    }

    private static void bookAsked() {
        OneStepMore x = new OneStepMore();
        c.is("24: empty", x.book(-1, 0), 0);
        for (int i : new int[] {Integer.MIN_VALUE, -2, 0, 1, 39, 40, Integer.MAX_VALUE}) {
            c.is("24: none such, " + i, x.book(i, 0), -2);
        }
        x.person(0, 0, 10);
        x.night(7);
        x.begin(0, 3, 2);
        x.step();
        x.stop();
        int[] due = {0, 3, 7, 2, 1, 9, 3, 0};
        for (int k = 0; k < 8; k++) {
            c.is("24: line, " + k, x.book(0, k), due[k]);
        }
        for (int k : new int[] {Integer.MIN_VALUE, -1, 8, 9, Integer.MAX_VALUE}) {
            c.is("24: others, " + k, x.book(0, k), -2);
        }
        for (int i : new int[] {Integer.MIN_VALUE, -2, 1, 39, 40, Integer.MAX_VALUE}) {
            c.is("24: none such, " + i, x.book(i, 0), -2);
        }
    }

    private static void actsOf30() {
        OneStepMore x = new OneStepMore();
        for (int i = 1; i <= 32; i++) {
            x.night(1);
            c.is("43: acts", x.about(5), Math.min(30, i));
        }
        for (int i = 29; i >= 0; i--) {
            c.is("20: how many can be yet", x.undo(), i);
            c.is("43: acts then", x.about(5), i);
            c.is("20: the latest first", x.about(1), i + 2);
        }
        c.is("20: there is none", x.undo(), -1);
        c.is("20: two stay", x.about(1), 2);
        x.night(1);
        c.is("20: a new one", x.undo(), 0);
        // around the row's end and back
        for (int i = 0; i < 25; i++) {
            x.night(4);
            x.undo();
        }
        x.night(1);
        c.is("20: 30 of them", x.about(5), 30);
        int night = x.about(1);
        for (int i = 1; i <= 30; i++) {
            x.undo();
        }
        c.is("20: 30 NIGHTS back", x.about(1), night - 30);
        c.is("20: there is none again", x.undo(), -1);
    }

    private static void whatIsAnAct() {
        OneStepMore x = new OneStepMore();
        x.person(0, 0, 0);
        x.stair(0, 12);
        x.height(0, 1, 5);
        x.mark(0, 1, true);
        x.rail(0, 1);
        x.seed(4);
        Check.text(x, "jar 1;");
        x.by(0);
        x.seen(0, 0, 1, true);
        x.image();
        x.back();
        x.played(0);
        c.is("20: none of these", x.about(5), 0);
        x.begin(0, 0, 0);
        c.is("20: BEGUN", x.about(5), 1);
        x.step();
        c.is("20: a STEP", x.about(5), 2);
        x.toe();
        c.is("20: a TOE", x.about(5), 3);
        x.stop();
        c.is("20: STOPPED", x.about(5), 4);
        x.night(3);
        c.is("20: a NIGHT that goes by", x.about(5), 7);
        x.week(0, 0);
        c.is("20: A WEEK is one ACT", x.about(5), 8);
        x.step();
        x.toe();
        x.stop();
        x.begin(0, 4, 0);
        x.night(0);
        x.week(0, 31);
        c.is("20: not what is refused", x.about(5), 8);
        c.is("18: PLAYED", x.played(Check.text(x, "begin 0 at 0;step 2;toe 1;stop;night 2;")), -1);
        c.is("20: as by hand", x.about(5), 15);
    }

    private static void takenBack() {
        OneStepMore x = new OneStepMore();
        x.person(0, 0, 10);
        x.height(1, 1, 9);
        x.seed(77);
        x.begin(0, 1, 2);
        int drawn = x.about(2);
        x.step();
        x.seed(5);
        x.step();
        c.is("20: the STEP", x.undo(), 2);
        c.is("20: X as ahead of it", x.about(2), 28);
        int[] due = {0, 1, 2, 1, 2, 1, 9, 1};
        for (int i = 0; i < 8; i++) {
            c.is("20: who is on the way and how, " + i, x.way(i), due[i]);
        }
        x.undo();
        c.is("20: X as ahead of the first", x.about(2), drawn);
        c.is("20: TRIPS too", x.way(7), 0);
        c.is("20: HARM too", x.way(6), 0);
        x.undo();
        c.is("20: nobody", x.way(0), -1);
        c.is("20: X as told", x.about(2), 244);
        c.is("20: what was told stays", x.house(1, 11), 9);
        x.begin(0, 1, 0);
        x.stop();
        x.undo();
        c.is("20: not written any more", x.book(-1, 0), 0);
        c.is("20: on the way", x.way(1), 1);
        c.is("20: a NIGHT", x.night(2), 2);
        x.undo();
        c.is("20: one NIGHT less", x.about(1), 1);
        c.is("20: still on the way", x.way(1), 1);
    }

    private static void takenBackShorter() {
        for (int n = 1; n <= 14; n++) {
            OneStepMore x = new OneStepMore();
            x.person(0, 0, 0);
            x.stair(2, 14);
            x.begin(0, 2, 0);
            for (int i = 0; i < 7; i++) {
                x.toe();
            }
            x.stop();
            x.stair(2, n);
            x.undo();
            c.is("20: AT n, if the HOUSE hasn't that STEP", x.way(3), Math.min(7, n));
            c.is("20: COUNT as it was", x.way(4), 7);
            c.is("16: there, or not", x.stop(), n <= 7 ? 2 : 3);
            x.undo();
            c.is("20: again", x.way(3), Math.min(7, n));
            for (int i = 6; i >= 0; i--) {
                x.undo();
                c.is("20: further back", x.way(3), Math.min(i, n));
            }
        }
        OneStepMore x = new OneStepMore();
        x.person(0, 0, 0);
        x.begin(0, 0, 0);
        for (int i = 0; i < 5; i++) {
            x.step();
        }
        x.stop();
        x.stair(0, 2);
        x.stair(0, 9);
        x.undo();
        c.is("20: the HOUSE has it again", x.way(3), 5);
    }

    /** Where one is, not what one COUNTS: STOPPED, a JAR, and what is taken back. */
    private static void atIsNoCount() {
        for (int person = 0; person < 2; person++) {
            for (int at = 0; at <= 6; at++) {
                OneStepMore x = new OneStepMore();
                x.person(10, 0, 0);
                x.person(0, 10, 10);
                x.stair(1, 6);
                x.begin(person, 1, 0);
                for (int i = 0; i < at; i++) {
                    x.step();
                }
                int count = person == 0 ? 0 : 1 + 2 * at;
                c.is("14: COUNT", x.way(4), count);
                c.is("16: how", x.stop(), at == 6 ? 2 : 3);
                c.is("16: COUNT is written", x.book(0, 3), count);
                x.stair(1, 4);
                x.undo();
                c.is("20: AT n, if AT is beyond", x.way(3), Math.min(4, at));
                c.is("20: COUNT as it was", x.way(4), count);
                int before = x.book(-1, 0);
                c.is("14: AT", x.step(), Math.min(4, at + 1));
                c.is("14: a JAR, or not", x.book(-1, 0), at >= 4 ? before + 1 : before);
            }
        }
    }

    private static void thirtyWeeksBack() {
        OneStepMore x = new OneStepMore();
        x.person(0, 0, 0);
        for (int i = 0; i < 41; i++) {
            x.begin(0, i % 4, i / 4 % 4);
            x.stop();
        }
        x.night(1);
        for (int i = 0; i < 30; i++) {
            x.week(i, 5);
        }
        c.is("19: 40 lines of WEEKS", x.book(0, 6), 0);
        c.is("19: NIGHT", x.about(1), 211);
        for (int i = 29; i >= 0; i--) {
            c.is("20: A WEEK back", x.undo(), i);
        }
        c.is("20: NIGHT as ahead of them", x.about(1), 1);
        c.is("20: 40 lines", x.book(-1, 0), 40);
        for (int i = 0; i < 40; i++) {
            c.is("20: its HOUSE", x.book(i, 1), (i + 1) % 4);
            c.is("20: its NIGHT", x.book(i, 2), 0);
            c.is("20: its HARM", x.book(i, 5), 9);
            c.is("20: its how", x.book(i, 6), 3);
        }
        c.is("20: there is none", x.undo(), -1);
    }

    private static void weekAsked() {
        OneStepMore x = new OneStepMore();
        c.is("19: without PEOPLE", x.week(0, 0), -1);
        x.person(0, 0, 0);
        for (int seed : new int[] {0, 9999}) {
            for (int f : new int[] {0, 30}) {
                c.is("19: all HARM", x.week(seed, f), f == 0 ? 0 : 35);
            }
        }
        c.is("19: four WEEKS", x.about(1), 28);
        for (int seed : new int[] {Integer.MIN_VALUE, -1, 10000, Integer.MAX_VALUE}) {
            c.is("19: seed " + seed, x.week(seed, 0), -1);
        }
        for (int f : new int[] {Integer.MIN_VALUE, -1, 31, Integer.MAX_VALUE}) {
            c.is("19: f " + f, x.week(0, f), -1);
        }
        c.is("19: NIGHT stays", x.about(1), 28);
        c.is("20: four acts", x.about(5), 4);
    }

    /** COUNT 29 AT STEP 14: f 30 is boldly to the JAR, f 29 feels the LANDING. */
    private static void weekFromFirstToLast() {
        for (int f = 0; f <= 30; f++) {
            OneStepMore x = new OneStepMore();
            x.person(0, 10, 10);
            for (int h = 0; h < 4; h++) {
                x.stair(h, 14);
            }
            c.is("19: HARM, f " + f, x.week(f, f), f == 30 ? 35 : 0);
            int boldly = Math.min(15, f / 2);
            for (int i = 0; i < 7; i++) {
                c.is("19: COUNT", x.book(i, 3), 29);
                c.is("19: SECONDS, f " + f, x.book(i, 4), boldly + 3 * (15 - boldly));
                c.is("19: how, f " + f, x.book(i, 6), f == 30 ? 1 : 0);
            }
        }
    }

    private static void weekTill999() {
        for (int from = 990; from <= 999; from++) {
            OneStepMore x = new OneStepMore();
            x.person(0, 0, 0);
            for (int i = 0; i < 10; i++) {
                x.night(99);
            }
            if (from > 990) {
                x.night(from - 990);
            }
            x.week(1, 3);
            c.is("19: till 999, from " + from, x.about(1), Math.min(999, from + 7));
            for (int i = 0; i < 7; i++) {
                c.is("19: NIGHT of a line", x.book(i, 2), Math.min(999, from + i));
            }
            x.undo();
            c.is("20: NIGHT as ahead of it", x.about(1), from);
        }
    }

    private static void weekOfKind0() {
        OneStepMore x = new OneStepMore();
        x.person(10, 0, 0);
        for (int house = 0; house < 4; house++) {
            x.stair(house, 4);
            x.mark(house, 3, true);
        }
        x.by(Check.text(x, "jar 7+20*loaded+40*drunk;fall 3+20*loaded+40*drunk;trips nth=2 or drunk=1 or loaded=1;"));
        c.is("19: HARM", x.week(1, 30), 7 * (7 + 3));
        for (int i = 0; i < 7; i++) {
            c.is("19: not LOADED: a MARK", x.book(i, 3), 3);
            c.is("19: one TRIP", x.book(i, 7), 1);
            c.is("19: HARM of it", x.book(i, 5), 10);
        }
    }

    private static void weekGone() {
        OneStepMore x = new OneStepMore();
        x.person(0, 0, 0);
        x.begin(0, 2, 3);
        x.step();
        x.week(3, 3);
        c.is("19: nobody on the way", x.way(0), -1);
        c.is("19: who was is gone, not written down", x.book(-1, 0), 7);
        x.undo();
        c.is("20: on the way again", x.way(3), 1);
        c.is("20: kind", x.way(2), 3);
        c.is("20: no lines", x.book(-1, 0), 0);
    }
}
