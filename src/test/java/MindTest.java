/** Promises 25 to 34: what is in mind, against what was worked out by hand. */
public final class MindTest {
    private static final Check c = new Check();

    public static void main(String[] args) {
        where();
        cost();
        from();
        worth();
        goes();
        lamp();
        which();
        whether();
        sure();
        nothingChanges();
        c.end("MindTest");
    }

    private static void where() {
        OneStepMore x = new OneStepMore();
        x.person(5, 0, 5);
        x.stair(0, 1);
        c.part("25: 0 at 0", x.where(0, 0, 0, 0, 0, false), x.where(0, 0, 0, 0, 0, true), 2, 3);
        c.part("25: 0 at 1", x.where(0, 0, 0, 0, 1, false), x.where(0, 0, 0, 0, 1, true), 1, 3);
        c.part("25: 2 at 1", x.where(0, 0, 0, 2, 1, false), x.where(0, 0, 0, 2, 1, true), 1, 1);
        c.part("25: 2 at 0", x.where(0, 0, 0, 2, 0, false), x.where(0, 0, 0, 2, 0, true), 0, 1);
        c.is("25: 3 nowhere", x.where(0, 0, 0, 3, 0, false), -1);
        x.mark(0, 1, true);
        c.part("25: a mark", x.where(0, 0, 0, 1, 1, false), x.where(0, 0, 0, 1, 1, true), 2, 3);
        c.part("25: loaded", x.where(0, 0, 1, 1, 1, false), x.where(0, 0, 1, 1, 1, true), 1, 2);
        c.part("25: drunk", x.where(0, 0, 2, 1, 1, false), x.where(0, 0, 2, 1, 1, true), 2, 3);
        c.is("25: c 30", x.where(0, 0, 0, 30, 0, false), -1);
        c.is("25: c -1", x.where(0, 0, 0, -1, 0, false), -1);
        c.is("25: t 2", x.where(0, 0, 0, 0, 2, false), -1);
        c.is("25: t -1", x.where(0, 0, 0, 0, -1, false), -1);
        c.is("25: person 1", x.where(1, 0, 0, 0, 0, false), -1);
        c.is("25: house 4", x.where(0, 4, 0, 0, 0, false), -1);
        c.is("25: kind 4", x.where(0, 0, 4, 0, 0, false), -1);
        x.stair(1, 14);
        x.person(0, 10, 10);
        c.part("25: 29 at 14", x.where(1, 1, 0, 29, 14, false), x.where(1, 1, 0, 29, 14, true), 1, 1);
        c.is("25: 28 nowhere", x.where(1, 1, 0, 28, 14, false), -1);
    }

    private static void cost() {
        OneStepMore x = new OneStepMore();
        x.person(5, 0, 0);
        x.stair(0, 1);
        c.part("26: toes", x.cost(0, 0, 0, 0, false), x.cost(0, 0, 0, 0, true), 6, 1);
        c.part("26: from 1 on", x.cost(0, 0, 0, 1, false), x.cost(0, 0, 0, 1, true), 11, 2);
        c.part("26: boldly", x.cost(0, 0, 0, 30, false), x.cost(0, 0, 0, 30, true), 7, 1);
        x.height(0, 1, 1);
        c.part("26: a trip", x.cost(0, 0, 0, 1, false), x.cost(0, 0, 0, 1, true), 29, 2);
        c.part("26: no trip by toe", x.cost(0, 0, 0, 0, false), x.cost(0, 0, 0, 0, true), 6, 1);
        c.is("26: f -1", x.cost(0, 0, 0, -1, false), -1);
        c.is("26: f 31", x.cost(0, 0, 0, 31, true), -1);
        c.is("26: person 1", x.cost(1, 0, 0, 1, false), -1);
        c.is("26: house -1", x.cost(0, -1, 0, 1, false), -1);
        c.is("26: kind -1", x.cost(0, 0, -1, 1, false), -1);
        // counts 2 and 4, and at the MARK 2 again: boldly below 3 behind it too
        x.person(0, 10, 0);
        x.stair(1, 3);
        x.mark(1, 3, true);
        c.part("26: behind a mark", x.cost(1, 1, 0, 4, false), x.cost(1, 1, 0, 4, true), 1 + 1 + 3 + 6, 1);
        c.part("26: loaded", x.cost(1, 1, 1, 4, false), x.cost(1, 1, 1, 4, true), 1 + 1 + 3 + 3, 1);
        // all that can be dear: 14 trips of 99 and a jar of 99
        x.stair(2, 14);
        x.by(Check.text(x, "trips 1=1;fall 99;jar 99;"));
        c.part("26: the dearest", x.cost(0, 2, 3, 30, false), x.cost(0, 2, 3, 30, true), 1500, 1);
    }

    private static void from() {
        OneStepMore x = new OneStepMore();
        x.person(0, 0, 0);
        c.is("27: exactly", x.from(0, 0, 0), 12);
        x.person(0, 0, 10);
        c.is("27: the landing too", x.from(1, 0, 0), 13);
        x.person(0, 10, 10);
        x.stair(1, 14);
        c.is("27: all twice", x.from(2, 1, 0), 28);
        x.by(Check.text(x, "jar 2;"));
        c.is("27: of like ones the lowest", x.from(0, 0, 0), 12);
        x.by(Check.text(x, "jar 1;"));
        c.is("27: never", x.from(2, 1, 0), 30);
        x.by(Check.text(x, "trips 1=1;fall 2;jar 2;"));
        c.is("27: all alike", x.from(0, 0, 0), 0);
        c.is("27: person 3", x.from(3, 0, 0), -1);
        c.is("27: house 4", x.from(0, 4, 0), -1);
        c.is("27: kind 4", x.from(0, 0, 4), -1);
    }

    private static void worth() {
        OneStepMore x = new OneStepMore();
        x.person(5, 0, 0);
        x.stair(0, 1);
        c.is("28: the one step", x.worth(0, 0, 0), 1);
        c.is("28: drunk", x.worth(0, 0, 2), 1);
        c.is("28: loaded", x.worth(0, 0, 1), -1);
        c.is("28: both", x.worth(0, 0, 3), -1);
        c.is("28: person 1", x.worth(1, 0, 0), -1);
        c.is("28: house 4", x.worth(0, 4, 0), -1);
        c.is("28: kind 4", x.worth(0, 0, 4), -1);
        x.mark(0, 1, true);
        c.is("28: there is no step without", x.worth(0, 0, 0), -1);
        x.person(0, 0, 0);
        c.is("28: not less for one who counts", x.worth(1, 1, 0), -1);
        // the LANDING counted or not: sure again behind any MARK, so the lowest
        x.person(0, 0, 5);
        c.is("28: of like ones the lowest", x.worth(2, 1, 0), 1);
        c.is("28: no mark is made", x.house(1, 1), 0);
        x.stair(3, 2);
        x.person(10, 0, 0);
        x.mark(3, 1, true);
        c.is("28: beside the one there", x.worth(3, 3, 0), 2);
    }

    private static void goes() {
        OneStepMore x = new OneStepMore();
        x.person(0, 0, 0);
        x.stair(0, 1);
        c.is("29: one with it", x.goes(0, 0), 0);
        c.is("29: person 1", x.goes(1, 0), -1);
        c.is("29: house 4", x.goes(0, 4), -1);
        x.by(Check.text(x, "jar if loaded=1?2:0 end;"));
        c.is("29: as much", x.goes(0, 0), 2);
        x.by(Check.text(x, "jar loaded*9;none loaded*10;"));
        c.is("29: two without", x.goes(0, 0), 1);
        x.by(Check.text(x, "jar drunk*9;none drunk*10;"));
        c.is("29: sober", x.goes(0, 0), 0);
    }

    private static void lamp() {
        OneStepMore x = new OneStepMore();
        x.person(0, 0, 0);
        x.stair(0, 1);
        c.is("30: no harm", x.lamp(0, 0, 10, 50), -1);
        x.by(Check.text(x, "jar 1;"));
        c.is("30: five nights", x.lamp(0, 0, 10, 50), 5);
        c.is("30: six", x.lamp(0, 0, 10, 51), 6);
        c.is("30: one", x.lamp(0, 0, 99, 1), 1);
        c.is("30: 999", x.lamp(0, 0, 1, 999), 999);
        c.is("30: h 0", x.lamp(0, 0, 0, 50), -1);
        c.is("30: h 100", x.lamp(0, 0, 100, 50), -1);
        c.is("30: p 0", x.lamp(0, 0, 10, 0), -1);
        c.is("30: p 1000", x.lamp(0, 0, 10, 1000), -1);
        c.is("30: person 1", x.lamp(1, 0, 10, 50), -1);
        c.is("30: house 4", x.lamp(0, 4, 10, 50), -1);
        // from 1 on is best: harm 99 for one in a thousand
        x.person(1, 0, 0);
        x.stair(1, 3);
        x.by(Check.text(x, "jar 99;"));
        c.is("30: from 1 on", x.from(1, 1, 0), 1);
        c.is("30: 9990 nights", x.lamp(1, 1, 1, 989), 9990);
        c.is("30: 10000 nights", x.lamp(1, 1, 1, 990), -1);
        c.is("30: beyond 9999", x.lamp(1, 1, 1, 999), -1);
        // from 1 and from 2 on cost as much: the lowest's harm
        x.stair(2, 2);
        x.by(Check.text(x, "jar 12;"));
        c.is("30: from 1 of like ones", x.from(1, 2, 0), 1);
        c.is("30: its harm", x.lamp(1, 2, 1, 999), 8325);
    }

    private static void which() {
        OneStepMore x = new OneStepMore();
        x.person(5, 0, 0);
        c.is("31: nothing told", x.which(0, 1, 0, false), -1);
        x.stair(0, 1);
        x.stair(1, 2);
        c.part("31: 1", x.which(0, 1, 0, false), x.which(0, 1, 0, true), 1, 2);
        c.part("31: 2", x.which(0, 2, 1, false), x.which(0, 2, 1, true), 1, 1);
        c.part("31: 2, the other", x.which(0, 2, 0, false), x.which(0, 2, 0, true), 0, 1);
        c.part("31: 0", x.which(0, 0, 0, false), x.which(0, 0, 0, true), 2, 3);
        c.part("31: in none", x.which(0, 3, 0, false), x.which(0, 3, 0, true), 0, 1);
        c.is("31: house 2", x.which(0, 1, 2, false), -1);
        c.is("31: house 4", x.which(0, 1, 4, false), -1);
        c.is("31: person 1", x.which(1, 1, 0, false), -1);
        c.is("31: c 30", x.which(0, 30, 0, false), -1);
        c.is("31: c -1", x.which(0, -1, 0, false), -1);
        x.rail(2, 0);
        c.part("31: told by a rail", x.which(0, 12, 2, false), x.which(0, 12, 2, true), 1, 1);
        x.mark(1, 2, true);
        c.part("31: a mark", x.which(0, 2, 1, false), x.which(0, 2, 1, true), 2048, 2048 + 33);
    }

    private static void whether() {
        OneStepMore x = new OneStepMore();
        x.person(5, 0, 2);
        x.stair(0, 1);
        c.part("32: 0", x.whether(0, 0, 0, false), x.whether(0, 0, 0, true), 0, 1);
        c.part("32: 1", x.whether(0, 0, 1, false), x.whether(0, 0, 1, true), 1, 5);
        c.part("32: 2", x.whether(0, 0, 2, false), x.whether(0, 0, 2, true), 1, 1);
        c.is("32: 3", x.whether(0, 0, 3, false), -1);
        x.mark(0, 1, true);
        c.part("32: a mark", x.whether(0, 0, 1, false), x.whether(0, 0, 1, true), 1, 5);
        c.is("32: nobody counts 2", x.whether(0, 0, 2, false), -1);
        c.is("32: an untold house", x.whether(0, 3, 12, true) > 0, true);
        c.is("32: person 1", x.whether(1, 0, 1, false), -1);
        c.is("32: house 4", x.whether(0, 4, 1, false), -1);
        c.is("32: c 30", x.whether(0, 0, 30, false), -1);
        c.is("32: c -1", x.whether(0, 0, -1, false), -1);
    }

    private static void sure() {
        OneStepMore x = new OneStepMore();
        c.part("33: behind, not on", x.sure(1, 5, 2, false), x.sure(1, 5, 2, true), 3, 4);
        c.part("33: two of three", x.sure(2, 5, 3, false), x.sure(2, 5, 3, true), 1, 2);
        c.part("33: always", x.sure(9, 10, 9, false), x.sure(9, 10, 9, true), 1, 1);
        c.part("33: too few", x.sure(9, 10, 8, false), x.sure(9, 10, 8, true), 0, 1);
        c.part("33: 15 nights", x.sure(1, 5, 15, false), x.sure(1, 5, 15, true), 32767, 32768);
        c.is("33: r 0", x.sure(0, 5, 2, false), -1);
        c.is("33: r 10", x.sure(10, 5, 2, false), -1);
        c.is("33: a 0", x.sure(1, 0, 2, false), -1);
        c.is("33: a 11", x.sure(1, 11, 2, false), -1);
        c.is("33: n -1", x.sure(1, 5, -1, false), -1);
        c.is("33: n 16", x.sure(1, 5, 16, false), -1);
        c.part("34: 9 by 10", x.average(9, 10, false), x.average(9, 10, true), 9, 1);
        c.part("34: 2 by 3", x.average(2, 3, false), x.average(2, 3, true), 20, 3);
        c.part("34: 1 by 4", x.average(1, 4, false), x.average(1, 4, true), 5, 2);
        c.is("34: r 0", x.average(0, 4, false), -1);
        c.is("34: r 10", x.average(10, 4, false), -1);
        c.is("34: a 0", x.average(1, 0, true), -1);
        c.is("34: a 11", x.average(1, 11, true), -1);
    }

    private static void nothingChanges() {
        OneStepMore x = new OneStepMore();
        x.person(1, 2, 3);
        x.begin(0, 0, 0);
        x.step();
        int drawn = x.about(2);
        x.cost(0, 0, 0, 5, false);
        x.from(0, 0, 0);
        x.worth(0, 0, 0);
        x.lamp(0, 0, 1, 1);
        x.goes(0, 0);
        x.where(0, 0, 0, 5, 5, false);
        x.whether(0, 0, 5, false);
        c.is("III: X", x.about(2), drawn);
        c.is("III: at", x.way(3), 1);
        c.is("III: acts", x.about(5), 2);
        c.is("III: told", x.about(7), 0);
    }
}
