/** The edges of part III, sentence by sentence: promises 25 to 34. */
public final class MindEdgesTest {
    private static final Check c = new Check();
    private static final int[] NO_PERSON = {Integer.MIN_VALUE, -1, 1, 6, Integer.MAX_VALUE};
    private static final int[] NO_HOUSE = {Integer.MIN_VALUE, -1, 4, Integer.MAX_VALUE};
    private static final int[] NO_KIND = {Integer.MIN_VALUE, -1, 4, Integer.MAX_VALUE};
    private static final int[] NO_COUNT = {Integer.MIN_VALUE, -1, 30, 31, 32, Integer.MAX_VALUE};

    public static void main(String[] args) {
        whereAllCounts();
        whereStays();
        rarest();
        whereMarks();
        whereGathered();
        whereAsked();
        costFromFirstToLast();
        costAsked();
        fromFirstToLast();
        fromAsked();
        worthNone();
        worthLowest();
        worthAsked();
        goesThree();
        goesOfEachHouse();
        lampFirstAndLast();
        lampOfTrips();
        lampNone();
        lampAsked();
        whichOfTold();
        whichCounts();
        whichAsked();
        whetherFirstAndLast();
        whetherAsked();
        sureFirstAndLast();
        sureAsked();
        averageAll();
        nightAsNow();
        behindGoodOnes();
        c.end("MindEdgesTest");
    }

    /** One who counts all twice, and the LANDING. */
    private static OneStepMore twice() {
        OneStepMore x = new OneStepMore();
        x.person(0, 10, 10);
        x.stair(0, 14);
        return x;
    }

    private static void where(OneStepMore x, int kind, int count, int t, long upper, long lower) {
        c.part("25: COUNT " + count + " AT " + t, x.where(0, 0, kind, count, t, false), x.where(0, 0, kind, count, t, true),
            upper, lower);
    }

    private static void whereAllCounts() {
        OneStepMore x = twice();
        for (int count = 0; count < 30; count++) {
            for (int t = 0; t <= 14; t += 1 + count % 2) {
                if (count % 2 == 0) {
                    c.is("25: can't COUNT " + count + " anywhere", x.where(0, 0, 0, count, t, false), -1);
                } else {
                    where(x, 0, count, t, count == 1 + 2 * t ? 1 : 0, 1);
                }
            }
        }
    }

    /** One who counts nothing: each AT is alike. */
    private static void whereStays() {
        for (int n = 1; n <= 14; n++) {
            OneStepMore x = new OneStepMore();
            x.person(10, 0, 0);
            x.stair(0, n);
            where(x, 0, 0, 0, 1, n + 1);
            where(x, 0, 0, n, 1, n + 1);
            c.is("25: AT n + 1", x.where(0, 0, 0, 0, n + 1, false), -1);
            c.is("25: AT -1", x.where(0, 0, 0, 0, -1, false), -1);
            c.is("25: COUNT 1 nowhere", x.where(0, 0, 0, 1, 0, false), -1);
        }
    }

    /** One that is AT n alone, as seldom as can be: once in ten to the power of n + 1. */
    private static void rarest() {
        for (int n = 1; n <= 14; n++) {
            OneStepMore x = new OneStepMore();
            x.person(0, 1, 1);
            x.stair(0, n);
            int count = 1 + 2 * n;
            where(x, 0, count, n, 1, 1);
            where(x, 0, count, n - 1, 0, 1);
            c.is("25: one more is nowhere", x.where(0, 0, 0, count + 1, n, false), -1);
            which(x, count, 0, 1, 1);
            which(x, count + (n < 14 ? 1 : 0), 0, n < 14 ? 0 : 1, 1);
            whether(x, count, 1, 1);
            c.is("32: one more is nowhere", x.whether(0, 0, count + 1, false), -1);
        }
    }

    private static void whereMarks() {
        OneStepMore x = new OneStepMore();
        x.person(10, 0, 0);
        x.stair(0, 14);
        x.mark(0, 14, true);
        where(x, 0, 14, 14, 1, 1);
        where(x, 2, 14, 14, 1, 1);
        where(x, 0, 0, 13, 1, 14);
        where(x, 0, 0, 14, 0, 1);
        where(x, 1, 0, 14, 1, 15);
        c.is("25: LOADED, no MARK", x.where(0, 0, 1, 14, 14, false), -1);
        c.is("25: both, no MARK", x.where(0, 0, 3, 14, 14, false), -1);
        x.mark(0, 1, true);
        where(x, 0, 1, 1, 1, 13);
        where(x, 0, 1, 13, 1, 13);
        where(x, 0, 0, 0, 1, 1);
    }

    /** All COUNTS, also the highest, are the MARK's number at it. */
    private static void whereGathered() {
        for (int step = 1; step <= 14; step++) {
            OneStepMore x = twice();
            x.mark(0, step, true);
            // ahead of it 1, 3, ..; from it on step, step + 2, ..
            boolean odd = step % 2 == 1;
            boolean also = odd && step <= 1 + 2 * (step - 1);
            where(x, 0, step, step, 1, also ? 2 : 1);
            where(x, 0, step + 2 * (14 - step), 14, 1, odd && step + 2 * (14 - step) <= 1 + 2 * (step - 1) ? 2 : 1);
            where(x, 1, 29, 14, 1, 1);
            which(x, step + 2 * (14 - step), 0, 1, 1);
            whether(x, step + 2 * (14 - step), 1, 1);
        }
        // COUNT 14 ahead of it is 7 of t STEPS twice, AT t from 7 to 13: (16 + 64 + 144 + 240 + 330 + 396 + 429) by 4096
        OneStepMore x = new OneStepMore();
        x.person(5, 5, 5);
        x.stair(0, 14);
        x.mark(0, 14, true);
        where(x, 0, 14, 14, 4096, 4096 + 1619);
        c.is("32: half of them", x.whether(0, 0, 14, true), 2);
    }

    private static void whereAsked() {
        OneStepMore x = new OneStepMore();
        c.is("25: nobody told", x.where(0, 0, 0, 0, 0, false), -1);
        x.person(10, 0, 0);
        for (int wild : NO_PERSON) {
            c.is("25: person " + wild, x.where(wild, 0, 0, 0, 0, true), -1);
        }
        for (int wild : NO_HOUSE) {
            c.is("25: house " + wild, x.where(0, wild, 0, 0, 0, true), -1);
        }
        for (int wild : NO_KIND) {
            c.is("25: kind " + wild, x.where(0, 0, wild, 0, 0, true), -1);
        }
        for (int wild : NO_COUNT) {
            c.is("25: c " + wild, x.where(0, 0, 0, wild, 0, true), -1);
        }
        for (int wild : new int[] {Integer.MIN_VALUE, -1, 13, 14, Integer.MAX_VALUE}) {
            c.is("25: t " + wild, x.where(0, 0, 0, 0, wild, true), -1);
        }
        for (int house = 0; house < 4; house++) {
            c.is("25: each HOUSE", x.where(0, house, 3, 0, 12, true), 13);
        }
        OneStepMore y = twice();
        for (int count = -40; count < 0; count++) {
            c.is("25: COUNT " + count, y.where(0, 0, 0, count, 14, false), -1);
            c.is("31: COUNT " + count, y.which(0, count, 0, false), -1);
            c.is("32: COUNT " + count, y.whether(0, 0, count, false), -1);
        }
        for (int count = 30; count < 70; count++) {
            c.is("25: COUNT " + count, y.where(0, 0, 0, count, 0, false), -1);
            c.is("31: COUNT " + count, y.which(0, count, 0, false), -1);
            c.is("32: COUNT " + count, y.whether(0, 0, count, false), -1);
        }
    }

    private static void cost(OneStepMore x, int kind, int f, long upper, long lower) {
        c.part("26: f " + f, x.cost(0, 0, kind, f, false), x.cost(0, 0, kind, f, true), upper, lower);
    }

    private static void costFromFirstToLast() {
        OneStepMore x = twice();
        for (int f = 0; f <= 30; f++) {
            int boldly = f / 2;
            cost(x, 0, f, boldly + 3 * (15 - boldly) + (f == 30 ? 5 : 0), 1);
        }
        // AT 0 COUNT 0 or 1, each in 5 of 10
        OneStepMore y = new OneStepMore();
        y.person(10, 0, 5);
        y.stair(0, 1);
        cost(y, 0, 0, 6, 1);
        cost(y, 0, 1, 13, 2);
        cost(y, 0, 2, 7, 1);
        cost(y, 0, 30, 7, 1);
        y.mark(0, 1, true);
        cost(y, 0, 1, 5, 1);
        cost(y, 1, 1, 13, 2);
        cost(y, 2, 1, 5, 1);
        cost(y, 3, 1, 13, 2);
    }

    private static void costAsked() {
        OneStepMore x = new OneStepMore();
        c.is("26: nobody told", x.cost(0, 0, 0, 0, false), -1);
        x.person(0, 0, 0);
        for (int wild : NO_PERSON) {
            c.is("26: person " + wild, x.cost(wild, 0, 0, 0, true), -1);
        }
        for (int wild : NO_HOUSE) {
            c.is("26: house " + wild, x.cost(0, wild, 0, 0, true), -1);
        }
        for (int wild : NO_KIND) {
            c.is("26: kind " + wild, x.cost(0, 0, wild, 0, true), -1);
        }
        for (int wild : new int[] {Integer.MIN_VALUE, -1, 31, Integer.MAX_VALUE}) {
            c.is("26: f " + wild, x.cost(0, 0, 0, wild, true), -1);
        }
        for (int house = 0; house < 4; house++) {
            c.is("26: each HOUSE", x.cost(0, house, 3, 0, false), 39);
        }
    }

    private static void fromFirstToLast() {
        OneStepMore x = twice();
        Check.text(x, "jar 1;");
        Check.text(x, "jar 2;");
        Check.text(x, "jar 3;");
        Check.text(x, "trips 1=1;fall 2;jar 2;");
        x.by(0);
        c.is("27: the last", x.from(0, 0, 0), 30);
        x.by(1);
        c.is("27: COUNT 28 and 29 are alike with 30", x.from(0, 0, 0), 28);
        x.by(2);
        c.is("27: COUNT 28 and 29 are alike", x.from(0, 0, 0), 28);
        x.by(3);
        c.is("27: all are alike", x.from(0, 0, 0), 0);
        OneStepMore y = new OneStepMore();
        y.person(0, 0, 0);
        y.by(Check.text(y, "jar 0;"));
        for (int n = 1; n <= 14; n++) {
            y.by(-1);
            y.stair(3, n);
            c.is("27: at n", y.from(0, 3, 0), n);
            y.by(0);
            c.is("27: behind n", y.from(0, 3, 0), n + 1);
        }
        y.by(Check.text(y, "trips 1=1;fall 3;jar 3;"));
        c.is("27: never", y.from(0, 3, 0), 0);
    }

    private static void fromAsked() {
        OneStepMore x = new OneStepMore();
        c.is("27: nobody told", x.from(0, 0, 0), -1);
        x.person(0, 0, 0);
        for (int wild : NO_PERSON) {
            c.is("27: person " + wild, x.from(wild, 0, 0), -1);
        }
        for (int wild : NO_HOUSE) {
            c.is("27: house " + wild, x.from(0, wild, 0), -1);
        }
        for (int wild : NO_KIND) {
            c.is("27: kind " + wild, x.from(0, 0, wild), -1);
        }
        for (int house = 0; house < 4; house++) {
            for (int kind = 0; kind < 4; kind++) {
                c.is("27: each", x.from(0, house, kind), 12);
            }
        }
    }

    private static void worthNone() {
        OneStepMore x = new OneStepMore();
        x.person(0, 0, 0);
        x.person(5, 0, 0);
        for (int n = 1; n <= 14; n++) {
            x.stair(0, n);
            c.is("28: it isn't less for one who counts", x.worth(0, 0, 0), -1);
            c.is("28: it is for one who doesn't", x.worth(1, 0, 0) > 0, true);
            c.is("28: LOADED none", x.worth(1, 0, 1), -1);
            c.is("28: both none", x.worth(1, 0, 3), -1);
        }
        for (int step = 1; step <= 14; step++) {
            x.mark(0, step, true);
        }
        c.is("28: no STEP without MARK", x.worth(1, 0, 0), -1);
        x.mark(0, 9, false);
        // COUNT 8 is AT 8, and AT 9 too, but 10 is surely AT 10: as good as it can be is not so
        c.is("28: nothing to win inside", x.worth(1, 0, 0), -1);
        x.mark(0, 9, true);
        x.mark(0, 14, false);
        c.is("28: the last STEP", x.worth(1, 0, 0), 14);
        // AT 1 COUNT 2 is felt, if the LANDING was counted: a MARK ahead of the one that stands helps
        x.person(0, 0, 5);
        x.stair(0, 2);
        x.mark(0, 2, true);
        c.is("28: ahead of one that stands", x.worth(2, 0, 0), 1);
        c.is("28: no MARK is made by it", x.house(0, 1), 4);
    }

    private static void worthLowest() {
        OneStepMore x = new OneStepMore();
        x.person(0, 0, 5);
        for (int n = 1; n <= 14; n++) {
            x.stair(0, n);
            // only the LANDING is unsure: ahead of STEP n any MARK makes all sure; of 1 STEP, COUNT 1 is AT 0, too
            c.is("28: of like ones the lowest", x.worth(0, 0, 0), n == 1 ? -1 : 1);
            c.is("28: drunk, too", x.worth(0, 0, 2), n == 1 ? -1 : 1);
        }
        // unsure at STEP 2, too: the MARK stands at it, or behind it
        x.by(Check.text(x, "none if nth=2?5:0 end;"));
        x.stair(0, 6);
        c.is("28: behind what is unsure", x.worth(0, 0, 0), 2);
        x.mark(0, 2, true);
        c.is("28: one that stands isn't counted", x.worth(0, 0, 0), -1);
        x.mark(0, 2, false);
        x.mark(0, 1, true);
        c.is("28: beside the one there", x.worth(0, 0, 0), 2);
    }

    private static void worthAsked() {
        OneStepMore x = new OneStepMore();
        c.is("28: nobody told", x.worth(0, 0, 0), -1);
        x.person(5, 0, 0);
        for (int wild : NO_PERSON) {
            c.is("28: person " + wild, x.worth(wild, 0, 0), -1);
        }
        for (int wild : NO_HOUSE) {
            c.is("28: house " + wild, x.worth(0, wild, 0), -1);
        }
        for (int wild : NO_KIND) {
            c.is("28: kind " + wild, x.worth(0, 0, wild), -1);
        }
        c.is("28: HOUSE 3", x.worth(0, 3, 2) > 0, true);
    }

    private static void goesThree() {
        OneStepMore x = new OneStepMore();
        c.is("29: nobody told", x.goes(0, 0), -1);
        x.person(0, 0, 0);
        x.stair(0, 1);
        // without: 0 HARM, 2 SECONDS: two ways cost 4; with: 2 and the jar, or 4 by a TOE
        Check.text(x, "jar if loaded=1?1:0 end;");
        Check.text(x, "jar if loaded=1?2:0 end;");
        Check.text(x, "jar if loaded=1?3:0 end;trips loaded=1;fall 1;");
        x.by(0);
        c.is("29: two cost more", x.goes(0, 0), 0);
        x.by(1);
        c.is("29: as much", x.goes(0, 0), 2);
        x.by(2);
        c.is("29: two cost less", x.goes(0, 0), 1);
        for (int wild : NO_PERSON) {
            c.is("29: person " + wild, x.goes(wild, 0), -1);
        }
        for (int wild : NO_HOUSE) {
            c.is("29: house " + wild, x.goes(0, wild), -1);
        }
        // 13 twice, and 12 * 2 with 3 for the TOE
        c.is("29: HOUSE 3", x.goes(0, 3), 1);
    }

    private static void goesOfEachHouse() {
        for (int house = 0; house < 4; house++) {
            OneStepMore x = new OneStepMore();
            x.person(10, 0, 0);
            x.person(0, 0, 0);
            for (int other = 0; other < 4; other++) {
                x.stair(other, other == house ? 1 : 14);
            }
            // of 1 STEP: two ways of 2 SECONDS, and one of 2 with HARM, or 4 with a TOE; of 14 STEPS: 15, and 15 + 2 at most
            x.by(Check.text(x, "jar if loaded=1?3:0 end;trips loaded=1 and steps=1;fall 1;"));
            for (int other = 0; other < 4; other++) {
                c.is("29: HOUSE " + other + " beside " + house, x.goes(1, other), other == house ? 1 : 0);
            }
        }
    }

    private static void lampFirstAndLast() {
        OneStepMore x = new OneStepMore();
        x.person(0, 0, 0);
        x.by(Check.text(x, "jar 1;"));
        c.is("30: h 1, p 1", x.lamp(0, 0, 1, 1), 1);
        c.is("30: h 99, p 1", x.lamp(0, 0, 99, 1), 1);
        c.is("30: h 99, p 99", x.lamp(0, 0, 99, 99), 1);
        c.is("30: h 99, p 100", x.lamp(0, 0, 99, 100), 2);
        c.is("30: h 99, p 198", x.lamp(0, 0, 99, 198), 2);
        c.is("30: h 99, p 199", x.lamp(0, 0, 99, 199), 3);
        c.is("30: h 1, p 999", x.lamp(0, 0, 1, 999), 999);
        c.is("30: h 99, p 999", x.lamp(0, 0, 99, 999), 11);
        // COUNT below 3 at STEP 5: 1 in 10, 1 in 10, 3 in 10, 7 in 10, 9 in 10, so HARM is 39 * 0.00189 = 0.07371
        OneStepMore y = new OneStepMore();
        y.person(0, 0, 9);
        y.stair(0, 5);
        y.by(Check.text(y, "none if nth=1?1:if nth=2?3:if nth=3?7:0 end end end;twice if nth=2?6:if nth=5?1:0 end end;"
            + "jar 39;"));
        c.is("30: from 3 on is best", y.from(0, 0, 0), 3);
        c.is("30: 736 / 0.07371", y.lamp(0, 0, 1, 736), 9986);
        c.is("30: the last NIGHT", y.lamp(0, 0, 1, 737), 9999);
        c.is("30: one that can't", y.lamp(0, 0, 1, 738), -1);
        c.is("30: at 2 pence it can", y.lamp(0, 0, 2, 738), 5007);
        c.is("30: the dearest", y.lamp(0, 0, 1, 999), -1);
    }

    /** HARM of TRIPS counts as often as the STEP is boldly gone: COUNT is 0 or 1 at first, each in 5 of 10. */
    private static void lampOfTrips() {
        OneStepMore x = new OneStepMore();
        x.person(0, 0, 5);
        x.stair(0, 2);
        Check.text(x, "trips nth=1;fall 1;jar 9;");
        Check.text(x, "trips nth=2;fall 1;jar 9;");
        x.by(0);
        c.is("30: from 2 on is best", x.from(0, 0, 0), 2);
        c.is("30: a TRIP each NIGHT", x.lamp(0, 0, 1, 10), 10);
        x.by(1);
        c.is("30: from 2 on is best here too", x.from(0, 0, 0), 2);
        c.is("30: a TRIP each second NIGHT", x.lamp(0, 0, 1, 10), 20);
        c.is("30: of 3 pence", x.lamp(0, 0, 3, 10), 7);
    }

    private static void lampNone() {
        OneStepMore x = new OneStepMore();
        x.person(0, 0, 0);
        c.is("30: no HARM from the best f on", x.lamp(0, 0, 99, 1), -1);
        x.stair(0, 2);
        x.height(0, 1, 9);
        c.is("30: all is felt, as there is a TRIP at each STEP", x.lamp(0, 0, 99, 1), -1);
        x.by(Check.text(x, "trips nth=1;fall 2;jar 0;"));
        c.is("30: f 3, a TRIP of 2 each NIGHT", x.lamp(0, 0, 1, 10), 5);
        x.by(Check.text(x, "jar 1;none loaded*10+drunk*10;fall 50;trips loaded=1 or drunk=1;"));
        c.is("30: of kind 0", x.lamp(0, 1, 1, 10), 10);
    }

    private static void lampAsked() {
        OneStepMore x = new OneStepMore();
        c.is("30: nobody told", x.lamp(0, 0, 1, 1), -1);
        x.person(0, 0, 0);
        x.by(Check.text(x, "jar 1;"));
        for (int wild : NO_PERSON) {
            c.is("30: person " + wild, x.lamp(wild, 0, 1, 1), -1);
        }
        for (int wild : NO_HOUSE) {
            c.is("30: house " + wild, x.lamp(0, wild, 1, 1), -1);
        }
        for (int wild : new int[] {Integer.MIN_VALUE, -1, 0, 100, Integer.MAX_VALUE}) {
            c.is("30: h " + wild, x.lamp(0, 0, wild, 1), -1);
        }
        for (int wild : new int[] {Integer.MIN_VALUE, -1, 0, 1000, Integer.MAX_VALUE}) {
            c.is("30: p " + wild, x.lamp(0, 0, 1, wild), -1);
        }
        c.is("30: HOUSE 3", x.lamp(0, 3, 1, 1), 1);
    }

    private static void which(OneStepMore x, int count, int house, long upper, long lower) {
        c.part("31: COUNT " + count + ", HOUSE " + house, x.which(0, count, house, false), x.which(0, count, house, true),
            upper, lower);
    }

    private static void whichOfTold() {
        OneStepMore x = new OneStepMore();
        x.person(0, 0, 0);
        for (int house = 0; house < 4; house++) {
            c.is("31: nothing was told", x.which(0, 12, house, false), -1);
        }
        x.stair(0, 12);
        which(x, 12, 0, 1, 1);
        c.is("31: of 1 nothing was told", x.which(0, 12, 1, false), -1);
        x.height(1, 1, 5);
        which(x, 12, 0, 1, 2);
        x.rail(2, 0);
        which(x, 12, 0, 1, 3);
        x.mark(3, 12, true);
        for (int house = 0; house < 4; house++) {
            which(x, 12, house, 1, 4);
        }
        // 0 by 1, if it can be in none
        for (int house = 0; house < 4; house++) {
            which(x, 11, house, 0, 1);
        }
        x.stair(3, 11);
        which(x, 11, 3, 1, 1);
        which(x, 11, 0, 0, 1);
        which(x, 12, 3, 0, 1);
        which(x, 12, 0, 1, 3);
        x.by(Check.text(x, "none loaded*10;twice drunk*10;"));
        which(x, 12, 0, 1, 3);
        x.by(Check.text(x, "none if house=0?5:0 end;"));
        which(x, 12, 0, 1, 1 + 2 * 4096);
        which(x, 12, 1, 4096, 1 + 2 * 4096);
    }

    private static void whichCounts() {
        OneStepMore x = twice();
        for (int count = 0; count < 30; count++) {
            which(x, count, 0, count == 29 ? 1 : 0, 1);
        }
        OneStepMore y = new OneStepMore();
        y.person(10, 0, 0);
        y.stair(3, 14);
        which(y, 0, 3, 1, 1);
        which(y, 1, 3, 0, 1);
        y.mark(3, 14, true);
        which(y, 14, 3, 1, 1);
        which(y, 0, 3, 0, 1);
    }

    private static void whichAsked() {
        OneStepMore x = new OneStepMore();
        x.rail(0, 0);
        x.rail(3, 0);
        c.is("31: nobody told", x.which(0, 0, 0, false), -1);
        x.person(10, 0, 0);
        for (int wild : NO_PERSON) {
            c.is("31: person " + wild, x.which(wild, 0, 0, true), -1);
        }
        for (int wild : NO_HOUSE) {
            c.is("31: house " + wild, x.which(0, 0, wild, true), -1);
        }
        for (int wild : NO_COUNT) {
            c.is("31: c " + wild, x.which(0, wild, 0, true), -1);
        }
        c.is("31: HOUSE 1, not told", x.which(0, 0, 1, true), -1);
        c.is("31: HOUSE 3, told", x.which(0, 0, 3, true), 2);
    }

    private static void whether(OneStepMore x, int count, long upper, long lower) {
        c.part("32: COUNT " + count, x.whether(0, 0, count, false), x.whether(0, 0, count, true), upper, lower);
    }

    private static void whetherFirstAndLast() {
        OneStepMore x = twice();
        for (int count = 0; count < 29; count++) {
            c.is("32: one can't come to the JAR so, " + count, x.whether(0, 0, count, false), -1);
        }
        whether(x, 29, 1, 1);
        for (int landing = 0; landing <= 10; landing++) {
            OneStepMore y = new OneStepMore();
            y.person(10, 0, landing);
            y.stair(0, 14);
            if (landing < 10) {
                whether(y, 0, 0, 1);
            } else {
                c.is("32: none COUNTS 0", y.whether(0, 0, 0, true), -1);
            }
            if (landing > 0) {
                whether(y, 1, 1, 1);
            } else {
                c.is("32: none COUNTS 1", y.whether(0, 0, 1, true), -1);
            }
            c.is("32: none COUNTS 2", y.whether(0, 0, 2, true), -1);
            y.mark(0, 14, true);
            int divisor = landing == 0 || landing == 10 ? 10 : landing == 5 ? 5 : landing % 2 == 0 ? 2 : 1;
            whether(y, 14, landing / divisor, 10 / divisor);
            c.is("32: none COUNTS 0 then", y.whether(0, 0, 0, true), -1);
        }
        OneStepMore z = new OneStepMore();
        z.person(5, 0, 2);
        z.stair(0, 1);
        z.by(Check.text(z, "none loaded*10;twice drunk*10;"));
        whether(z, 1, 0, 1);
        whether(z, 2, 1, 1);
    }

    private static void whetherAsked() {
        OneStepMore x = new OneStepMore();
        c.is("32: nobody told", x.whether(0, 0, 0, false), -1);
        x.person(10, 0, 0);
        for (int wild : NO_PERSON) {
            c.is("32: person " + wild, x.whether(wild, 0, 0, true), -1);
        }
        for (int wild : NO_HOUSE) {
            c.is("32: house " + wild, x.whether(0, wild, 0, true), -1);
        }
        for (int wild : NO_COUNT) {
            c.is("32: c " + wild, x.whether(0, 0, wild, true), -1);
        }
        c.is("32: HOUSE 3, not told", x.whether(0, 3, 0, true), 1);
    }

    private static void sure(OneStepMore x, int r, int a, int n, long upper, long lower) {
        c.part("33: " + r + " NIGHTS, " + a + ", behind " + n, x.sure(r, a, n, false), x.sure(r, a, n, true), upper, lower);
    }

    private static void sureFirstAndLast() {
        OneStepMore x = new OneStepMore();
        long power = 1;
        for (int n = 1; n <= 15; n++) {
            power *= 10;
            sure(x, 1, 10, n, 1, 1);
            sure(x, 9, 10, n, n < 9 ? 0 : 1, 1);
            if (n <= 9) {
                sure(x, n, 1, n, 1, power);
            }
            if (n < 9) {
                sure(x, n + 1, 1, n, 0, 1);
            }
        }
        for (int r = 1; r <= 9; r++) {
            for (int a = 1; a <= 10; a++) {
                sure(x, r, a, 0, 0, 1);
            }
        }
        sure(x, 1, 1, 1, 1, 10);
        sure(x, 1, 1, 2, 19, 100);
        sure(x, 1, 1, 15, 794108867905351L, 1000000000000000L);
        sure(x, 1, 9, 15, 999999999999999L, 1000000000000000L);
        sure(x, 8, 5, 15, 1, 2);
        sure(x, 2, 5, 3, 1, 2);
        sure(x, 2, 1, 3, 7, 250);
        sure(x, 9, 1, 10, 91, 10000000000L);
    }

    private static void sureAsked() {
        OneStepMore x = new OneStepMore();
        for (int wild : new int[] {Integer.MIN_VALUE, -1, 0, 10, Integer.MAX_VALUE}) {
            c.is("33: r " + wild, x.sure(wild, 5, 5, true), -1);
            c.is("34: r " + wild, x.average(wild, 5, true), -1);
        }
        for (int wild : new int[] {Integer.MIN_VALUE, -1, 0, 11, Integer.MAX_VALUE}) {
            c.is("33: a " + wild, x.sure(5, wild, 5, true), -1);
            c.is("34: a " + wild, x.average(5, wild, true), -1);
        }
        for (int wild : new int[] {Integer.MIN_VALUE, -1, 16, Integer.MAX_VALUE}) {
            c.is("33: n " + wild, x.sure(5, 5, wild, true), -1);
        }
        c.is("33: on a new object", x.sure(9, 1, 15, true) > 0, true);
    }

    private static void averageAll() {
        OneStepMore x = new OneStepMore();
        for (int r = 1; r <= 9; r++) {
            for (int a = 1; a <= 10; a++) {
                int upper = x.average(r, a, false);
                int lower = x.average(r, a, true);
                c.is("34: r by a out of 10", upper * a, lower * r * 10);
                for (int d = 2; d <= 10; d++) {
                    c.is("34: in lowest terms", upper % d == 0 && lower % d == 0, false);
                }
            }
        }
        c.part("34: the first", x.average(1, 10, false), x.average(1, 10, true), 1, 1);
        c.part("34: the last", x.average(9, 1, false), x.average(9, 1, true), 90, 1);
    }

    private static void nightAsNow() {
        OneStepMore x = new OneStepMore();
        x.person(0, 0, 0);
        x.stair(0, 1);
        x.by(Check.text(x, "jar nights;none if nights=1?10:0 end;"));
        cost(x, 0, 30, 2, 1);
        x.night(1);
        cost(x, 0, 30, 3, 1);
        where(x, 0, 0, 1, 1, 2);
        x.night(98);
        cost(x, 0, 30, 101, 1);
        c.is("26: nothing is changed", x.about(1), 99);
    }

    /** What was asked ahead leaves nothing for a wrong question to be answered by. */
    private static void behindGoodOnes() {
        OneStepMore x = new OneStepMore();
        x.person(3, 1, 5);
        x.stair(0, 14);
        for (int wild : new int[] {Integer.MIN_VALUE, -1, 4, 6, Integer.MAX_VALUE}) {
            c.is("28: a good one", x.worth(0, 0, 0) > 0, true);
            c.is("28: person " + wild, x.worth(wild, 0, 0), -1);
            c.is("28: house " + wild, x.worth(0, wild, 0), -1);
            c.is("28: kind " + wild, x.worth(0, 0, wild), -1);
            c.is("25: person " + wild, x.where(wild, 0, 0, 7, 7, true), -1);
            c.is("25: house " + wild, x.where(0, wild, 0, 7, 7, true), -1);
            c.is("25: kind " + wild, x.where(0, 0, wild, 7, 7, true), -1);
            c.is("26: person " + wild, x.cost(wild, 0, 0, 7, true), -1);
            c.is("26: house " + wild, x.cost(0, wild, 0, 7, true), -1);
            c.is("26: kind " + wild, x.cost(0, 0, wild, 7, true), -1);
            c.is("27: person " + wild, x.from(wild, 0, 0), -1);
            c.is("27: house " + wild, x.from(0, wild, 0), -1);
            c.is("27: kind " + wild, x.from(0, 0, wild), -1);
            c.is("29: person " + wild, x.goes(wild, 0), -1);
            c.is("29: house " + wild, x.goes(0, wild), -1);
            c.is("30: person " + wild, x.lamp(wild, 0, 9, 9), -1);
            c.is("30: house " + wild, x.lamp(0, wild, 9, 9), -1);
            c.is("31: person " + wild, x.which(wild, 14, 0, true), -1);
            c.is("31: house " + wild, x.which(0, 14, wild, true), -1);
            c.is("32: person " + wild, x.whether(wild, 0, 14, true), -1);
            c.is("32: house " + wild, x.whether(0, wild, 14, true), -1);
        }
        sure(x, 2, 3, 5, 23589, 50000);
        sure(x, 1, 3, 2, 51, 100);
    }
}
