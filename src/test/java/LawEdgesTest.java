/** The edges of what laws say and of how TEXTS are PLAYED: part II behind the TOKENS, promises 18 and 23. */
public final class LawEdgesTest {
    private static final Check c = new Check();

    public static void main(String[] args) {
        millions();
        divisions();
        fromTheLeft();
        eithers();
        choices();
        noneBounds();
        twiceBounds();
        jarAndFallBounds();
        without();
        tripsWithout();
        tripsOfLaws();
        names();
        saysAsked();
        playedAsked();
        playedSteps();
        playedNights();
        playedPlace();
        playedDeeds();
        playedBegun();
        c.end("LawEdgesTest");
    }

    /** What a SUM from 0 to 99 is. */
    private static int sum(String sum) {
        OneStepMore x = new OneStepMore();
        x.person(0, 0, 0);
        x.by(Check.text(x, "jar " + sum + ";"));
        return x.says(0, 0, 0, 1, 3);
    }

    private static void due(String sum, int due) {
        c.is("II: " + sum, sum(sum), due);
    }

    private static void millions() {
        due("1000*1000-9999*100-50", 50);
        due("1000*1000-1-9999*100-50", 49);
        due("1000*1000+1-9999*100-50", 50);
        due("1000*1000+0-9999*100-50", 50);
        due("1001*1000-9999*100-50", 50);
        due("9999*9999-9999*100-50", 50);
        due("1000*1000*1000*1000-9999*100-50", 50);
        due("1000*1000+9999-9999*100-50", 50);
        due("9999*9999+9999*9999-9999*100-50", 50);
        due("-1000*1000+9999*100+150", 50);
        due("-1000*1000+1+9999*100+149", 50);
        due("-1000*1000-1+9999*100+150", 50);
        due("-1001*1000+9999*100+150", 50);
        due("-9999*9999*9999*9999+9999*100+150-100*2", 0);
        due("0-9999*9999-9999*9999+9999*100+150", 50);
        due("-(0-1000*1000-5)-9999*100-50", 50);
        due("1000*1000*-1*1000+9999*100+150", 50);
        due("-1000*1000*(0-1000*1000)-9999*100-50", 50);
        due("(1000*1000+5)/1000/100", 10);
        due("(0-1000*1000-5)/1000/100+15", 5);
        due("if 1000*1000+1=1000*1000?7:8 end", 7);
        due("if 0-1000*1000-1=0-1000*1000?7:8 end", 7);
        due("if 1000*1000-1=1000*1000?7:8 end", 8);
        due("if 1000*1000*-1<0-999*1000?7:8 end", 7);
    }

    private static void divisions() {
        due("1/0", 0);
        due("0/0+3", 3);
        due("0-9/0+3", 3);
        due("9/(1-1)*5+4", 4);
        due("0/5", 0);
        due("7/7", 1);
        due("6/7", 0);
        due("8/7", 1);
        due("-6/7+5", 5);
        due("-7/7+5", 4);
        due("-8/7+5", 4);
        due("-13/7+5", 4);
        due("-14/7+5", 3);
        due("8/-7+5", 4);
        due("13/-7+5", 4);
        due("-13/-7+5", 6);
        due("0-13/7+5", 4);
        due("1000*1000/9999", 99);
        due("(0-1000*1000)/1/9999+99", 0);
    }

    private static void fromTheLeft() {
        due("9-5-3", 1);
        due("9-5+3", 7);
        due("60/6/2", 5);
        due("60/6*2", 20);
        due("7*3/2", 10);
        due("7/2*3", 9);
        due("2*3+4*5-6/2", 23);
        due("2*(3+4)*5", 70);
        due("9-(5-3)", 7);
        due("--5", 5);
        due("-5*-5", 25);
        due("--(-5)+9", 4);
        due("3--5", 8);
        due("if 1=1?2:3 end*4+1", 9);
        due("5*if 1=2?2:3 end", 15);
    }

    private static void either(String either, boolean due) {
        OneStepMore x = new OneStepMore();
        x.person(0, 0, 0);
        x.by(Check.text(x, "trips " + either + ";"));
        c.is("II: " + either, x.says(0, 0, 0, 1, 2), due ? 1 : 0);
    }

    private static void eithers() {
        String[] signs = {"<", "<=", ">", ">=", "=", "#"};
        boolean[][] due = {
            {true, false, false}, {true, true, false}, {false, false, true}, {false, true, true}, {false, true, false},
            {true, false, true}};
        for (int i = 0; i < signs.length; i++) {
            either("4" + signs[i] + "5", due[i][0]);
            either("5" + signs[i] + "5", due[i][1]);
            either("6" + signs[i] + "5", due[i][2]);
            either("-6" + signs[i] + "-5", due[i][0]);
            either("not 4" + signs[i] + "5", !due[i][0]);
            either("not 5" + signs[i] + "5", !due[i][1]);
            either("not 6" + signs[i] + "5", !due[i][2]);
            either("not not not 6" + signs[i] + "5", !due[i][2]);
            either("not not 5" + signs[i] + "5", due[i][1]);
        }
        String yes = "1=1";
        String no = "1=2";
        either(yes + " or " + yes, true);
        either(yes + " or " + no, true);
        either(no + " or " + yes, true);
        either(no + " or " + no, false);
        either(yes + " and " + yes, true);
        either(yes + " and " + no, false);
        either(no + " and " + yes, false);
        either(no + " and " + no, false);
        either(yes + " or " + yes + " and " + no, true);
        either(no + " and " + yes + " or " + yes, true);
        either("not " + yes + " or " + yes, true);
        either("not " + no + " and " + no, false);
        either("not " + yes + " and " + no, false);
        either(no + " or " + no + " or " + yes, true);
        either(yes + " and " + yes + " and " + no, false);
        either("1+1=2 and 2*3>5", true);
    }

    private static void choices() {
        due("if 1=1?3:4 end", 3);
        due("if 1=2?3:4 end", 4);
        due("if 1=1?if 1=2?3:4 end:5 end", 4);
        due("if 1=2?if 1=2?3:4 end:if 1=1?6:7 end end", 6);
        due("if if 1=1?2:3 end=2?4:5 end", 4);
        // the other SUM isn't worked: nothing of it stays
        due("if 1=1?3:9999*9999/0 end+1", 4);
        due("if 1=2?9999*9999/0:3 end+1", 4);
        due("2*if 1=1?3:4 end+if 1=2?5:6 end", 12);
        // each of them a SUM
        due("if 1=1?2+3:4+5 end", 5);
        due("if 1=2?2+3:4+5 end", 9);
        due("if 1=1?9-2-3:4 end", 4);
        due("if 1=2?9:8-3*2+1 end", 3);
        due("if 1+1=3-1?7:8 end", 7);
        due("if 1=1?-3+5:6 end", 2);
        due("if 1=2?6:-(3-5)+1 end", 3);
    }

    private static void noneBounds() {
        String[] sums = {"0-9999*9999", "-1", "0", "1", "9", "10", "11", "9999", "9999*9999"};
        int[] due = {0, 0, 0, 1, 9, 10, 10, 10, 10};
        for (int i = 0; i < sums.length; i++) {
            OneStepMore x = new OneStepMore();
            x.person(3, 7, 0);
            x.by(Check.text(x, "none " + sums[i] + ";"));
            c.is("II: none " + sums[i], x.says(0, 0, 0, 1, 0), due[i]);
            c.is("II: the PERSON's TWICE, 10 less none at most", x.says(0, 0, 0, 1, 1), Math.min(7, 10 - due[i]));
        }
    }

    private static void twiceBounds() {
        for (int none = 0; none <= 10; none++) {
            for (int twice = -1; twice <= 12; twice++) {
                OneStepMore x = new OneStepMore();
                x.person(none, 0, 0);
                x.person(0, none, 0);
                x.by(Check.text(x, "twice " + twice + ";"));
                int due = Math.max(0, Math.min(10 - none, twice));
                c.is("II: twice " + twice + " behind the PERSON's NONE " + none, x.says(0, 0, 0, 1, 1), due);
                x.by(Check.text(x, "none " + none + ";twice 0+" + twice + ";"));
                c.is("II: twice " + twice + " behind none " + none, x.says(1, 0, 0, 1, 1), due);
            }
        }
        OneStepMore x = new OneStepMore();
        x.person(0, 0, 0);
        x.by(Check.text(x, "none 20;twice 20;"));
        c.is("II: 10 less the none that it is", x.says(0, 0, 0, 1, 1), 0);
        x.by(Check.text(x, "none 0-20;twice 20;"));
        c.is("II: 10 less a none of 0", x.says(0, 0, 0, 1, 1), 10);
    }

    private static void jarAndFallBounds() {
        String[] sums = {"0-9999*9999", "-1", "0", "1", "98", "99", "100", "9999*9999"};
        int[] due = {0, 0, 0, 1, 98, 99, 99, 99};
        for (int i = 0; i < sums.length; i++) {
            OneStepMore x = new OneStepMore();
            x.person(0, 0, 0);
            x.by(Check.text(x, "jar " + sums[i] + ";"));
            c.is("II: jar " + sums[i], x.says(0, 0, 0, 1, 3), due[i]);
            c.is("II: fall without", x.says(0, 0, 0, 1, 4), 9);
            x.by(Check.text(x, "fall " + sums[i] + ";"));
            c.is("II: fall " + sums[i], x.says(0, 0, 0, 1, 4), due[i]);
            c.is("II: jar without", x.says(0, 0, 0, 1, 3), 5);
        }
    }

    private static void without() {
        OneStepMore x = new OneStepMore();
        x.person(4, 6, 0);
        x.person(10, 0, 0);
        x.person(0, 10, 0);
        Check.text(x, "");
        Check.text(x, "stop;");
        for (int text = -1; text < 2; text++) {
            x.by(text);
            c.is("II: none without", x.says(0, 0, 0, 1, 0), 4);
            c.is("II: twice without", x.says(0, 0, 0, 1, 1), 6);
            c.is("II: none of 10", x.says(1, 3, 3, 12, 0), 10);
            c.is("II: no twice", x.says(1, 3, 3, 12, 1), 0);
            c.is("II: no none", x.says(2, 3, 3, 12, 0), 0);
            c.is("II: twice of 10", x.says(2, 3, 3, 12, 1), 10);
            c.is("II: trips without", x.says(0, 0, 0, 1, 2), 0);
            c.is("II: jar without", x.says(0, 0, 0, 1, 3), 5);
            c.is("II: fall without", x.says(0, 0, 0, 1, 4), 9);
        }
    }

    private static void tripsWithout() {
        OneStepMore x = new OneStepMore();
        x.person(0, 0, 0);
        x.by(Check.text(x, "jar 1;"));
        for (int rule = -1; rule < 1; rule++) {
            x.by(rule);
            for (int height = 1; height <= 9; height++) {
                x.height(0, 1, height);
                c.is("II: the LANDING 5 and " + height, x.says(0, 0, 0, 1, 2), Math.abs(height - 5) >= 3 ? 1 : 0);
            }
        }
        for (int ahead = 1; ahead <= 9; ahead++) {
            for (int height = 1; height <= 9; height++) {
                OneStepMore y = new OneStepMore();
                y.person(0, 0, 0);
                y.stair(3, 14);
                y.height(3, 13, ahead);
                y.height(3, 14, height);
                c.is("II: " + ahead + " and " + height, y.says(0, 3, 0, 14, 2), Math.abs(height - ahead) >= 3 ? 1 : 0);
            }
        }
    }

    private static void tripsOfLaws() {
        OneStepMore x = new OneStepMore();
        x.person(0, 0, 0);
        x.height(0, 1, 9);
        x.by(Check.text(x, "trips height>9;"));
        c.is("II: a law instead", x.says(0, 0, 0, 1, 2), 0);
        x.by(Check.text(x, "trips height>=9;"));
        c.is("II: it is so", x.says(0, 0, 0, 1, 2), 1);
        c.is("II: elsewhere not", x.says(0, 0, 0, 2, 2), 0);
    }

    private static void names() {
        OneStepMore x = new OneStepMore();
        for (int i = 0; i < 6; i++) {
            x.person(0, 0, 0);
        }
        x.stair(3, 14);
        x.stair(0, 1);
        x.rail(3, 13);
        x.height(3, 14, 9);
        x.height(3, 13, 1);
        x.by(Check.text(x, "jar who*10+house;fall steps+drunk*20+loaded*40;none nth-5+rail*0;twice last;trips height=9;"));
        c.is("II: who 5, house 3", x.says(5, 3, 0, 1, 3), 53);
        c.is("II: who 0, house 0", x.says(0, 0, 0, 1, 3), 0);
        c.is("II: steps 14", x.says(0, 3, 0, 1, 4), 14);
        c.is("II: steps 1", x.says(0, 0, 0, 1, 4), 1);
        c.is("II: loaded", x.says(0, 0, 1, 1, 4), 41);
        c.is("II: drunk", x.says(0, 0, 2, 1, 4), 21);
        c.is("II: both", x.says(0, 0, 3, 1, 4), 61);
        c.is("II: nth 14", x.says(0, 3, 0, 14, 0), 9);
        c.is("II: last, ahead of STEP 14", x.says(0, 3, 0, 14, 1), 1);
        c.is("II: last, ahead of STEP 1", x.says(0, 3, 0, 1, 1), 5);
        c.is("II: height of STEP 14", x.says(0, 3, 0, 14, 2), 1);
        c.is("II: height of STEP 13", x.says(0, 3, 0, 13, 2), 0);
        x.by(Check.text(x, "trips rail=1;jar nights/10;fall nights-nights/10*10;"));
        for (int kind = 0; kind < 4; kind++) {
            c.is("II: rail, kind " + kind, x.says(0, 3, kind, 13, 2), kind % 2 == 0 ? 1 : 0);
            c.is("II: behind it, kind " + kind, x.says(0, 3, kind, 14, 2), 0);
            c.is("II: without a RAIL, kind " + kind, x.says(0, 0, kind, 1, 2), 0);
        }
        x.by(Check.text(x, "none rail+4;twice drunk+5;jar loaded+6;"));
        for (int kind = 0; kind < 4; kind++) {
            c.is("II: rail 1 or 0, kind " + kind, x.says(0, 3, kind, 1, 0), kind % 2 == 0 ? 5 : 4);
            c.is("II: rail 0, kind " + kind, x.says(0, 3, kind, 14, 0), 4);
            c.is("II: drunk 1 or 0, kind " + kind, x.says(0, 3, kind, 14, 1), kind / 2 + 5);
            c.is("II: loaded 1 or 0, kind " + kind, x.says(0, 3, kind, 14, 3), kind % 2 + 6);
        }
        x.by(1);
        c.is("II: nights 0", x.says(0, 0, 0, 1, 3), 0);
        for (int i = 0; i < 10; i++) {
            x.night(99);
        }
        x.night(9);
        c.is("II: nights 999", x.says(0, 0, 0, 1, 3), 99);
        c.is("II: its last digit", x.says(0, 0, 0, 1, 4), 9);
    }

    private static void saysAsked() {
        OneStepMore x = new OneStepMore();
        c.is("23: nobody told", x.says(0, 0, 0, 1, 0), -1);
        x.person(2, 3, 4);
        x.stair(1, 1);
        for (int what = 0; what < 5; what++) {
            for (int wild : new int[] {Integer.MIN_VALUE, -1, 1, Integer.MAX_VALUE}) {
                c.is("23: person " + wild, x.says(wild, 0, 0, 1, what), -1);
            }
            for (int wild : new int[] {Integer.MIN_VALUE, -1, 4, Integer.MAX_VALUE}) {
                c.is("23: house " + wild, x.says(0, wild, 0, 1, what), -1);
                c.is("23: kind " + wild, x.says(0, 0, wild, 1, what), -1);
            }
            for (int wild : new int[] {Integer.MIN_VALUE, -1, 0, 13, Integer.MAX_VALUE}) {
                c.is("23: step " + wild, x.says(0, 0, 0, wild, what), -1);
            }
            c.is("23: STEP 12", x.says(0, 0, 3, 12, what) != -1, true);
            c.is("23: STEP 1 of 1", x.says(0, 1, 3, 1, what) != -1, true);
            c.is("23: STEP 2 of 1", x.says(0, 1, 0, 2, what), -1);
            c.is("23: HOUSE 3", x.says(0, 3, 0, 1, what) != -1, true);
        }
        for (int wild : new int[] {Integer.MIN_VALUE, -1, 5, 6, Integer.MAX_VALUE}) {
            c.is("23: what " + wild, x.says(0, 0, 0, 1, wild), -1);
        }
    }

    private static int played(OneStepMore x, String text) {
        return x.played(Check.text(x, text));
    }

    private static void playedAsked() {
        OneStepMore x = new OneStepMore();
        for (int text = -2; text < 5; text++) {
            c.is("18: no texts, " + text, x.played(text), -2);
        }
        c.is("18: an empty one", played(x, ""), -1);
        c.is("18: the next", x.played(1), -2);
        Check.text(x, "night 1;");
        Check.text(x, "night 2;");
        Check.text(x, "night 3;");
        c.is("18: the last", x.played(3), -1);
        c.is("18: 3 NIGHTS", x.about(1), 3);
        c.is("18: 4", x.played(4), -2);
        c.is("18: THE TEXT needn't be it", x.about(4), -1);
        c.is("18: again", x.played(3), -1);
        c.is("18: 6 NIGHTS", x.about(1), 6);
    }

    private static void playedSteps() {
        OneStepMore x = new OneStepMore();
        x.person(0, 0, 0);
        x.stair(0, 14);
        c.is("18: 14 STEPS and the JAR", played(x, "begin 0 at 0;step 15;"), -1);
        c.is("18: the JAR", x.book(0, 6), 1);
        c.is("18: 16 acts", x.about(5), 16);
        c.is("18: one more than there is", played(x, "begin 0 at 0;step 16;night 1;"), 1);
        c.is("18: those that can are done", x.book(1, 4), 15);
        c.is("18: what is behind isn't", x.about(1), 0);
        c.is("18: 14 TOES and the LANDING's", played(x, "begin 0 at 0;toe 15;"), -1);
        c.is("18: felt", x.book(2, 6), 0);
        c.is("18: one TOE more", played(x, "begin 0 at 0;toe 16;night 1;"), 1);
        c.is("18: those that can", x.book(3, 4), 45);
        c.is("18: no NIGHT", x.about(1), 0);
        x.back();
        x.person(0, 0, 0);
        x.stair(0, 14);
        c.is("18: fewer", played(x, "begin 0 at 0;step 13;toe 1;"), -1);
        c.is("18: yet on the way", x.way(3), 14);
        c.is("18: 20 STEPS from STEP 14 on", played(x, "step 20;"), 0);
        c.is("18: one could", x.book(0, 6), 1);
        c.is("18: 20 TOES of nobody", played(x, "toe 20;"), 0);
        c.is("18: none could", x.book(-1, 0), 1);
    }

    private static void playedNights() {
        OneStepMore x = new OneStepMore();
        Check.text(x, "night 99;");
        Check.text(x, "night 1;");
        for (int i = 1; i <= 10; i++) {
            c.is("18: 99 NIGHTS", x.played(0), -1);
            c.is("18: it is", x.about(1), 99 * i);
        }
        c.is("18: beyond 999", x.played(0), 0);
        c.is("18: those that can are done", x.about(1), 999);
        c.is("18: one act each", x.undo(), 29);
        c.is("18: 998", x.about(1), 998);
        c.is("18: 999 just can", x.played(1), -1);
        c.is("18: 1000 can't", x.played(1), 0);
        c.is("18: no act", x.about(5), 30);
        c.is("18: 999 still", x.about(1), 999);
    }

    private static void playedPlace() {
        OneStepMore x = new OneStepMore();
        c.is("18: number 0", played(x, "stop;night 1;"), 0);
        c.is("18: nothing behind it", x.about(1), 0);
        c.is("18: laws are counted, too", played(x, "jar 1;none 2;night 1;fall 3;stop;night 1;trips 1=1;"), 4);
        c.is("18: what was done stays", x.about(1), 1);
        StringBuilder all = new StringBuilder();
        for (int i = 0; i < 23; i++) {
            all.append("night 1;");
        }
        c.is("18: number 23", played(x, all + "stop;"), 23);
        c.is("18: 24 NIGHTS", x.about(1), 24);
        c.is("18: laws alone", played(x, "jar 1;fall 2;none 3;twice 4;trips 1=1;"), -1);
        c.is("18: laws that are PLAYED don't rule", x.about(4), -1);
    }

    private static void playedDeeds() {
        OneStepMore x = new OneStepMore();
        c.is("18: all that is told", played(x, "stair 3 long 14;high 9 at 14 of 3;mark 14 of 3;mark 1 of 3;mark 14 of 3;"
            + "rail 14 of 3;one 10 twice 0 landing 10;one 0 twice 10 landing 0;"), -1);
        c.is("18: n", x.house(3, 0), 14);
        c.is("18: HEIGHT", x.house(3, 24), 9);
        c.is("18: another mark takes it away", x.house(3, 1), 2);
        c.is("18: RAIL", x.house(3, 2), 14);
        c.is("18: PEOPLE", x.about(0), 2);
        c.is("18: NONE", x.about(10), 10);
        c.is("18: TWICE", x.about(21), 10);
        c.is("18: LANDING", x.about(30), 10);
        c.is("18: what is told is no act", x.about(5), 0);
        c.is("18: stair, then all else as at first", played(x, "rail 0 of 3;stair 3 long 1;high 9 at 2 of 3;"), 2);
        c.is("18: n then", x.house(3, 0), 1);
        c.is("18: no MARKS then", x.house(3, 1), 0);
        x.back();
        x.person(0, 0, 10);
        c.is("18: begin", played(x, "begin 0 at 3;"), -1);
        c.is("18: kind 0", x.way(2), 0);
        c.is("18: COUNT", x.way(4), 1);
        c.is("18: load", played(x, "load 0 at 2;"), -1);
        c.is("18: kind 1", x.way(2), 1);
        c.is("18: drink", played(x, "drink 0 at 0;"), -1);
        c.is("18: kind 2", x.way(2), 2);
        c.is("18: acts", x.about(5), 3);
        c.is("18: stair while one is on the way in it", played(x, "stair 0 long 12;"), 0);
        x.back();
        c.is("18: begin without people", played(x, "begin 0 at 0;"), 0);
        c.is("18: one first", played(x, "one 0 twice 0 landing 0;begin 0 at 0;begin 1 at 0;"), 2);
        c.is("18: on the way", x.way(0), 0);
        c.is("18: one 6 twice 5", played(x, "one 6 twice 5 landing 0;"), 0);
        c.is("18: one 5 twice 5", played(x, "one 5 twice 5 landing 0;"), -1);
        x.back();
        String one = "one 0 twice 0 landing 0;";
        c.is("18: the seventh", played(x, one + one + one + one + one + one + one), 6);
        c.is("18: six", x.about(0), 6);
    }

    private static void playedBegun() {
        String[] words = {"begin", "load", "drink"};
        int[] kinds = {0, 1, 2};
        for (int i = 0; i < words.length; i++) {
            for (int person = 0; person < 6; person++) {
                for (int house = 0; house < 4; house++) {
                    OneStepMore x = new OneStepMore();
                    for (int p = 0; p < 6; p++) {
                        x.person(0, 0, 10);
                    }
                    String clause = words[i] + " " + person + " at " + house + ";";
                    c.is("18: " + clause, played(x, clause), -1);
                    int[] due = {person, house, kinds[i], 0, 1, 0, 0, 0};
                    for (int what = 0; what < 8; what++) {
                        c.is("18: " + clause + " way " + what, x.way(what), due[what]);
                    }
                }
            }
        }
    }
}
