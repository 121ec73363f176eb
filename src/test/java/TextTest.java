/** Promises 8 to 12, 18 and 23: the tape, TEXTS and their FAULTS, what laws say, and how TEXTS are PLAYED. */
public final class TextTest {
    private static final Check c = new Check();

    public static void main(String[] args) {
        tape();
        texts();
        faults();
        depth();
        clauses();
        sums();
        names();
        bounds();
        played();
        playedBegins();
        c.end("TextTest");
    }

    private static void tape() {
        OneStepMore x = new OneStepMore();
        c.is("8: twenty", x.feed(1, 2, 3, 4, 5), 20);
        for (int i = 2; i <= 15; i++) {
            c.is("8: twenty more", x.feed(0, 0, 0, 0, 0), 20 * i);
        }
        c.is("8: too many", x.feed(0, 0, 0, 0, 0), -1);
        c.is("8: none come", x.about(8), 300);
        c.is("9: 301", x.end(301), -1);
        c.is("9: -1", x.end(-1), -1);
        c.is("9: 281", x.end(281), 281);
        c.is("8: one too many", x.feed(0, 0, 0, 0, 0), -1);
        c.is("9: 280", x.end(280), 280);
        c.is("8: just as many", x.feed(0, 0, 0, 0, 0), 300);
        c.is("9: 0", x.end(0), 0);
        c.is("9: 1", x.end(1), -1);
        c.is("9: nothing is done", x.about(8), 0);
        x.feed('j' << 24 | 'a' << 16 | 'r' << 8 | ' ', '7' << 24 | ';' << 16 | ' ' << 8 | '\n', -1, -1, -1);
        x.end(8);
        c.is("8: the highest first", x.text(), 0);
        x.person(0, 0, 0);
        x.by(0);
        c.is("8: as it reads", x.says(0, 0, 0, 1, 3), 7);
        x.feed(0x80ffffff, 0, 0, 0, 0);
        c.is("8: a byte beyond 127", x.text(), -1);
        c.is("11: is no TOKEN", x.fault(0), 1);
    }

    private static void texts() {
        OneStepMore x = new OneStepMore();
        c.is("11: ahead of any", x.fault(0), -1);
        c.is("11: ahead of any, place", x.fault(1), -1);
        c.is("12: no text 0", x.by(0), false);
        c.is("12: none", x.by(-1), true);
        c.is("10: without CLAUSES", x.text(), 0);
        c.is("11: no fault", x.fault(0), 0);
        c.is("11: no place", x.fault(1), -1);
        c.is("11: others", x.fault(2), -1);
        c.is("11: -1", x.fault(-1), -1);
        c.is("10: blanks", Check.text(x, " \n "), 1);
        c.is("10: with a fault", Check.text(x, "jar"), -1);
        c.is("10: the tape is empty", x.about(8), 0);
        c.is("11: fault", x.fault(0), 1);
        c.is("11: place", x.fault(1), 3);
        c.is("10: how many", x.about(3), 2);
        c.is("10: third", Check.text(x, "jar 5;"), 2);
        c.is("10: fourth", Check.text(x, "jar 6;"), 3);
        c.is("10: fifth", Check.text(x, "jar"), -1);
        c.is("10: the tape stays", x.about(8), 3);
        c.is("11: the fourth was the latest", x.fault(0), 0);
        c.is("12: 3", x.by(3), true);
        c.is("12: 4", x.by(4), false);
        c.is("12: -2", x.by(-2), false);
        c.is("12: it stays", x.about(4), 3);
        c.is("12: none again", x.by(-1), true);
        c.is("12: none it is", x.about(4), -1);
    }

    private static void fault(String text, int what, int place) {
        OneStepMore x = new OneStepMore();
        c.is("10: " + text, Check.text(x, text), what == 0 ? 0 : -1);
        c.is("11: " + text, x.fault(0), what);
        c.is("11: place in " + text, x.fault(1), place);
    }

    private static void faults() {
        fault("wow;", 1, 0);
        fault("Jar 1;", 1, 0);
        fault("jar 1", 1, 5);
        fault("jar 1  \n", 1, 8);
        fault("jar\t1;", 1, 3);
        fault("jar ;", 1, 4);
        fault("jar 1 2;", 1, 6);
        fault("jar 1 who;", 1, 6);
        fault("jar 1 nth;", 1, 6);
        fault("jar 1 10000;", 1, 6);
        fault("jar 1<2;", 1, 5);
        fault("jar wow;", 1, 4);
        fault("jar none;", 1, 4);
        fault("none twice;", 1, 5);
        fault("trips (1<2);", 1, 8);
        fault("trips 1<2<3;", 1, 9);
        fault("trips 1<<2;", 1, 8);
        fault("trips not;", 1, 9);
        fault("trips 1=1 or;", 1, 12);
        fault("trips 1==1;", 1, 8);
        fault("jar if 1=1?2 end;", 1, 13);
        fault("jar if 1=1?2:3;", 1, 14);
        fault("stair 1 long x;", 1, 13);
        fault("stair 1 2;", 1, 8);
        fault("step nth;", 1, 5);
        fault("stop 1;", 1, 5);
        fault(";", 1, 0);
        fault("jar 9999;", 0, -1);
        fault("jar 10000;", 2, 4);
        fault("jar 99999999999999999999;", 2, 4);
        fault("jar 00000000000000000012;", 0, -1);
        fault("stair 3 long 14;", 0, -1);
        fault("stair 4 long 14;", 2, 6);
        fault("stair 10000 long 14;", 2, 6);
        fault("stair 3 long 0;", 2, 13);
        fault("high 0 at 1 of 1;", 2, 5);
        fault("high 9 at 14 of 3;", 0, -1);
        fault("high 9 at 0 of 3;", 2, 10);
        fault("high 9 at 14 of 4;", 2, 16);
        fault("mark 14 of 0;", 0, -1);
        fault("mark 15 of 0;", 2, 5);
        fault("rail 0 of 0;", 0, -1);
        fault("rail 0 of 4;", 2, 10);
        fault("one 10 twice 10 landing 10;", 0, -1);
        fault("one 0 twice 0 landing 11;", 2, 22);
        fault("begin 5 at 3;", 0, -1);
        fault("load 6 at 3;", 2, 5);
        fault("drink 5 at 4;", 2, 11);
        fault("step 20;toe 20;night 99;stop;", 0, -1);
        fault("step 0;", 2, 5);
        fault("toe 21;", 2, 4);
        fault("night 0;", 2, 6);
        fault("none 1;none 2;", 4, 7);
        fault("trips 1=1;trips 1=1;", 4, 10);
        fault("jar 1;fall 2;jar 1;", 4, 13);
        fault("fall 1;fall;", 4, 7);
        fault("twice 1;one 1 twice 1 landing 1;", 0, -1);
        fault("jar last;", 5, 4);
        fault("fall 1+height*2;", 5, 7);
        fault("fall if rail=1?1:2 end;", 5, 8);
        fault("none last;twice height;trips nth=rail;", 0, -1);
        fault("stop;stop;2", 1, 10);
    }

    private static void depth() {
        fault("jar ((((((((1))))))));", 0, -1);
        fault("jar (((((((((1)))))))));", 3, 12);
        fault("jar --------1;", 0, -1);
        fault("jar ---------1;", 3, 12);
        fault("jar 1-1-1-1-1-1-1-1-1-1;", 0, -1);
        fault("jar ((((((((1-1))))))));", 0, -1);
        fault("jar ((((((((-1))))))));", 3, 12);
        fault("jar ((1))+((((((((1))))))));", 0, -1);
        fault("trips not not not not not not not not 1=1;", 0, -1);
        fault("trips not not not not not not not not not 1=1;", 3, 38);
        fault("trips not not not not not not not not 1=1 and not 1=1;", 0, -1);
        fault("trips not not not not not not not not (1)=1;", 3, 38);
        fault("jar -(-(-(if 1=1?2:(if not 1=1?3:4 end)end)));", 3, 20);
        fault("jar -(-(-(if 1=1?2:if not 1=1?3:4 end end)));", 3, 22);
        fault("jar -(-(-(if 1=1?2:if 1=1?3:4 end end)));", 0, -1);
        fault("jar (((((((( wow", 1, 13);
    }

    private static void clauses() {
        StringBuilder all = new StringBuilder();
        for (int i = 0; i < 24; i++) {
            all.append("stop;");
        }
        fault(all.toString(), 0, -1);
        fault(all + "stop;", 6, 120);
        fault(all + "jar", 6, 120);
        fault(all + "; ", 1, 120);
        fault("jar 1;" + all.substring(5) + "jar 1;", 4, 121);
    }

    /** What jar says by a SUM; of a SUM below 0: add to it. */
    private static int jar(String sum) {
        OneStepMore x = new OneStepMore();
        x.person(0, 0, 0);
        x.by(Check.text(x, "jar " + sum + ";"));
        return x.says(0, 0, 0, 1, 3);
    }

    private static void sums() {
        c.is("23: 7/2", jar("7/2"), 3);
        c.is("23: -7/2", jar("-7/2+9"), 6);
        c.is("23: 7/-2", jar("7/-2+9"), 6);
        c.is("23: by 0", jar("5/0+1"), 1);
        c.is("23: from the left", jar("50-20-10"), 20);
        c.is("23: from the left /", jar("100/5/2"), 10);
        c.is("23: from the left /*", jar("7/2*2"), 6);
        c.is("23: * ahead of +", jar("2+3*4"), 14);
        c.is("23: ( )", jar("(2+3)*4"), 20);
        c.is("23: above a million", jar("9999*9999/200/100"), 50);
        c.is("23: below", jar("60+-9999*9999/200/100"), 10);
        c.is("23: at each step", jar("9999*9999-9999*100-80+1"), 21);
        c.is("23: sums too", jar("(9999*9999+9999*9999)/200/100"), 50);
        c.is("23: if", jar("if 1=2?3:4 end"), 4);
        c.is("23: if so", jar("if 1<2?3:4 end*2"), 6);
        c.is("23: and ahead of or", jar("if 1=1 or 1=2 and 1=2?1:2 end"), 1);
        c.is("23: not binds", jar("if not 1=1 or 1=1?1:2 end"), 1);
        c.is("23: not not", jar("if not not 1=2?1:2 end"), 2);
        c.is("23: <=", jar("if 2<=2 and not 3<=2?1:2 end"), 1);
        c.is("23: >=", jar("if 2>=2 and not 2>=3?1:2 end"), 1);
        c.is("23: >", jar("if 3>2 and not 2>2?1:2 end"), 1);
        c.is("23: #", jar("if 3#2 and not 2#2?1:2 end"), 1);
        c.is("23: 99 at most", jar("100"), 99);
        c.is("23: 0 at least", jar("1-2"), 0);
    }

    private static void names() {
        OneStepMore x = new OneStepMore();
        x.person(0, 0, 0);
        x.person(0, 0, 0);
        x.stair(2, 7);
        x.height(2, 3, 8);
        x.height(2, 4, 1);
        x.rail(2, 3);
        x.night(6);
        x.by(Check.text(x, "jar who*50+house*10+steps;fall drunk*20+loaded*40+nights;"
            + "none height-last;twice nth+rail*3;trips rail=1;"));
        c.is("23: who, house, steps", x.says(1, 2, 0, 3, 3), 77);
        c.is("23: nights", x.says(1, 2, 0, 3, 4), 6);
        c.is("23: loaded", x.says(1, 2, 1, 3, 4), 46);
        c.is("23: drunk", x.says(1, 2, 2, 3, 4), 26);
        c.is("23: both", x.says(1, 2, 3, 3, 4), 66);
        c.is("23: height, last", x.says(1, 2, 0, 3, 0), 3);
        c.is("23: nth, rail", x.says(1, 2, 0, 3, 1), 6);
        c.is("23: rail", x.says(1, 2, 0, 3, 2), 1);
        c.is("23: no rail, loaded", x.says(1, 2, 1, 3, 2), 0);
        c.is("23: rail, drunk", x.says(1, 2, 2, 3, 2), 1);
        c.is("23: behind the rail", x.says(1, 2, 0, 4, 2), 0);
        c.is("23: the landing's height", x.says(1, 2, 0, 1, 0), 0);
        c.is("23: below 0", x.says(1, 2, 0, 4, 0), 0);
        c.is("23: what 5", x.says(1, 2, 0, 3, 5), -1);
        c.is("23: what -1", x.says(1, 2, 0, 3, -1), -1);
        c.is("23: step 0", x.says(1, 2, 0, 0, 0), -1);
        c.is("23: step 8", x.says(1, 2, 0, 8, 0), -1);
        c.is("23: person 2", x.says(2, 2, 0, 3, 0), -1);
        c.is("23: house 4", x.says(1, 4, 0, 3, 0), -1);
        c.is("23: kind 4", x.says(1, 2, 4, 3, 0), -1);
        c.is("23: kind -1", x.says(1, 2, -1, 3, 0), -1);
    }

    private static void bounds() {
        OneStepMore x = new OneStepMore();
        x.person(2, 7, 0);
        c.is("23: own none", x.says(0, 0, 0, 1, 0), 2);
        c.is("23: own twice", x.says(0, 0, 0, 1, 1), 7);
        c.is("23: own jar", x.says(0, 0, 0, 1, 3), 5);
        c.is("23: own fall", x.says(0, 0, 0, 1, 4), 9);
        x.height(0, 1, 8);
        c.is("23: unlike by 3", x.says(0, 0, 0, 1, 2), 1);
        x.height(0, 1, 2);
        c.is("23: unlike by 3, lower", x.says(0, 0, 0, 1, 2), 1);
        x.height(0, 1, 7);
        c.is("23: unlike by 2", x.says(0, 0, 0, 1, 2), 0);
        x.by(Check.text(x, "none 6;"));
        c.is("23: twice is 10 less none at most", x.says(0, 0, 0, 1, 1), 4);
        x.by(Check.text(x, "none 11;twice 5;"));
        c.is("23: none is 10 at most", x.says(0, 0, 0, 1, 0), 10);
        c.is("23: twice then", x.says(0, 0, 0, 1, 1), 0);
        x.by(Check.text(x, "twice 11;"));
        c.is("23: twice 8 at most", x.says(0, 0, 0, 1, 1), 8);
    }

    private static int clauseOf(OneStepMore x, String text) {
        return x.played(Check.text(x, text));
    }

    private static void played() {
        OneStepMore x = new OneStepMore();
        c.is("18: no text", x.played(0), -2);
        c.is("18: -1", x.played(-1), -2);
        c.is("18: laws alone", clauseOf(x, "jar 1;fall 2;"), -1);
        c.is("18: stairs", clauseOf(x, "jar 9;stair 1 long 3;high 9 at 3 of 1;rail 2 of 1;mark 2 of 1;mark 3 of 1;"
            + "mark 2 of 1;one 1 twice 2 landing 3;high 9 at 4 of 1;rail 1 of 1;"), 8);
        c.is("18: n", x.house(1, 0), 3);
        c.is("18: height", x.house(1, 13), 9);
        c.is("18: rail", x.house(1, 2), 2);
        c.is("18: another mark takes it away", x.house(1, 1), 8);
        c.is("18: a person", x.about(20), 2);
        c.is("18: no acts", x.about(5), 0);
        c.is("18: together 11", clauseOf(x, "one 5 twice 6 landing 0;"), 0);
        c.is("18: a mark at no step", clauseOf(x, "jar 1;mark 4 of 1;"), 1);
        x.back();
        c.is("18: a rail at no step", clauseOf(x, "rail 12 of 1;rail 13 of 1;"), 1);
        c.is("18: seven people", clauseOf(x, "one 0 twice 0 landing 0;one 0 twice 0 landing 0;one 0 twice 0 landing 0;"
            + "one 0 twice 0 landing 0;one 0 twice 0 landing 0;one 0 twice 0 landing 0;one 0 twice 0 landing 0;"), 6);
        c.is("18: nobody to step", clauseOf(x, "step 1;"), 0);
        c.is("18: twice in full", x.played(0), 1);
    }

    private static void playedBegins() {
        OneStepMore x = new OneStepMore();
        x.person(0, 0, 0);
        x.stair(0, 2);
        c.is("18: person 1", clauseOf(x, "begin 0 at 0;begin 1 at 0;"), 1);
        c.is("18: on the way", x.way(0), 0);
        c.is("18: stair, on the way in it", clauseOf(x, "stair 1 long 2;stair 0 long 2;"), 1);
        c.is("18: load", clauseOf(x, "load 0 at 0;"), -1);
        c.is("18: loaded", x.way(2), 1);
        c.is("18: drink", clauseOf(x, "drink 0 at 0;night 2;step 1;toe 5;stop;"), 3);
        c.is("18: those that can are done", x.book(0, 4), 7);
        c.is("18: each an act", x.about(5), 8);
        x.back();
        x.person(0, 0, 0);
        c.is("18: back", x.about(3), 0);
        c.is("18: stop", clauseOf(x, "begin 0 at 0;stop;stop;"), 2);
        c.is("18: fallen", x.book(0, 6), 3);
        for (int i = 0; i < 10; i++) {
            x.night(99);
        }
        c.is("18: nights as far as 999", clauseOf(x, "night 5;night 5;stop;"), 1);
        c.is("18: 999", x.about(1), 999);
    }
}
