/** HOUSES and PEOPLE told, a way down in the dark, a text fed and read, questions, an IMAGE and BACK. */
public final class Nights {
    public static void main(String[] args) {
        OneStepMore x = new OneStepMore();

        head("HOUSES and PEOPLE");
        say("HOUSE 0 has 3 STEPS", x.stair(0, 3));
        say("its STEP 3 is 8 high", x.height(0, 3, 8));
        say("a RAIL as far as STEP 1", x.rail(0, 1));
        say("a MARK at STEP 1", x.mark(0, 1, true));
        say("none there any more", x.mark(0, 1, false));
        say("none there already: refused", x.mark(0, 1, false));
        // of ten STEPS 2 aren't counted and 1 counts twice; the LANDING is counted on 5 NIGHTS of ten
        say("a PERSON: the number", x.person(2, 1, 5));
        say("a HOUSE that there isn't: refused", x.stair(4, 3));

        head("a way down in the dark");
        say("draws by SEED 7", x.seed(7));
        say("PERSON 0 begins at HOUSE 0, neither LOADED nor DRUNK: COUNT", x.begin(0, 0, 0));
        say("a STEP, boldly: AT", x.step());
        say("a TOE first: AT", x.toe());
        say("a STEP: AT", x.step());
        say("COUNT by now", x.way(4));
        say("one STEP more than there is: AT", x.step());
        say("nobody is on the way any more", x.way(0));
        say("THE BOOK's line 0: how (1: a JAR)", x.book(0, 6));
        say("THE BOOK's line 0: HARM", x.book(0, 5));
        say("the JAR is taken back: ACTS that can be yet", x.undo());
        say("STOPPED instead: how (2: there)", x.stop());

        head("a text");
        say("one with a FAULT", read(x, "jar 2*steps; fall nth;"));
        say("which FAULT (5: not a NAME of that CLAUSE)", x.fault(0));
        say("at which byte", x.fault(1));
        say("one without: its number", read(x, "jar 2*steps; trips height-last>=3 and rail=0; night 2;"));
        say("it rules", x.by(0));
        say("what a JAR is by it", x.says(0, 0, 0, 1, 3));
        say("it is PLAYED: all is done", x.played(0));
        say("NIGHT", x.about(1));

        head("questions");
        int from = x.from(0, 0, 0);
        say("it is best to feel from COUNT", from);
        say("what that costs, upper", x.cost(0, 0, 0, from, false));
        say("what that costs, lower", x.cost(0, 0, 0, from, true));
        say("that who COUNTS 2 is AT 2, upper", x.where(0, 0, 0, 2, 2, false));
        say("that who COUNTS 2 is AT 2, lower", x.where(0, 0, 0, 2, 2, true));
        say("where a MARK is worth most", x.worth(0, 0, 0));
        say("NIGHTS until a lamp of 200 pence pays, at 5 pence a HARM", x.lamp(0, 0, 5, 200));
        say("nobody is PERSON 1: NONE", x.from(1, 0, 0));

        head("an IMAGE, and BACK");
        say("THE IMAGE: NIGHT", x.image());
        say("A WEEK by SEED 4, boldly while COUNT is below 30: HARM", x.week(4, 30));
        say("NIGHT", x.about(1));
        say("lines in THE BOOK", x.book(OneStepMore.NONE, 0));
        say("BACK: NIGHT", x.back());
        say("lines in THE BOOK", x.book(OneStepMore.NONE, 0));
    }

    /** Feeds a text of at most 300 bytes, twenty a call, and reads it. */
    private static int read(OneStepMore x, String text) {
        x.end(0);
        for (int i = 0; i < text.length(); i += 20) {
            x.feed(four(text, i), four(text, i + 4), four(text, i + 8), four(text, i + 12), four(text, i + 16));
        }
        // the last twenty may be more than the text has
        x.end(text.length());
        return x.text();
    }

    /** Four bytes of a text, the first one highest; blanks behind its end. */
    private static int four(String text, int from) {
        int four = 0;
        for (int i = from; i < from + 4; i++) {
            four = four << 8 | (i < text.length() ? text.charAt(i) : ' ');
        }
        return four;
    }

    private static void head(String part) {
        System.out.println("-- " + part);
    }

    private static void say(String call, long answer) {
        System.out.println(call + " -> " + answer);
    }

    private static void say(String call, boolean answer) {
        System.out.println(call + " -> " + answer);
    }
}
