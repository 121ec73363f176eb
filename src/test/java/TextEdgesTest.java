/** The edges of part II, sentence by sentence: promises 8 to 12, 18, 23. */
public final class TextEdgesTest {
    private static final Check c = new Check();
    private static final String[] ALL_NAMES = {
        "who", "house", "steps", "drunk", "loaded", "nights", "nth", "height", "last", "rail"};

    public static void main(String[] args) {
        bytesInTheirOrder();
        tapeFull();
        tapeEnds();
        textOf300();
        fourTexts();
        manyRead();
        faultEmptiesTheTape();
        faultOfTheLatest();
        theText();
        bytesThatAreNoTokens();
        longestTokens();
        numbersOfDeeds();
        numbersOfSums();
        endAtTheLength();
        sumsThatAskNothing();
        deepOf8();
        deepClosed();
        secondTime();
        namesOfClauses();
        clausesOf24();
        leastAndFirst();
        c.end("TextEdgesTest");
    }

    private static void fault(String text, int what, int place) {
        OneStepMore x = new OneStepMore();
        c.is("10: " + text, Check.text(x, text), what == 0 ? 0 : -1);
        c.is("11: FAULT in " + text, x.fault(0), what);
        c.is("11: place in " + text, x.fault(1), place);
    }

    private static void fine(String text) {
        fault(text, 0, -1);
    }

    private static String times(String part, int n) {
        StringBuilder all = new StringBuilder();
        for (int i = 0; i < n; i++) {
            all.append(part);
        }
        return all.toString();
    }

    private static String padded(String text, int bytes) {
        return text + times(" ", bytes - text.length());
    }

    /** What jar is by THE TEXT, for a PERSON told ahead. */
    private static int jar(OneStepMore x) {
        return x.says(0, 0, 0, 1, 3);
    }

    private static void bytesInTheirOrder() {
        // twenty bytes, each of which counts
        String text = "jar 90-1-2-3-4-5+12;";
        OneStepMore x = new OneStepMore();
        x.person(0, 0, 0);
        int[] w = new int[5];
        for (int i = 0; i < 20; i++) {
            w[i / 4] = w[i / 4] << 8 | text.charAt(i);
        }
        c.is("8: twenty", x.feed(w[0], w[1], w[2], w[3], w[4]), 20);
        c.is("8: in their order", x.text(), 0);
        x.by(0);
        c.is("8: each of them", jar(x), 87);
        c.is("8: behind what was there", x.feed(w[0], w[1], w[2], w[3], w[4]), 20);
        x.end(4);
        c.is("8: behind 4", x.feed('7' << 24 | ';' << 16 | ' ' << 8 | ' ', 0x20202020, 0x0a202020, 0x20200a20, 0x2020200a), 24);
        c.is("8: reads as one text", x.text(), 1);
        x.by(1);
        c.is("8: the old ones are away", jar(x), 7);
    }

    private static void tapeFull() {
        OneStepMore x = new OneStepMore();
        x.person(0, 0, 0);
        for (int i = 1; i <= 15; i++) {
            c.is("8: how many", x.feed(0x20202020, 0x20202020, 0x20202020, 0x20202020, 0x20202020), 20 * i);
        }
        c.is("8: more than 300", x.feed('j', 'j', 'j', 'j', 'j'), -1);
        c.is("8: 300 still", x.about(8), 300);
        c.is("9: 281", x.end(281), 281);
        c.is("8: 301", x.feed('j', 'j', 'j', 'j', 'j'), -1);
        c.is("8: 281 still", x.about(8), 281);
        c.is("10: none came", x.text(), 0);
        c.is("8: empty then", x.about(8), 0);
        Check.tape(x, padded("jar 3;", 280));
        c.is("8: 300 just fit", x.feed(0x20202020, 0x20202020, 0x20202020, 0x20202020, 0x2020203b), 300);
        c.is("10: the last byte is read too", x.text(), -1);
        c.is("11: it can't stand there", x.fault(0), 1);
        c.is("11: at byte 299", x.fault(1), 299);
    }

    private static void tapeEnds() {
        OneStepMore x = new OneStepMore();
        x.person(0, 0, 0);
        c.is("9: 0 of an empty one", x.end(0), 0);
        c.is("9: 1 of an empty one", x.end(1), -1);
        Check.tape(x, "jar 12;");
        c.is("9: one more than it has", x.end(8), -1);
        c.is("9: below 0", x.end(-1), -1);
        c.is("9: all of it", x.end(7), 7);
        c.is("10: as it was", x.text(), 0);
        x.by(0);
        c.is("9: all bytes were there", jar(x), 12);
        Check.tape(x, "jar 12;");
        c.is("9: its first 5", x.end(5), 5);
        c.is("9: what is cut is away", x.end(6), -1);
        c.is("43: 5 bytes", x.about(8), 5);
        x.feed(0x3b202020, 0x20202020, 0x20202020, 0x20202020, 0x20202020);
        c.is("10: with others behind", x.text(), 1);
        x.by(1);
        c.is("9: the first 5 alone", jar(x), 1);
        Check.tape(x, padded("jar 4;", 300));
        c.is("9: 301", x.end(301), -1);
        c.is("9: 300 of 300", x.end(300), 300);
        c.is("9: 299", x.end(299), 299);
        c.is("9: 0", x.end(0), 0);
        c.is("10: an empty one is a TEXT", x.text(), 2);
    }

    private static void textOf300() {
        OneStepMore x = new OneStepMore();
        x.person(0, 0, 0);
        String text = "jar 1" + times("+1", 147) + ";";
        c.is("10: 300 bytes", text.length(), 300);
        Check.tape(x, text);
        c.is("10: on the tape", x.about(8), 300);
        c.is("10: is a TEXT", x.text(), 0);
        x.by(0);
        c.is("23: 148, 99 at most", jar(x), 99);
        c.is("10: the end of 300", Check.text(x, "jar 1" + times("+1", 147) + "+"), -1);
        c.is("11: can't stand there", x.fault(0), 1);
        c.is("11: at the length", x.fault(1), 300);
        c.is("10: one byte each", Check.text(x, times("stop;", 24) + times(" ", 180)), 1);
        c.is("10: bytes alone that are none", Check.text(x, times("\n", 299) + ";"), -1);
        c.is("11: at 299", x.fault(1), 299);
    }

    private static void fourTexts() {
        OneStepMore x = new OneStepMore();
        x.person(0, 0, 0);
        for (int i = 0; i < 4; i++) {
            c.is("43: TEXTS", x.about(3), i);
            c.is("10: its number", Check.text(x, "jar 1" + i + ";"), i);
            c.is("10: the tape is empty then", x.about(8), 0);
        }
        c.is("43: four", x.about(3), 4);
        c.is("10: there are 4", Check.text(x, "jar 14;"), -1);
        c.is("10: the tape stays", x.about(8), 7);
        c.is("43: four still", x.about(3), 4);
        c.is("11: none was read", x.fault(0), 0);
        c.is("10: there are 4 yet", x.text(), -1);
        for (int i = 0; i < 4; i++) {
            c.is("12: by " + i, x.by(i), true);
            c.is("10: each as it was", jar(x), 10 + i);
        }
        x.back();
        x.person(0, 0, 0);
        c.is("10: the tape stayed", x.text(), 0);
        x.by(0);
        c.is("10: all of it", jar(x), 14);
    }

    /** What was read ahead, with a FAULT or without, leaves nothing behind. */
    private static void manyRead() {
        OneStepMore x = new OneStepMore();
        x.person(2, 1, 0);
        String[] laws = {"none ", "twice ", "jar ", "fall "};
        for (int i = 0; i < 4; i++) {
            for (int k = 0; k < 4; k++) {
                String faulty = "stair 1 long 9;none 9;twice 1;jar 98;fall 97;trips 1=1;stop;" + times("night 1;", 17);
                c.is("10: a FAULT in the last CLAUSE", Check.text(x, faulty + times("jar 1;", k)), k == 0 ? 0 : -1);
                x.back();
                x.person(2, 1, 0);
            }
        }
        for (int i = 0; i < 4; i++) {
            c.is("10: 140 SUMS", Check.text(x, laws[i] + "1" + times("+1*1", 70) + "-" + (70 - i) + ";"), i);
        }
        for (int i = 0; i < 4; i++) {
            x.by(i);
            int[] due = {2, 1, 5, 9};
            due[i] = i + 1;
            c.is("23: none by TEXT " + i, x.says(0, 0, 0, 1, 0), due[0]);
            c.is("23: twice by TEXT " + i, x.says(0, 0, 0, 1, 1), due[1]);
            c.is("23: trips by TEXT " + i, x.says(0, 0, 0, 1, 2), 0);
            c.is("23: jar by TEXT " + i, x.says(0, 0, 0, 1, 3), due[2]);
            c.is("23: fall by TEXT " + i, x.says(0, 0, 0, 1, 4), due[3]);
            c.is("18: nothing is PLAYED by TEXT " + i, x.played(i), -1);
            c.is("18: no NIGHT", x.about(1), 0);
        }
    }

    private static void faultEmptiesTheTape() {
        OneStepMore x = new OneStepMore();
        c.is("10: a FAULT", Check.text(x, "jar 1"), -1);
        c.is("10: the tape is empty", x.about(8), 0);
        c.is("10: no TEXT", x.about(3), 0);
        c.is("10: the number is free yet", Check.text(x, "jar 1;"), 0);
        c.is("10: a FAULT behind", Check.text(x, ";"), -1);
        c.is("10: one TEXT", x.about(3), 1);
    }

    private static void faultOfTheLatest() {
        OneStepMore x = new OneStepMore();
        Check.tape(x, "jar 10000;");
        c.is("11: ahead of any that was read", x.fault(0), -1);
        x.text();
        c.is("11: its FAULT", x.fault(0), 2);
        c.is("11: its place", x.fault(1), 4);
        int[] wild = {Integer.MIN_VALUE, -2, -1, 2, 3, Integer.MAX_VALUE};
        for (int what : wild) {
            c.is("11: others, " + what, x.fault(what), -1);
        }
        Check.tape(x, ";");
        c.is("11: not yet read", x.fault(0), 2);
        x.text();
        c.is("11: of the latest", x.fault(0), 1);
        c.is("11: at place 0", x.fault(1), 0);
        x.image();
        Check.text(x, "stop;");
        c.is("11: 0 without", x.fault(0), 0);
        c.is("11: NONE without", x.fault(1), -1);
        x.back();
        c.is("42: not in THE IMAGE", x.fault(0), 0);
    }

    private static void theText() {
        OneStepMore x = new OneStepMore();
        c.is("12: none at first", x.about(4), -1);
        c.is("12: none", x.by(-1), true);
        c.is("12: text 0 of none", x.by(0), false);
        Check.text(x, "");
        Check.text(x, "jar 3;");
        c.is("12: not by reading", x.about(4), -1);
        c.is("12: the first", x.by(0), true);
        c.is("12: the last", x.by(1), true);
        c.is("12: the first that can't", x.by(2), false);
        c.is("12: -2", x.by(-2), false);
        c.is("12: as it was", x.about(4), 1);
        c.is("12: the same again", x.by(1), true);
        c.is("12: none", x.by(-1), true);
        c.is("12: it is none", x.about(4), -1);
        x.person(0, 0, 0);
        c.is("23: none rules", jar(x), 5);
        x.by(0);
        c.is("23: an empty one rules", jar(x), 5);
        c.is("18: PLAYED, an empty one", x.played(0), -1);
    }

    private static void bytesThatAreNoTokens() {
        for (int b = 0; b < 256; b++) {
            String text = "jar 1" + (char) b + ";";
            if (b == 32 || b == 10 || b >= '0' && b <= '9') {
                fine(text);
            } else if (b == '+' || b == '-' || b == '*' || b == '/' || b == ';') {
                fault(text, 1, 6);
            } else {
                fault(text, 1, 5);
            }
        }
        for (int b = 0; b < 256; b++) {
            // a TOKEN of letters goes on with letters alone
            boolean letter = b >= 'a' && b <= 'z' || b >= 'A' && b <= 'Z';
            boolean fine = b == 32 || b == 10 || b == '(' || b == '-';
            if (letter) {
                fault("jar" + (char) b + " 1;", 1, 0);
            } else if (!fine && (b < '0' || b > '9')) {
                fault("jar" + (char) b + "1;", 1, 3);
            }
        }
        fine("");
        fine(" ");
        fine("\n");
        fine(" \n\n  ");
        fine("jar\n1\n;\n");
        fine("jar 1 ; fall 2 ;");
        fine("jar 1;fall 2;");
        fault("\t", 1, 0);
        fault(" \r", 1, 1);
        fault("ja r 1;", 1, 0);
        fault("jar 1 0;", 1, 6);
    }

    private static void longestTokens() {
        fine("trips 1<=1;");
        fine("trips 1>=1;");
        fine("trips 1<1;");
        fine("trips 1>1;");
        fine("trips 1=1;");
        fine("trips 1#1;");
        fault("trips 1< =1;", 1, 9);
        fault("trips 1> =1;", 1, 9);
        fault("trips 1=<1;", 1, 8);
        fault("trips 1=>1;", 1, 8);
        fault("trips 1<>1;", 1, 8);
        fault("trips 1<==1;", 1, 9);
        fault("trips 1##1;", 1, 8);
        fault("jar if 1=1:2?3 end;", 1, 10);
        fault("jar if 1=1?2?3 end;", 1, 12);
        fault("jar if 1=1:2:3 end;", 1, 10);
        fault("jar (1(;", 1, 6);
        fault("jar )1);", 1, 4);
        fault("jar 1:", 1, 5);
        fault("jar 1?", 1, 5);
        fine("jar if 1=1?2:3end;");
        fine("jar if 1+1=2*1?2+3:4-5*6 end;");
        fault("jar if1=1?2:3 end;", 0, -1);
        fault("jar who steps;", 1, 8);
        fault("jar whosteps;", 1, 4);
        fault("jars 1;", 1, 0);
        fault("trips not1=1;", 0, -1);
        fault("trips 1=1and 1=1;", 0, -1);
        fault("trips 1=1 and1=1;", 0, -1);
        fault("trips 1=1 andwho=1;", 1, 10);
        fault("stair1long2;", 0, -1);
        fault("Jar 1;", 1, 0);
        fault("jaR 1;", 1, 0);
        fault("JAR 1;", 1, 0);
    }

    /** Each NUMBER of each CLAUSE: its first and last, and those beside, at its place. */
    private static void numbersOfDeeds() {
        String[] deeds = {
            "stair # long 1;", "stair 0 long #;", "high # at 1 of 0;", "high 1 at # of 0;", "high 1 at 1 of #;",
            "mark # of 0;", "mark 1 of #;", "rail # of 0;", "rail 0 of #;", "one # twice 0 landing 0;",
            "one 0 twice # landing 0;", "one 0 twice 0 landing #;", "begin # at 0;", "begin 0 at #;", "load # at 0;",
            "load 0 at #;", "drink # at 0;", "drink 0 at #;", "step #;", "toe #;", "night #;"};
        int[][] bounds = {
            {0, 3}, {1, 14}, {1, 9}, {1, 14}, {0, 3}, {1, 14}, {0, 3}, {0, 14}, {0, 3}, {0, 10}, {0, 10}, {0, 10},
            {0, 5}, {0, 3}, {0, 5}, {0, 3}, {0, 5}, {0, 3}, {1, 20}, {1, 20}, {1, 99}};
        for (int i = 0; i < deeds.length; i++) {
            int place = deeds[i].indexOf('#');
            int first = bounds[i][0];
            int last = bounds[i][1];
            for (int number = 0; number <= last + 2; number++) {
                boolean is = number >= first && number <= last;
                fault(deeds[i].replace("#", Integer.toString(number)), is ? 0 : 2, is ? -1 : place);
            }
            for (String number : new String[] {"100", "9999", "10000", "4294967297", times("9", 100)}) {
                fault(deeds[i].replace("#", number), 2, place);
            }
            fine(deeds[i].replace("#", "000000000000" + last));
            for (String other : new String[] {"-1", "(1)", "who", "", "+1", "1.5"}) {
                // what is behind a 1 is met one byte later
                int at = other.equals("1.5") && first <= 1 ? place + 1 : place;
                fault(deeds[i].replace("#", other), 1, at + skipped(deeds[i], other, place));
            }
        }
        fine("one 10 twice 10 landing 10;");
    }

    /** Where nothing stands, the next TOKEN is met: behind the blank. */
    private static int skipped(String deed, String other, int place) {
        return other.isEmpty() && deed.charAt(place + 1) == ' ' ? 1 : 0;
    }

    private static void numbersOfSums() {
        for (String law : new String[] {"none ", "twice ", "jar ", "fall ", "trips 1<"}) {
            int place = law.length();
            fine(law + "0;");
            fine(law + "9999;");
            fine(law + "00009999;");
            fault(law + "10000;", 2, place);
            fault(law + "99999;", 2, place);
            fault(law + "4294967296;", 2, place);
            fault(law + times("0", 200) + "10000;", 2, place);
            fine(law + times("0", 200) + ";");
        }
    }

    /** A text that ends behind any TOKEN of its CLAUSE has a FAULT of the end, at the length. */
    private static void endAtTheLength() {
        String[] texts = {
            "stair 1 long 2 ;", "high 1 at 2 of 3 ;", "mark 1 of 2 ;", "rail 1 of 2 ;", "one 1 twice 2 landing 3 ;",
            "begin 1 at 2 ;", "load 1 at 2 ;", "drink 1 at 2 ;", "step 1 ;", "toe 1 ;", "stop ;", "night 1 ;",
            "none 1 + who ;", "twice 1 * ( 2 - 1 ) ;", "jar - 1 ;", "fall if not 1 < 2 or 1 = 1 and 2 # 3 ? 4 : 5 end ;",
            "trips not 1 < 2 or 1 = 1 and 2 >= 3 ;"};
        for (String text : texts) {
            fine(text);
            for (int i = 1; i < text.length(); i++) {
                if (text.charAt(i) == ' ') {
                    fault(text.substring(0, i), 1, i);
                    fault(text.substring(0, i) + " \n ", 1, i + 3);
                    fault("stop;" + text.substring(0, i), 1, i + 5);
                }
            }
        }
    }

    /** Where an ASK is due a SUM alone is none: what is behind it can't stand there. */
    private static void sumsThatAskNothing() {
        fault("trips 1;", 1, 7);
        fault("trips nth", 1, 9);
        fault("trips 1+2*(3);", 1, 13);
        fault("trips not 1;", 1, 11);
        fault("trips 1 and 1=1;", 1, 8);
        fault("trips 1 or 1=1;", 1, 8);
        fault("trips 1=1 and 1;", 1, 15);
        fault("trips 1=1 or nth;", 1, 16);
        fault("trips 1=1 or not nth or 1=1;", 1, 21);
        fault("jar if 1?2:3 end;", 1, 8);
        fault("jar if 1=1 and who?2:3 end;", 1, 18);
        fault("jar if not 1 ?2:3 end;", 1, 13);
        // and an ASK is no SUM
        fault("jar 1=1;", 1, 5);
        fault("none 1<2;", 1, 6);
        fault("jar not 1=1;", 1, 4);
        fault("jar if 1=1?2<3:4 end;", 1, 12);
        fault("jar if 1=1?2:3#4 end;", 1, 14);
        fault("trips 1=1=1;", 1, 9);
        fault("trips (1=1);", 1, 8);
        fault("trips (not 1=1);", 1, 7);
        fault("trips -not 1=1;", 1, 7);
        fault("trips 1=not 1=1;", 1, 8);
        fault("jar 1 or 2;", 1, 6);
        fault("jar 1 and 2;", 1, 6);
    }

    private static void deepOf8() {
        fine("jar " + times("(", 8) + "1" + times(")", 8) + ";");
        fault("jar " + times("(", 9) + "1" + times(")", 9) + ";", 3, 12);
        fine("jar " + times("-", 8) + "1;");
        fault("jar " + times("-", 9) + "1;", 3, 12);
        fine("trips " + times("not ", 8) + "1=1;");
        fault("trips " + times("not ", 9) + "1=1;", 3, 6 + 8 * 4);
        fine("jar " + times("if 1=1?1:", 8) + "1" + times(" end", 8) + ";");
        fault("jar " + times("if 1=1?1:", 9) + "1" + times(" end", 9) + ";", 3, 4 + 8 * 9);
        fine("jar " + times("if 1=1?", 8) + "1" + times(":1 end", 8) + ";");
        fault("jar " + times("if 1=1?", 9) + "1" + times(":1 end", 9) + ";", 3, 4 + 8 * 7);
        fine("jar " + times("if ", 8) + "1=1" + times("?1:1 end=1", 7) + "?1:1 end;");
        fault("jar " + times("if ", 9) + "1=1" + times("?1:1 end=1", 8) + "?1:1 end;", 3, 4 + 8 * 3);
        // each of the four as the 9th, behind 8 of another
        String seven = "jar " + times("(", 7);
        fine(seven + "-1" + times(")", 7) + ";");
        fine(seven + "if 1=1?2:3 end" + times(")", 7) + ";");
        fault(seven + "-(", 3, 12);
        fault(seven + "(-", 3, 12);
        fault(seven + "(if", 3, 12);
        fault(seven + "if not not", 3, 14);
        fault(seven + "if 1=1?-", 3, 18);
        fault(seven + "if 1=1?1:(", 3, 20);
        fault(seven + "if 1=1 and not", 3, 22);
        fault(seven + "if 1=1 or (", 3, 21);
        fault("trips " + times("not ", 8) + "(", 3, 38);
        fault("trips " + times("not ", 8) + "-", 3, 38);
        fault("trips " + times("not ", 8) + "if", 3, 38);
        fault("trips " + times("not ", 8) + "1=(", 3, 40);
    }

    /** What is closed isn't open any more. */
    private static void deepClosed() {
        String eight = times("(", 8) + "1" + times(")", 8);
        fine("jar (1)+" + eight + ";");
        fine("jar " + eight + "+" + eight + "*" + eight + ";");
        fault("jar (1+" + eight + ");", 3, 14);
        fine("jar -1+" + times("-", 8) + "1;");
        fine("jar -1*" + eight + ";");
        fault("jar -" + eight + ";", 3, 12);
        fine("jar 1-" + eight + ";");
        fine("jar " + times("1-", 9) + "1;");
        fine("jar " + times("-", 8) + "1-1;");
        fault("jar " + times("-", 8) + "1--" + times("-", 8) + "1;", 3, 4 + 8 + 2 + 8);
        fine("jar if 1=1?2:3 end+" + eight + ";");
        fine("trips not 1=1 and " + times("not ", 8) + "1=1;");
        fine("trips not 1=1 or " + eight + "=" + eight + ";");
        fault("trips not 1=" + eight + ";", 3, 6 + 6 + 7);
        fine("none " + eight + ";twice " + eight + ";");
        // a ) too many, and what isn't closed
        fault("jar " + eight + ");", 1, 21);
        fault("jar ((1);", 1, 8);
        fault("jar if 1=1?2:3;", 1, 14);
    }

    private static void secondTime() {
        String[] laws = {"none 1;", "twice 1;", "trips 1=1;", "jar 1;", "fall 1;"};
        for (String law : laws) {
            fine(law);
            fault(law + law, 4, law.length());
            fault(law + "stop;" + law, 4, law.length() + 5);
            for (String other : laws) {
                if (!other.equals(law)) {
                    fine(law + other);
                    fault(law + other + law, 4, law.length() + other.length());
                }
            }
        }
        fine(laws[0] + laws[1] + laws[2] + laws[3] + laws[4]);
        fine("twice 1;one 0 twice 1 landing 0;one 0 twice 1 landing 0;");
        fine("one 0 twice 1 landing 0;twice 1;");
        fine("rail 1 of 1;trips rail=rail;rail 2 of 1;");
        fine("stop;stop;night 1;night 1;");
    }

    private static void namesOfClauses() {
        for (int i = 0; i < ALL_NAMES.length; i++) {
            String name = ALL_NAMES[i];
            fine("none " + name + ";");
            fine("twice 1+" + name + ";");
            fine("trips 1<" + name + ";");
            int what = i < 6 ? 0 : 5;
            fault("jar " + name + ";", what, i < 6 ? -1 : 4);
            fault("fall " + name + ";", what, i < 6 ? -1 : 5);
            fault("jar 1+(2*-" + name + ");", what, i < 6 ? -1 : 10);
            fault("fall if 1=1?2:" + name + " end;", what, i < 6 ? -1 : 14);
            fault("none nth;fall " + name + ";", what, i < 6 ? -1 : 14);
            fine("fall 1;none " + name + ";");
            // where no ONE can stand a NAME can't, of whatever CLAUSE
            fault("jar 1 " + name + ";", 1, 6);
            fault(name + " 1;", 1, name.equals("rail") ? 6 : 0);
        }
        fault("jar at;", 1, 4);
        fault("jar night;", 1, 4);
        fault("jar twice;", 1, 4);
        fault("jar end;", 1, 4);
        fault("jar x;", 1, 4);
    }

    private static void clausesOf24() {
        fine(times("stop;", 23) + "jar 1;");
        fine("jar 1;fall 2;none 1;twice 1;trips 1=1;" + times("stop;", 19));
        fault(times("stop;", 24) + "jar 1;", 6, 120);
        fault("jar 1;" + times("stop;", 23) + "stop;", 6, 121);
        fault(times("stop;", 24) + "\n step 99;", 6, 122);
        fault(times("stop;", 24) + ";", 1, 120);
        fault(times("stop;", 24) + "1", 1, 120);
        fault(times("stop;", 24) + "nth", 1, 120);
        fault(times("stop;", 24) + "wow", 1, 120);
        fault("jar 1;" + times("stop;", 23) + "jar 1;", 4, 121);
        fault("jar 1;" + times("stop;", 23) + "fall 1;", 6, 121);
        OneStepMore x = new OneStepMore();
        c.is("10: 24 CLAUSES", Check.text(x, times("night 1;", 23) + "stop;"), 0);
        c.is("18: all but the last are done", x.played(0), 23);
        c.is("18: 23 NIGHTS", x.about(1), 23);
    }

    private static void leastAndFirst() {
        // the first as TOKENS are come to
        fault("jar nth 10000;", 5, 4);
        fault("jar 10000 nth;", 2, 4);
        fault("stair 9 long 99;", 2, 6);
        fault("stair 3 long 99", 2, 13);
        fault("jar 1;jar nth;", 4, 6);
        fault("jar (((((((((nth", 3, 12);
        fault("jar ((((((((nth", 5, 12);
        fault("jar 1;wow;jar 1;", 1, 6);
        // of one TOKEN the least
        fault("jar 1 10000;", 1, 6);
        fault("stair long;", 1, 6);
        fault("stop 10000;", 1, 5);
        fault("jar 1 nth;", 1, 6);
        fault("jar " + times("(", 8) + "1(", 1, 13);
        fault("jar " + times("(", 8) + "1 not", 1, 14);
        fault("jar " + times("(", 8) + "not", 1, 12);
        fault("jar " + times("(", 8) + "1 if", 1, 14);
        fault("none 1;" + times("stop;", 23) + "none 1;", 4, 122);
    }
}
