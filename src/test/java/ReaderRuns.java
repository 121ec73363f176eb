import java.util.ArrayList;
import java.util.List;
import java.util.Random;

/** Many texts, read by OneStepMore and by the Model: each has the same FAULT at the same place. */
public final class ReaderRuns {
    private static final String[] TOKENS = {
        "none", "twice", "trips", "jar", "fall", "stair", "high", "mark", "rail", "one", "begin", "load", "drink", "step",
        "toe", "stop", "night", "long", "at", "of", "landing", "if", "end", "not", "or", "and", "who", "house", "steps",
        "drunk", "loaded", "nights", "nth", "height", "last", "<", "<=", ">", ">=", "=", "#", "+", "-", "*", "/", "(", ")",
        ";", "?", ":", "0", "1", "3", "9", "14", "9999", "10000", "wow", "!", "\t"};
    private static final String[] TEXTS = {
        "stair 1 long 2 ;", "high 1 at 2 of 3 ;", "mark 1 of 2 ;", "rail 1 of 2 ;", "one 1 twice 2 landing 3 ;",
        "begin 1 at 2 ;", "load 1 at 2 ;", "drink 1 at 2 ;", "step 1 ;", "toe 1 ;", "stop ;", "night 1 ;",
        "none 1 + who ;", "twice 1 * ( 2 - 1 ) / nth ;", "jar - 1 ;", "fall if not 1 < 2 or 1 = 1 and 2 # 3 ? 4 : 5 end ;",
        "trips not 1 < 2 or ( 1 ) = 1 and 2 >= - 3 ;", "jar ( ( ( ( ( ( ( 1 ) ) ) ) ) ) ) ;",
        "trips not not not not not not not 1 = 1 ;", "jar 1 ; stop ; fall 2 ;"};
    private static final int[] faults = new int[7];
    private static OneStepMore x = new OneStepMore();
    private static int read = 0;
    private static int wrong = 0;

    public static void main(String[] args) {
        Writer writer = new Writer(new Random(77));
        for (int i = 0; i < 20000 && wrong < 5; i++) {
            check(writer.text());
        }
        for (int i = 0; i < faults.length; i++) {
            if (faults[i] < 20) {
                wrong++;
                System.out.println("too few texts with FAULT " + i);
            }
        }
        for (String text : TEXTS) {
            anyTokenAnywhere(text.split(" "));
        }
        System.out.println(wrong == 0 ? "all " + read + " texts are read alike" : "texts are read otherwise");
        if (wrong != 0) {
            System.exit(1);
        }
    }

    /** Each TOKEN in the place of each other, ahead of each, and each left out. */
    private static void anyTokenAnywhere(String[] tokens) {
        for (int i = 0; i < tokens.length; i++) {
            String ahead = joined(tokens, 0, i);
            String behind = joined(tokens, i + 1, tokens.length);
            check(ahead + behind);
            for (String token : TOKENS) {
                check(ahead + token + " " + behind);
                check(ahead + token + " " + tokens[i] + " " + behind);
            }
        }
    }

    private static String joined(String[] tokens, int from, int to) {
        StringBuilder all = new StringBuilder();
        for (int i = from; i < to; i++) {
            all.append(tokens[i]).append(' ');
        }
        return all.toString();
    }

    private static void check(String text) {
        List<Integer> bytes = new ArrayList<>();
        for (int k = 0; k < Math.min(300, text.length()); k++) {
            bytes.add(text.charAt(k) & 255);
        }
        int what = 0;
        int place = -1;
        try {
            Model.read(bytes);
        } catch (Model.Fault f) {
            what = f.what;
            place = f.place;
        }
        faults[what]++;
        // an object is for 512 calls
        if (read % 10 == 0) {
            x = new OneStepMore();
        }
        read++;
        x.back();
        feed(x, bytes);
        int got = x.text();
        if (got != (what == 0 ? 0 : -1) || x.fault(0) != what || x.fault(1) != place || x.about(8) != 0) {
            wrong++;
            System.out.println(x.fault(0) + " at " + x.fault(1) + ", due is " + what + " at " + place + ": " + text);
        }
    }

    private static void feed(OneStepMore x, List<Integer> bytes) {
        x.end(0);
        for (int i = 0; i < bytes.size(); i += 20) {
            int[] w = new int[5];
            for (int k = 0; k < 20; k++) {
                int b = i + k < bytes.size() ? bytes.get(i + k) : 0;
                w[k / 4] |= b << (24 - k % 4 * 8);
            }
            x.feed(w[0], w[1], w[2], w[3], w[4]);
        }
        x.end(bytes.size());
    }
}
