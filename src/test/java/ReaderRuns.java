import java.util.ArrayList;
import java.util.List;
import java.util.Random;

/** Many texts, read by OneStepMore and by the Model: each has the same FAULT at the same place. */
public final class ReaderRuns {
    public static void main(String[] args) {
        Random random = new Random(77);
        Writer writer = new Writer(random);
        OneStepMore x = new OneStepMore();
        int[] faults = new int[7];
        int wrong = 0;
        for (int i = 0; i < 20000 && wrong < 5; i++) {
            String text = writer.text();
            List<Integer> bytes = new ArrayList<>();
            for (int k = 0; k < Math.min(300, text.length()); k++) {
                bytes.add(text.charAt(k) & 255);
            }
            int what = 0;
            int place = -1;
            try {
                Model.read(bytes);
            } catch (Model.Fault f) {
                what = f.what;
                place = f.place;
            }
            faults[what]++;
            // an object is for 512 calls
            if (i % 10 == 0) {
                x = new OneStepMore();
            }
            x.back();
            feed(x, bytes);
            int got = x.text();
            if (got != (what == 0 ? 0 : -1) || x.fault(0) != what || x.fault(1) != place || x.about(8) != 0) {
                wrong++;
                System.out.println(x.fault(0) + " at " + x.fault(1) + ", due is " + what + " at " + place + ": " + text);
            }
        }
        for (int i = 0; i < faults.length; i++) {
            if (faults[i] < 20) {
                wrong++;
                System.out.println("too few texts with FAULT " + i);
            }
        }
        System.out.println(wrong == 0 ? "all texts are read alike" : "texts are read otherwise");
        if (wrong != 0) {
            System.exit(1);
        }
    }

    private static void feed(OneStepMore x, List<Integer> bytes) {
        x.end(0);
        for (int i = 0; i < bytes.size(); i += 20) {
            int[] w = new int[5];
            for (int k = 0; k < 20; k++) {
                int b = i + k < bytes.size() ? bytes.get(i + k) : 0;
                w[k / 4] |= b << (24 - k % 4 * 8);
            }
            x.feed(w[0], w[1], w[2], w[3], w[4]);
        }
        x.end(bytes.size());
    }
}
