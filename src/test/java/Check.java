/** What tests have in common: a count of what is wrong, and texts put on the tape. */
final class Check {
    int wrong = 0;
    private int right = 0;

    void is(String call, long got, long want) {
        if (got == want) {
            right++;
        } else {
            wrong++;
            System.out.println(call + " answered " + got + ", due is " + want);
        }
    }

    void is(String call, boolean got, boolean want) {
        is(call, got ? 1 : 0, want ? 1 : 0);
    }

    /** A fraction, both parts. */
    void part(String call, long upper, long lower, long wantUpper, long wantLower) {
        is(call + " (upper)", upper, wantUpper);
        is(call + " (lower)", lower, wantLower);
    }

    void end(String name) {
        System.out.println(name + ": " + right + " answers as due, " + wrong + " not");
        if (wrong != 0 || right == 0) {
            System.exit(1);
        }
    }

    /** Puts a text on the tape, and nothing else. */
    static void tape(OneStepMore x, String text) {
        x.end(0);
        for (int i = 0; i < text.length(); i += 20) {
            int[] four = new int[5];
            for (int k = 0; k < 20; k++) {
                int b = i + k < text.length() ? text.charAt(i + k) : 0;
                four[k / 4] |= b << (24 - k % 4 * 8);
            }
            x.feed(four[0], four[1], four[2], four[3], four[4]);
        }
        x.end(text.length());
    }

    static int text(OneStepMore x, String text) {
        tape(x, text);
        return x.text();
    }
}
