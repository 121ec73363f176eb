import java.util.Random;

/** Writes texts by chance: most without FAULT, some with. */
final class Writer {
    private static final String[] NAMES = {"who", "house", "steps", "drunk", "loaded", "nights", "nth", "height", "last", "rail"};
    private static final String[] SIGNS = {"<", "<=", ">", ">=", "=", "#"};
    private static final String[] STRANGE = {
        "none", "twice", "trips", "jar", "fall", "stair", "high", "mark", "rail", "one", "begin", "load", "drink",
        "step", "toe", "stop", "night", "long", "at", "of", "landing", "if", "end", "not", "or", "and", "nth", "who",
        "<", "<=", ">", "+", "-", "*", "/", "(", ")", ";", "?", ":", "0", "10000", "99999999999", "wow", "None", "!", "\t",
        "((((((((", "--------", "not not not not not not not not", "5", "15", "\u00e9", "\0", "<<=", ";", "-(-(-(-(1))))"};
    private final Random random;

    Writer(Random random) {
        this.random = random;
    }

    private int upTo(int n) {
        return random.nextInt(n + 1);
    }

    private String blank() {
        return new String[] {" ", " ", "\n", "  "}[upTo(3)];
    }

    String text() {
        StringBuilder all = new StringBuilder();
        boolean[] told = new boolean[5];
        int clauses = random.nextInt(40) == 0 ? 26 : upTo(9);
        for (int i = 0; i < clauses; i++) {
            String clause = clauses == 26 ? "stop;" : random.nextInt(3) == 0 ? law(told) : deed();
            if (all.length() + clause.length() <= 300 || random.nextInt(30) == 0) {
                all.append(clause);
            }
        }
        if (random.nextInt(4) == 0) {
            int at = upTo(all.length());
            all.insert(at, blank() + STRANGE[random.nextInt(STRANGE.length)] + blank());
        }
        if (random.nextInt(12) == 0) {
            all.setLength(upTo(all.length()));
        }
        return all.toString();
    }

    private String law(boolean[] told) {
        int law = random.nextInt(5);
        if (told[law] && random.nextInt(10) > 0) {
            return "";
        }
        told[law] = true;
        boolean atSteps = law < 3 || random.nextInt(20) == 0;
        int deep = upTo(3);
        switch (law) {
            case 0: return "none " + sum(deep, atSteps) + ";";
            case 1: return "twice " + sum(deep, atSteps) + ";";
            case 2: return "trips " + either(deep, atSteps) + ";";
            case 3: return "jar " + sum(deep, atSteps) + ";";
            default: return "fall " + sum(deep, atSteps) + ";";
        }
    }

    private String either(int deep, boolean atSteps) {
        StringBuilder all = new StringBuilder(ask(deep, atSteps));
        for (int i = upTo(5) / 4; i > 0; i--) {
            all.append(random.nextBoolean() ? " or " : " and ").append(ask(deep, atSteps));
        }
        return all.toString();
    }

    private String ask(int deep, boolean atSteps) {
        if (deep > 0 && random.nextInt(5) == 0) {
            return "not " + ask(deep - 1, atSteps);
        }
        return sum(deep - 1, atSteps) + SIGNS[random.nextInt(6)] + sum(deep - 1, atSteps);
    }

    private String sum(int deep, boolean atSteps) {
        StringBuilder all = new StringBuilder(one(deep, atSteps));
        for (int i = upTo(5) / 3; i > 0; i--) {
            all.append("+-*/".charAt(random.nextInt(4))).append(one(deep, atSteps));
        }
        return all.toString();
    }

    /** Some 7 to 10 that are open around one another. */
    private String deepOne(boolean atSteps) {
        StringBuilder ahead = new StringBuilder();
        StringBuilder behind = new StringBuilder();
        for (int i = 7 + upTo(3); i > 0; i--) {
            switch (random.nextInt(4)) {
                case 0:
                    ahead.append('(');
                    behind.insert(0, ")");
                    break;
                case 1:
                    ahead.append('-');
                    break;
                case 2:
                    ahead.append("if not 1<");
                    behind.insert(0, "?1:2 end");
                    i--;
                    break;
                default:
                    ahead.append("if 1=1?2:");
                    behind.insert(0, " end");
                    break;
            }
        }
        return ahead.append(NAMES[random.nextInt(atSteps ? 10 : 6)]).append(behind).toString();
    }

    private String one(int deep, boolean atSteps) {
        if (random.nextInt(60) == 0) {
            return deepOne(atSteps);
        }
        int r = random.nextInt(deep > 0 ? 12 : 6);
        if (r < 3) {
            return Integer.toString(random.nextInt(8) == 0 ? upTo(9999) : upTo(9));
        }
        if (r < 6) {
            return NAMES[random.nextInt(atSteps ? 10 : 6)];
        }
        if (r < 8) {
            return "(" + sum(deep - 1, atSteps) + ")";
        }
        if (r < 9) {
            return "-" + one(deep - 1, atSteps);
        }
        return "if " + either(deep - 1, atSteps) + "?" + sum(deep - 1, atSteps) + ":" + sum(deep - 1, atSteps) + " end";
    }

    private int near(int lowest, int highest) {
        return random.nextInt(40) == 0 ? highest + 1 : lowest + random.nextInt(highest - lowest + 1);
    }

    private String deed() {
        switch (random.nextInt(14)) {
            case 0: return "stair " + near(0, 3) + " long " + near(1, random.nextInt(3) == 0 ? 14 : 4) + ";";
            case 1: return "high " + near(1, 9) + blank() + "at " + near(1, 4) + " of " + near(0, 3) + ";";
            case 2: return "mark " + near(1, 4) + " of " + near(0, 3) + ";";
            case 3: return "rail " + near(0, 4) + " of " + near(0, 3) + ";";
            case 4: return "one " + near(0, 6) + " twice " + near(0, 5) + " landing " + near(0, 10) + ";";
            case 5: case 6: return "begin " + near(0, 2) + " at " + near(0, 3) + ";";
            case 7: return "load " + near(0, 2) + " at " + near(0, 3) + ";";
            case 8: return "drink " + near(0, 2) + " at " + near(0, 3) + ";";
            case 9: case 10: return "step " + near(1, random.nextInt(4) == 0 ? 20 : 4) + ";";
            case 11: return "toe " + near(1, random.nextInt(4) == 0 ? 20 : 4) + ";";
            case 12: return "stop;";
            default: return "night " + near(1, 3) + ";";
        }
    }
}
