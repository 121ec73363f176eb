/** What can be seen of an object, as a text: two objects alike look alike. */
final class Look {
    private final OneStepMore x;
    private final StringBuilder all = new StringBuilder();

    private Look(OneStepMore x) {
        this.x = x;
    }

    /** Some 130 calls, and 8 for each line of THE BOOK; nothing is changed by them. */
    static String plain(OneStepMore x) {
        Look look = new Look(x);
        look.see();
        return look.all.toString();
    }

    /**
     * What stands, then what can be taken back (8 ACTS at most), THE IMAGE, and what is on the tape: some 380 calls with a
     * line in THE BOOK. The object is another behind it.
     */
    static String whole(OneStepMore x) {
        Look look = new Look(x);
        look.see();
        for (int i = 0; i < 8; i++) {
            look.name("undo");
            look.put(x.undo());
            look.seeWay();
        }
        look.name("back");
        look.put(x.back());
        look.see();
        look.seeTape();
        return look.all.toString();
    }

    private void name(String name) {
        all.append('\n').append(name).append(':');
    }

    private void put(long value) {
        all.append(' ').append(value);
    }

    private void see() {
        name("about");
        for (int i = 0; i <= 8; i++) {
            put(x.about(i));
        }
        name("people");
        for (int p = 0; p < x.about(0); p++) {
            put(x.about(10 + p));
            put(x.about(20 + p));
            put(x.about(30 + p));
        }
        name("fault");
        put(x.fault(0));
        put(x.fault(1));
        seeHouses();
        seeWay();
        seeBook();
        name("laws of what was seen");
        put(x.laws());
        name("laws");
        for (int i = 0; i < 5; i++) {
            put(x.says(0, 0, 0, 1, i));
        }
    }

    private void seeHouses() {
        for (int h = 0; h < 4; h++) {
            name("house");
            put(x.house(h, 0));
            put(x.house(h, 1));
            put(x.house(h, 2));
            for (int step = 1; step <= x.house(h, 0); step++) {
                put(x.house(h, 10 + step));
            }
        }
    }

    private void seeWay() {
        name("way");
        for (int i = 0; i < 8; i++) {
            put(x.way(i));
        }
        name("night, X");
        put(x.about(1));
        put(x.about(2));
    }

    private void seeBook() {
        int lines = x.book(-1, 0);
        name("book of " + lines);
        for (int i = 0; i < lines; i++) {
            for (int k = 0; k < 8; k++) {
                put(x.book(i, k));
            }
        }
    }

    /** What the bytes are is seen by what they read as. */
    private void seeTape() {
        name("tape");
        put(x.about(8));
        int read = x.text();
        put(read);
        put(x.fault(0));
        put(x.fault(1));
        x.by(read);
        for (int i = 0; i < 5; i++) {
            put(x.says(0, 0, 0, 1, i));
        }
    }
}
