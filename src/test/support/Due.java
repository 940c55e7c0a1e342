/** Compares answers with what is due, and ends a test. */
final class Due {
    private int wrong;
    private int asked;

    void is(String call, long got, long want) {
        asked++;
        if (got != want) {
            wrong++;
            System.out.println(call + " answered " + got + ", due is " + want);
        }
    }

    void isTrue(String what, boolean holds) {
        is(what, holds ? 1 : 0, 1);
    }

    void end() {
        System.out.println(asked + " asked, " + wrong + " wrong");
        if (wrong != 0 || asked == 0) {
            System.exit(1);
        }
    }

    static void feed(WallPatience x, String text) {
        for (int k = 0; k < text.length(); k++) {
            x.feed(text.charAt(k));
        }
    }

    /** A new object with a wall. */
    static WallPatience with(String text) {
        WallPatience x = new WallPatience();
        feed(x, text);
        if (x.wall() < 1) {
            throw new IllegalStateException("no wall: " + text);
        }
        return x;
    }

    /** Puts items from 0 on. */
    static void fill(WallPatience x, int sheet, int lane, long... items) {
        for (int k = 0; k < items.length; k++) {
            x.item(sheet, lane, k, items[k]);
        }
    }
}
