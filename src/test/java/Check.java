/** Counts answers that are not the ones due. */
final class Check {
    private int wrong = 0;

    void due(String what, long got, long want) {
        if (got != want) {
            wrong++;
            System.out.println(what + " answered " + got + ", due is " + want);
        }
    }

    /** Each of the answers, in their order. */
    void row(String what, long[] got, long... want) {
        due(what + ": how many", got.length, want.length);
        for (int i = 0; i < Math.min(got.length, want.length); i++) {
            due(what + " [" + i + "]", got[i], want[i]);
        }
    }

    void end() {
        System.out.println(wrong == 0 ? "all answers are as due" : wrong + " answers are not as due");
        if (wrong != 0) {
            System.exit(1);
        }
    }

    static ShapePour on(String text) {
        ShapePour x = new ShapePour();
        if (Texts.page(x, text) < 0) {
            throw new IllegalStateException(text + " has fault " + x.fault(0) + " at " + x.fault(1));
        }
        return x;
    }

    /** A tray of 64 bits with these numbers. */
    static void tray(ShapePour x, int tray, long... all) {
        x.numbers(tray, 3, all.length);
        for (int i = 0; i < all.length; i++) {
            x.write(tray, i, all[i]);
        }
    }
}
