/** Collects the answers that are not as due; each test ends with done(). */
final class Due {
    static final long BAD = Long.MIN_VALUE + 2;
    static final long NOT = Long.MIN_VALUE + 3;
    static final long FULL = Long.MIN_VALUE + 4;

    private int wrong = 0;
    private int asked = 0;

    void due(String call, long got, long want) {
        asked++;
        if (got != want) {
            wrong++;
            System.out.println(call + " answered " + got + ", due is " + want);
        }
    }

    /** A long's above and below in one line. */
    void fraction(String call, long above, long below, long wantAbove, long wantBelow) {
        due(call + " above", above, wantAbove);
        due(call + " below", below, wantBelow);
    }

    void done() {
        System.out.println(asked + " answers, " + wrong + " not as due");
        if (wrong != 0) {
            System.exit(1);
        }
    }

    static void typeAll(TenCoins x, String text) {
        x.wipe();
        for (int i = 0; i < text.length(); i++) {
            x.type(text.charAt(i));
        }
    }
}
