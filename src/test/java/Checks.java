/** Counts the answers that are not as due; and what several tests begin with. */
final class Checks {
    static final int NONE = -1, BAD = -2, STATE = -3, FULL = -4, NO_SUCH = -5, WRONG = -7;
    static final int NOTHING = -11, OUTSIDE = -12, UNLIKE = -13, BELOW = -14;
    static final long NO = -4611686018427387904L, ALL = (1L << 36) - 1;
    static final int ALL_SECONDS = (1 << 24) - 1;
    /** What no number may be. */
    static final int[] WILD = {Integer.MIN_VALUE, -1000, -1, 1000, 1 << 30, Integer.MAX_VALUE};

    /** A test that takes longer, in milliseconds, has come to a call that doesn't end. */
    private static final int LONGEST_TEST = 600_000;

    private int wrong;
    private int asked;

    Checks() {
        Thread watch = new Thread(Checks::endLate);
        watch.setDaemon(true);
        watch.start();
    }

    private static void endLate() {
        try {
            Thread.sleep(LONGEST_TEST);
        } catch (InterruptedException e) {
            return;
        }
        System.out.println("a call doesn't end");
        Runtime.getRuntime().halt(1);
    }

    void due(String what, long got, long want) {
        asked++;
        if (got != want) {
            wrong++;
            System.out.println(what + ": " + got + ", due is " + want);
        }
    }

    void end(String name) {
        System.out.println(name + ": " + asked + " answers, " + wrong + " not as due");
        if (wrong != 0) {
            System.exit(1);
        }
    }

    static long bits(int... cells) {
        long set = 0;
        for (int c : cells) {
            set |= 1L << c;
        }
        return set;
    }

    static void feed(GuardsLookLeft x, String text) {
        for (int i = 0; i < text.length(); i += 5) {
            int[] five = new int[5];
            int n = Math.min(5, text.length() - i);
            for (int j = 0; j < n; j++) {
                five[j] = text.charAt(i + j);
            }
            x.feed(n, five[0], five[1], five[2], five[3], five[4]);
        }
    }

    /** Feeds a text and has it read. */
    static int text(GuardsLookLeft x, String text) {
        feed(x, text);
        return x.text();
    }

    /** An object with a law of its own. */
    static GuardsLookLeft withLaw(String law) {
        GuardsLookLeft x = new GuardsLookLeft();
        x.force(text(x, law));
        return x;
    }

    /** One floor cell (2), and guards who stand in the wall at 8 and look at it from their second MORE on. */
    static GuardsLookLeft cellWithPacers(int... mores) {
        GuardsLookLeft x = new GuardsLookLeft();
        x.lay(0, ALL & ~bits(2));
        for (int more : mores) {
            x.guard(5, 8, 30, more);
        }
        return x;
    }
}
