/** What the tests of the project share: counting wrong answers, and telling a text. */
final class Due {
    private static final int FACTOR = 1664525;
    private static final int SUMMAND = 1013904223;

    private final String name;
    private int wrong;
    private int checks;
    private String part = "";

    Due(String name) {
        this.name = name;
    }

    void part(String what) {
        part = what;
    }

    void same(String call, long got, long want) {
        checks++;
        if (got != want) {
            wrong++;
            System.out.println(name + ", " + part + ": " + call + " answered " + got + ", due is " + want);
        }
    }

    void yes(String call, boolean got) {
        same(call, got ? 1 : 0, 1);
    }

    void no(String call, boolean got) {
        same(call, got ? 1 : 0, 0);
    }

    void close() {
        System.out.println(name + ": " + checks + " answers, " + wrong + " wrong");
        if (wrong != 0) {
            System.exit(1);
        }
    }

    /** Feeds a text of any length up to 400 and cuts the blanks behind it. */
    static void feed(NobodyThere x, String text) {
        StringBuilder padded = new StringBuilder(text);
        while (padded.length() % 20 != 0) {
            padded.append(' ');
        }
        for (int i = 0; i < padded.length(); i += 20) {
            int[] n = new int[5];
            for (int j = 0; j < 20; j++) {
                n[j / 4] = n[j / 4] << 8 | padded.charAt(i + j) & 255;
            }
            x.feed(n[0], n[1], n[2], n[3], n[4]);
        }
        x.end(text.length());
    }

    static int tell(NobodyThere x, int k, String text) {
        feed(x, text);
        return x.text(k);
    }

    /** Lets minutes go by until it is minute m. */
    static void waitUntil(NobodyThere x, int m) {
        while (x.look(2) < m) {
            x.minutes(Math.min(100, m - x.look(2)));
        }
    }

    static int drawnState(int state) {
        return state * FACTOR + SUMMAND;
    }

    /** The state from which a draw leads to that state. */
    static int stateBefore(int after) {
        int inverse = FACTOR;
        for (int i = 0; i < 5; i++) {
            inverse *= 2 - FACTOR * inverse;
        }
        return (after - SUMMAND) * inverse;
    }

    /** A state from which the next draw of 1000 is first, and the draw of size behind it is second. */
    static int stateDrawing(int first, int second, int size) {
        for (int high = first; high < 1 << 24; high += 1000) {
            for (int low = 0; low < 256; low++) {
                int state = high << 8 | low;
                if ((drawnState(state) >>> 8) % size == second) {
                    return stateBefore(state);
                }
            }
        }
        throw new IllegalStateException("no such state");
    }

    static long spots(int... all) {
        long set = 0;
        for (int c : all) {
            set |= 1L << c;
        }
        return set;
    }

    /** All spots of the columns from .. to on a bridge h high. */
    static long columns(int from, int to, int h) {
        long set = 0;
        for (int y = 0; y < h; y++) {
            for (int x = from; x <= to; x++) {
                set |= 1L << 8 * y + x;
            }
        }
        return set;
    }
}
