/** What the tests of the project share: counting wrong answers, and telling a text. */
final class Due {
    private final String name;
    private int wrong;
    private int checks;
    private String part = "";

    Due(String name) {
        this.name = name;
    }

    void part(String what) {
        part = what;
    }

    void same(String call, long got, long want) {
        checks++;
        if (got != want) {
            wrong++;
            System.out.println(name + ", " + part + ": " + call + " answered " + got + ", due is " + want);
        }
    }

    void yes(String call, boolean got) {
        same(call, got ? 1 : 0, 1);
    }

    void no(String call, boolean got) {
        same(call, got ? 1 : 0, 0);
    }

    void close() {
        System.out.println(name + ": " + checks + " answers, " + wrong + " wrong");
        if (wrong != 0) {
            System.exit(1);
        }
    }

    /** Feeds a text of any length up to 400 and cuts the blanks behind it. */
    static void feed(NobodyThere x, String text) {
        StringBuilder padded = new StringBuilder(text);
        while (padded.length() % 20 != 0) {
            padded.append(' ');
        }
        for (int i = 0; i < padded.length(); i += 20) {
            int[] n = new int[5];
            for (int j = 0; j < 20; j++) {
                n[j / 4] = n[j / 4] << 8 | padded.charAt(i + j) & 255;
            }
            x.feed(n[0], n[1], n[2], n[3], n[4]);
        }
        x.end(text.length());
    }

    static int tell(NobodyThere x, int k, String text) {
        feed(x, text);
        return x.text(k);
    }

    static long spots(int... all) {
        long set = 0;
        for (int c : all) {
            set |= 1L << c;
        }
        return set;
    }

    /** All spots of the columns from .. to on a bridge h high. */
    static long columns(int from, int to, int h) {
        long set = 0;
        for (int y = 0; y < h; y++) {
            for (int x = from; x <= to; x++) {
                set |= 1L << 8 * y + x;
            }
        }
        return set;
    }
}
