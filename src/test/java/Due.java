/** Counts answers that are not as due, and feeds texts as bytes. */
final class Due {
    private int wrong;
    private int asked;
    private String part = "";

    void part(String name) {
        part = name;
    }

    void is(String call, long got, long want) {
        asked++;
        if (got != want) {
            wrong++;
            System.out.println(part + ": " + call + " answered " + got + ", due is " + want);
        }
    }

    /** Feeds a text, eight bytes at a time; characters are bytes 0 to 255. */
    static int feed(WaterTown x, String text) {
        int last = x.count(6);
        for (int k = 0; k < text.length(); k += 8) {
            int n = Math.min(8, text.length() - k);
            long bytes = 0;
            for (int j = 0; j < n; j++) {
                bytes = bytes << 8 | text.charAt(k + j) & 255;
            }
            last = x.feed(n, bytes);
        }
        return last;
    }

    /** A new rule out of a text. */
    static int rule(WaterTown x, String text, int day) {
        feed(x, text);
        return x.rule(day);
    }

    void end() {
        System.out.println(asked + " answers, " + wrong + " not as due");
        if (wrong != 0) {
            System.exit(1);
        }
    }
}
