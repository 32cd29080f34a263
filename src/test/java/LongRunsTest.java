import java.util.Random;

/**
 * Towns that are stepped to the last hour, with rules that begin, and are struck, on late days; answered by WaterTown
 * and by PlainTown. AgainstPlainTest has all calls, but few hours.
 */
public final class LongRunsTest {
    private static final int RUNS = 6;
    private static int wrong;
    private static int calls;

    private final Random random;
    private final int run;
    private final WaterTown x = new WaterTown();
    private final PlainTown y = new PlainTown();

    private LongRunsTest(int run) {
        this.run = run;
        random = new Random(run * 104729L + 5);
    }

    /** With two numbers as arguments: the runs from the first one up to the other. */
    public static void main(String[] args) {
        int from = args.length > 1 ? Integer.parseInt(args[0]) : 0;
        int to = args.length > 1 ? Integer.parseInt(args[1]) : RUNS;
        for (int run = from; run < to; run++) {
            new LongRunsTest(run).play();
        }
        System.out.println(calls + " calls in long runs, " + wrong + " answered otherwise");
        if (wrong != 0) System.exit(1);
    }

    private void play() {
        build();
        for (int k = 0; k < 8; k++) {
            if (upTo(3) != 0) rule();
        }
        // From this hour on nothing but hours: a year's stretch that beside must go through again.
        int changesEnd = upTo(1) == 0 ? 0 : 24 * upTo(150) + upTo(23);
        while (y.count(0) < 4800) {
            if (y.count(0) < changesEnd) change();
            int n = Math.min(4800 - y.count(0), upTo(4) == 0 ? upTo(40) : 100 + upTo(100));
            same("go(" + n + ")", x.go(n), y.go(n));
            if (upTo(11) == 0) look();
        }
        same("go(1)", x.go(1), y.go(1));
        look();
        for (int k = 0; k < 2; k++) {
            int node = upTo(5), s = upTo(60);
            same("beside(" + node + ", " + s + ")", x.beside(node, s), y.beside(node, s));
        }
    }

    private void build() {
        int pipes = 4 + upTo(6);
        for (int k = 0; k < pipes; k++) {
            int a = upTo(5), b = (a + 1 + upTo(4)) % 6, bore = 5 + upTo(60), leak = upTo(2) == 0 ? upTo(6) : 0;
            same("pipe", x.pipe(a, b, bore, leak), y.pipe(a, b, bore, leak));
        }
        int streets = 2 + upTo(4);
        for (int k = 0; k < streets; k++) {
            int node = upTo(5), n = 1 + upTo(8), q = 1 + upTo(2), waste = upTo(3);
            int size = upTo(2) == 0 ? upTo(999) : upTo(150), kind = upTo(3) == 0 ? 1 : 0;
            same("street", x.street(node, n, q, waste, size, kind), y.street(node, n, q, waste, size, kind));
            same("rooms", x.rooms(k, k + 1), y.rooms(k, k + 1));
        }
        pump();
        pump();
    }

    private void pump() {
        int from = upTo(23), to = from + upTo(23 - from), v = upTo(160);
        same("pump(" + from + ", " + to + ", " + v + ")", x.pump(from, to, v), y.pump(from, to, v));
    }

    private void rule() {
        int there = y.count(4), from = upTo(23);
        String[] keys = {"always", "turn", "small", "far"};
        int first = upTo(3), second = (first + 1 + upTo(2)) % 4;
        StringBuilder t = new StringBuilder();
        if (upTo(1) == 0) t.append("first ").append(keys[first]).append(',').append(keys[second]).append(';');
        if (upTo(1) == 0) t.append("hours ").append(from).append(" to ").append(from + upTo(23 - from)).append(';');
        if (upTo(2) == 0) t.append("rate ").append(upTo(9)).append("; meter ").append(upTo(9)).append(';');
        if (there > 0 && upTo(1) == 0) t.append("strike ").append(upTo(there - 1)).append(';');
        for (int k = 0; k < t.length(); k++) {
            same("feed", x.feed(1, t.charAt(k)), y.feed(1, t.charAt(k)));
        }
        int day = upTo(199);
        same("rule(" + day + ") of '" + t + "'", x.rule(day), y.rule(day));
    }

    private void change() {
        int p = upTo(y.count(1) - 1), s = upTo(y.count(2) - 1), v = upTo(8);
        switch (upTo(5)) {
            case 0 -> same("shut(" + p + ", true)", x.shut(p, true), y.shut(p, true));
            case 1 -> same("shut(" + p + ", false)", x.shut(p, false), y.shut(p, false));
            case 2 -> same("leak(" + p + ", " + v + ")", x.leak(p, v), y.leak(p, v));
            case 3 -> same("over(" + s + ")", x.over(s), y.over(s));
            case 4 -> rule();
            default -> pump();
        }
    }

    private void look() {
        for (int what = 0; what <= 10; what++) {
            same("count(" + what + ")", x.count(what), y.count(what));
        }
        int turns = 0;
        for (int s = 0; s < y.count(2); s++) {
            for (int what = 0; what <= 8; what++) {
                same("told(" + s + ", " + what + ")", x.told(s, what), y.told(s, what));
            }
            if (y.told(s, 1) == 0 && Integer.bitCount(turns) < 4) turns |= 1 << s;
        }
        same("gains()", x.gains(), y.gains());
        for (int i = -1; i < 5; i++) {
            same("order(" + turns + ", " + i + ")", x.order(turns, i), y.order(turns, i));
        }
        for (int hour = 0; hour < 24; hour += 1 + upTo(6)) {
            int node = upTo(5);
            same("flow(" + hour + ", -1, 3)", x.flow(hour, -1, 3), y.flow(hour, -1, 3));
            same("line(" + hour + ", 0)", x.line(hour, 0), y.line(hour, 0));
            same("draw(" + node + ", " + hour + ", 2)", x.draw(node, hour, 2), y.draw(node, hour, 2));
        }
    }

    private int upTo(int most) {
        return random.nextInt(most + 1);
    }

    private void same(String call, int got, int want) {
        calls++;
        if (got != want) {
            wrong++;
            System.out.println("run " + run + " at hour " + y.count(0) + ": " + call + " answered " + got + ", plainly it is " + want);
        }
    }
}
