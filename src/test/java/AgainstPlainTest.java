import java.util.Random;

/** Random runs of calls, wild ones among them, answered by WaterTown and by PlainTown. */
public final class AgainstPlainTest {
    private static final int RUNS = 200;
    private static int wrong;
    private static int calls;

    private final Random random;
    private final int run;
    private final WaterTown x = new WaterTown();
    private final PlainTown y = new PlainTown();
    private final StringBuilder story = new StringBuilder();
    private int budget = 1500;

    private AgainstPlainTest(int run) {
        this.run = run;
        random = new Random(run * 7919L + 1);
    }

    public static void main(String[] args) {
        int runs = args.length > 0 ? Integer.parseInt(args[0]) : RUNS;
        for (int run = 0; run < runs && wrong == 0; run++) {
            new AgainstPlainTest(run).play();
        }
        System.out.println(calls + " calls in random runs, " + wrong + " answered otherwise");
        if (wrong != 0) System.exit(1);
    }

    private void play() {
        build();
        for (int k = 0; k < 200 && wrong == 0; k++) {
            step();
        }
    }

    private void same(String call, int got, int want) {
        calls++;
        story.append(call).append(" = ").append(got).append('\n');
        if (got != want) {
            wrong++;
            System.out.println(story);
            System.out.println("run " + run + ": " + call + " answered " + got + ", plainly it is " + want);
        }
    }

    private int upTo(int most) {
        return random.nextInt(most + 1);
    }

    /** Mostly within bounds, at times at an edge or far out. */
    private int num(int low, int high) {
        int die = upTo(59);
        if (die == 0) return low - 1;
        if (die == 1) return high + 1;
        if (die == 2) return random.nextInt();
        if (die == 3) return low;
        if (die == 4) return high;
        return low + upTo(high - low);
    }

    private int node() {
        return upTo(3) == 0 ? num(0, 9) : num(0, 5);
    }

    private int someStreet() {
        return num(0, Math.max(0, y.count(2) - 1));
    }

    private int somePipe() {
        return num(0, Math.max(0, y.count(1) - 1));
    }

    private int set(int size) {
        int die = upTo(39);
        if (die == 0) return random.nextInt();
        if (die == 1) return 1 << Math.min(size, 30);
        return random.nextInt(1 << size);
    }

    private void build() {
        int pipes = upTo(3) == 0 ? 20 : 3 + upTo(7);
        int streets = upTo(3) == 0 ? 10 : 2 + upTo(4);
        for (int k = 0; k < pipes; k++) pipe();
        for (int k = 0; k < streets; k++) street();
    }

    private void pipe() {
        int a = node(), b = node(), bore = num(1, upTo(9) == 0 ? 999 : 60), leak = upTo(2) == 0 ? num(0, 15) : 0;
        same("pipe(" + a + ", " + b + ", " + bore + ", " + leak + ")", x.pipe(a, b, bore, leak), y.pipe(a, b, bore, leak));
    }

    private void street() {
        int node = node(), n = num(1, 12), q = num(1, 4), waste = num(0, 9), size = num(0, upTo(3) == 0 ? 999 : 80), kind = num(0, 1);
        same("street(" + node + ", " + n + ", " + q + ", " + waste + ", " + size + ", " + kind + ")",
                x.street(node, n, q, waste, size, kind), y.street(node, n, q, waste, size, kind));
    }

    private void step() {
        int die = upTo(30);
        if (die < 10) {
            change(die);
        } else if (die < 14) {
            rules(die);
        } else if (die < 22) {
            hours(die);
        } else {
            rest(die);
        }
        look();
    }

    private void change(int die) {
        switch (die) {
            case 0 -> pipe();
            case 1 -> street();
            case 2, 3 -> {
                int p = somePipe();
                boolean is = random.nextBoolean();
                same("shut(" + p + ", " + is + ")", x.shut(p, is), y.shut(p, is));
            }
            case 4 -> {
                int p = somePipe(), v = num(0, 20);
                same("leak(" + p + ", " + v + ")", x.leak(p, v), y.leak(p, v));
            }
            case 5 -> {
                int p = somePipe(), a = node(), b = node();
                same("map(" + p + ", " + a + ", " + b + ")", x.map(p, a, b), y.map(p, a, b));
            }
            case 6, 7 -> {
                int from = num(0, 23), to = upTo(4) == 0 ? num(0, 23) : num(Math.max(0, Math.min(from, 23)), 23);
                int v = upTo(9) == 0 ? num(0, 9999) : num(0, 150);
                same("pump(" + from + ", " + to + ", " + v + ")", x.pump(from, to, v), y.pump(from, to, v));
            }
            case 8 -> {
                int s = someStreet();
                if (upTo(2) == 0) same("over(" + s + ")", x.over(s), y.over(s));
            }
            default -> {
                int s = someStreet(), v = num(0, 20);
                same("rooms(" + s + ", " + v + ")", x.rooms(s, v), y.rooms(s, v));
            }
        }
    }

    private static final String[] WORDS = {"first", "hours", "rate", "meter", "strike", "always", "turn", "small",
        "far", "to", ",", ";", "0", "1", "7", "23", "24", "99", "100", "1000", "x", "#", " ", "  ", "firs"};

    private String clause() {
        String[] keys = {"always", "turn", "small", "far"};
        switch (upTo(5)) {
            case 0, 1: {
                StringBuilder t = new StringBuilder("first ");
                int n = 1 + upTo(2);
                int from = upTo(3);
                int by = upTo(9) == 0 ? upTo(3) : 1;
                for (int k = 0; k < n; k++) {
                    t.append(k == 0 ? "" : upTo(1) == 0 ? "," : " , ").append(keys[(from + k * by) % 4]);
                }
                return t.append(";").toString();
            }
            case 2: {
                int from = upTo(23);
                return "hours " + from + (upTo(1) == 0 ? "to" : " to ") + (from + upTo(23 - from)) + ";";
            }
            case 3:
                return "rate " + upTo(99) + ";";
            case 4:
                return "meter" + upTo(upTo(9) == 0 ? 120 : 99) + " ;";
            default:
                return "strike " + upTo(Math.max(0, y.count(4) - (upTo(9) == 0 ? 0 : 1))) + "; ";
        }
    }

    private String text() {
        StringBuilder t = new StringBuilder();
        if (upTo(3) == 0) {
            int n = upTo(12);
            for (int k = 0; k < n; k++) t.append(WORDS[upTo(WORDS.length - 1)]).append(upTo(1) == 0 ? " " : "");
        } else {
            int n = upTo(5) == 0 ? 7 + upTo(2) : 1 + upTo(3);
            for (int k = 0; k < n; k++) t.append(clause());
        }
        if (upTo(5) == 0 && t.length() > 0) {
            int at = upTo(t.length() - 1);
            switch (upTo(2)) {
                case 0 -> t.deleteCharAt(at);
                case 1 -> t.insert(at, WORDS[upTo(WORDS.length - 1)]);
                default -> t.setCharAt(at, (char) upTo(255));
            }
        }
        return t.toString();
    }

    private void rules(int die) {
        if (die == 10) {
            int n = num(1, 8);
            long bytes = random.nextLong();
            if (upTo(4) == 0) same("feed(" + n + ", " + bytes + ")", x.feed(n, bytes), y.feed(n, bytes));
            return;
        }
        String t = text();
        for (int k = 0; k < t.length(); k += 8) {
            int n = Math.min(8, t.length() - k);
            long bytes = random.nextLong();
            for (int j = 0; j < n; j++) bytes = bytes << 8 | t.charAt(k + j);
            same("feed(" + n + ", " + bytes + ")", x.feed(n, bytes), y.feed(n, bytes));
        }
        int day = upTo(3) == 0 ? num(0, 199) : num(0, 12);
        same("rule(" + day + ") of '" + t + "'", x.rule(day), y.rule(day));
        same("fault()", x.fault(), y.fault());
    }

    private boolean afford(int hours) {
        if (budget < hours) return false;
        budget -= hours;
        return true;
    }

    private void hours(int die) {
        int hour = num(0, 23);
        switch (die) {
            case 14, 15 -> {
                int n = upTo(4) == 0 ? num(0, 60) : num(0, 12);
                if (n < 0 || n > 200 || afford(n)) same("go(" + n + ")", x.go(n), y.go(n));
            }
            case 16 -> {
                int s = upTo(1) == 0 ? -1 : someStreet(), what = num(0, 3);
                if (upTo(3) != 0) what = s == -1 ? num(2, 3) : num(0, 1);
                same("flow(" + hour + ", " + s + ", " + what + ")", x.flow(hour, s, what), y.flow(hour, s, what));
            }
            case 17 -> {
                int i = num(0, 9);
                same("line(" + hour + ", " + i + ")", x.line(hour, i), y.line(hour, i));
            }
            case 18 -> {
                int node = node(), what = num(0, 2);
                same("draw(" + node + ", " + hour + ", " + what + ")", x.draw(node, hour, what), y.draw(node, hour, what));
            }
            case 19 -> {
                int set = set(y.count(2));
                if (upTo(2) != 0) {
                    for (int s = 0; s < y.count(2); s++) {
                        if (y.told(s, 1) == 1) set &= ~(1 << s);
                    }
                }
                if (afford(24 << Math.min(6, Integer.bitCount(set)))) {
                    int i = num(-1, 5);
                    same("order(" + set + ", " + i + ")", x.order(set, i), y.order(set, i));
                    same("order(" + set + ", -1)", x.order(set, -1), y.order(set, -1));
                }
            }
            case 20 -> {
                int set = set(y.count(1)), what = num(0, 1);
                same("cuts(" + set + ", " + what + ")", x.cuts(set, what), y.cuts(set, what));
            }
            default -> same("wrong()", x.wrong(), y.wrong());
        }
    }

    private void rest(int die) {
        switch (die) {
            case 22 -> {
                int set = set(y.count(1)), v = num(0, 30);
                if (upTo(2) == 0) same("gauge(" + set + ", " + v + ")", x.gauge(set, v), y.gauge(set, v));
            }
            case 23, 24 -> {
                int p = somePipe(), v = upTo(4) == 0 ? -1 : num(1, 12);
                same("guess(" + p + ", " + v + ")", x.guess(p, v), y.guess(p, v));
            }
            case 25 -> {
                int what = num(0, 1);
                same("explain(" + what + ")", x.explain(what), y.explain(what));
            }
            case 26 -> {
                int b = num(1, 3), c = num(1, 99), l = num(0, 30), d = num(0, 20), i = num(-1, 21);
                int v = upTo(3) == 0 ? num(0, 297) : num(0, Math.max(1, Math.min(3, Math.abs(b))) * Math.max(1, Math.min(99, c)));
                same("beds(" + b + ", " + c + ", " + l + ", " + v + ", " + d + ", " + i + ")",
                        x.beds(b, c, l, v, d, i), y.beds(b, c, l, v, d, i));
            }
            case 27 -> {
                int day = num(0, 30), v = num(0, 9999);
                same("river(" + day + ", " + v + ")", x.river(day, v), y.river(day, v));
            }
            case 28 -> {
                int m = num(0, 9999), t = num(0, 9999), d = num(0, 30), what = num(0, 3);
                same("share(" + m + ", " + t + ", " + d + ", " + what + ")", x.share(m, t, d, what), y.share(m, t, d, what));
            }
            case 29 -> same("gains()", x.gains(), y.gains());
            default -> {
                int node = node(), s = upTo(3) == 0 ? num(0, 999) : num(0, 30);
                if (afford(y.count(0))) same("beside(" + node + ", " + s + ")", x.beside(node, s), y.beside(node, s));
            }
        }
    }

    private void look() {
        int what = num(0, 10), s = someStreet(), which = num(0, 8);
        same("count(" + what + ")", x.count(what), y.count(what));
        same("told(" + s + ", " + which + ")", x.told(s, which), y.told(s, which));
        int force = num(0, 8), day = upTo(1) == 0 ? num(0, 14) : num(0, 199);
        same("force(" + force + ", " + day + ")", x.force(force, day), y.force(force, day));
    }
}
