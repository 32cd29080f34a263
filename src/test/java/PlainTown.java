import java.util.ArrayList;
import java.util.Arrays;
import java.util.Comparator;
import java.util.HashMap;
import java.util.List;
import java.util.Map;

/**
 * The document once more, by other and slower ways, to compare WaterTown with: flows by the least cut
 * over all sets of nodes, orders by all permutations, beds by the texts of whole plans.
 */
final class PlainTown {
    static final int NONE = -1, UNKNOWN = -1001, OUTSIDE = -1002, NOT = -1003, FULL = -1004;

    static final class Pipe {
        int a, b, bore, leak, mapA, mapB, guess = NONE;
        boolean shut;
    }

    static final class Street implements Cloneable {
        int number, node, n, q, waste, size, kind, rooms, has, got, dry, lacked, wasted;
        int asked, gets, lacks, wastes;
        boolean on;

        Street fresh() {
            try {
                Street s = (Street) clone();
                s.has = 0;
                return s;
            } catch (CloneNotSupportedException e) {
                throw new IllegalStateException(e);
            }
        }
    }

    static final class Rule {
        int number, day;
        List<int[]> clauses = new ArrayList<>();
    }

    static final class Held {
        int from = 6, to = 8, rate = 2, meter = 1;
        List<Integer> keys = List.of(0, 1);
    }

    private final List<Pipe> pipes = new ArrayList<>();
    private final List<Street> streets = new ArrayList<>();
    private final List<Rule> rules = new ArrayList<>();
    private final List<int[]> gauges = new ArrayList<>();
    private final int[] pump = new int[24];
    private final int[] river = new int[31];
    private final StringBuilder text = new StringBuilder();
    private int now, faultAt = NONE, dryHours, leaked, lastLeaks, lastSum;
    private List<Integer> lastOrder;

    PlainTown() {
        Arrays.fill(pump, 100);
    }

    private static boolean in(int v, int low, int high) {
        return low <= v && v <= high;
    }

    private boolean isPipe(int p) {
        return in(p, 0, pipes.size() - 1);
    }

    private boolean isStreet(int s) {
        return in(s, 0, streets.size() - 1);
    }

    private static boolean isNode(int node) {
        return in(node, 0, 9);
    }

    private static boolean within(int set, int size) {
        return set >= 0 && (long) set < 1L << size;
    }

    int pipe(int a, int b, int bore, int leak) {
        if (!isNode(a) || !isNode(b)) return UNKNOWN;
        if (a == b || !in(bore, 1, 999) || !in(leak, 0, 99)) return OUTSIDE;
        if (pipes.size() == 20) return FULL;
        Pipe p = new Pipe();
        p.a = p.mapA = a;
        p.b = p.mapB = b;
        p.bore = bore;
        p.leak = leak;
        pipes.add(p);
        return pipes.size() - 1;
    }

    int shut(int p, boolean is) {
        if (!isPipe(p)) return UNKNOWN;
        boolean was = pipes.get(p).shut;
        pipes.get(p).shut = is;
        return was ? 1 : 0;
    }

    int leak(int p, int v) {
        if (!isPipe(p)) return UNKNOWN;
        if (!in(v, 0, 99)) return OUTSIDE;
        int was = pipes.get(p).leak;
        pipes.get(p).leak = v;
        return was;
    }

    int map(int p, int a, int b) {
        if (!isPipe(p) || !isNode(a) || !isNode(b)) return UNKNOWN;
        if (a == b) return OUTSIDE;
        pipes.get(p).mapA = a;
        pipes.get(p).mapB = b;
        return 1;
    }

    int pump(int from, int to, int v) {
        if (!in(from, 0, 23) || !in(to, 0, 23) || to < from || !in(v, 0, 9999)) return OUTSIDE;
        Arrays.fill(pump, from, to + 1, v);
        return 1;
    }

    int street(int node, int n, int q, int waste, int cistern, int kind) {
        if (!isNode(node)) return UNKNOWN;
        if (!in(n, 1, 99) || !in(q, 1, 9) || !in(waste, 0, 99) || !in(cistern, 0, 999) || !in(kind, 0, 1)) return OUTSIDE;
        if (streets.size() == 10) return FULL;
        Street s = new Street();
        s.number = streets.size();
        s.node = node;
        s.n = n;
        s.q = q;
        s.waste = waste;
        s.size = cistern;
        s.kind = kind;
        streets.add(s);
        return s.number;
    }

    int over(int s) {
        if (!isStreet(s)) return UNKNOWN;
        if (streets.get(s).kind == 1) return NOT;
        streets.get(s).kind = 1;
        return 1;
    }

    int rooms(int s, int v) {
        if (!isStreet(s)) return UNKNOWN;
        if (!in(v, 0, 99)) return OUTSIDE;
        int was = streets.get(s).rooms;
        streets.get(s).rooms = v;
        return was;
    }

    int count(int what) {
        return switch (what) {
            case 0 -> now;
            case 1 -> pipes.size();
            case 2 -> streets.size();
            case 3 -> (int) streets.stream().filter(s -> s.kind == 1).count();
            case 4 -> rules.size();
            case 5 -> (int) pipes.stream().filter(p -> p.shut).count();
            case 6 -> text.length();
            case 7 -> gauges.size();
            case 8 -> (int) pipes.stream().filter(p -> p.guess != NONE).count();
            case 9 -> dryHours;
            case 10 -> leaked;
            default -> OUTSIDE;
        };
    }

    private int day() {
        return Math.min(199, now / 24);
    }

    private int byRooms(Street s) {
        return held(day()).rate * s.rooms * s.n;
    }

    private int byMeter(Street s) {
        return held(day()).meter * s.got / 10;
    }

    int told(int s, int what) {
        if (!isStreet(s)) return UNKNOWN;
        Street t = streets.get(s);
        return switch (what) {
            case 0 -> t.node;
            case 1 -> t.kind;
            case 2 -> t.has;
            case 3 -> t.got;
            case 4 -> t.dry;
            case 5 -> t.lacked;
            case 6 -> t.wasted;
            case 7 -> byRooms(t);
            case 8 -> byMeter(t);
            default -> OUTSIDE;
        };
    }

    int feed(int n, long bytes) {
        if (!in(n, 1, 8)) return OUTSIDE;
        if (text.length() + n > 160) return FULL;
        for (int k = 0; k < n; k++) {
            text.append((char) (bytes >> 8 * (n - 1 - k) & 0xff));
        }
        return text.length();
    }

    int rule(int day) {
        if (!in(day, 0, 199)) return OUTSIDE;
        if (rules.size() == 8) return FULL;
        Rule rule = new Rule();
        rule.number = rules.size();
        rule.day = day;
        int[] fault = parse(text.toString(), rule);
        text.setLength(0);
        faultAt = fault == null ? NONE : fault[1];
        if (fault != null) return -10 - fault[0];
        rules.add(rule);
        return rule.number;
    }

    /** Tokens as {start, end}; the last is the end of the text. */
    private static List<int[]> tokens(String t) {
        List<int[]> list = new ArrayList<>();
        int k = 0;
        while (k < t.length()) {
            int end = k + 1;
            String mine = t.substring(k, end);
            if (mine.matches("[a-z]")) {
                while (end < t.length() && t.substring(end, end + 1).matches("[a-z]")) end++;
            } else if (mine.matches("[0-9]")) {
                while (end < t.length() && t.substring(end, end + 1).matches("[0-9]")) end++;
            }
            if (!mine.equals(" ")) list.add(new int[] {k, end});
            k = end;
        }
        list.add(new int[] {t.length(), t.length()});
        return list;
    }

    private static final List<String> KEYS = List.of("always", "turn", "small", "far");
    private static final List<String> CLAUSES = List.of("first", "hours", "rate", "meter", "strike");

    /** A table of states: what may stand there, and what comes behind it. Null, or {fault, byte}. */
    private int[] parse(String t, Rule rule) {
        String state = "clause";
        int[] clause = null;
        int clauses = 0;
        for (int[] token : tokens(t)) {
            String word = t.substring(token[0], token[1]);
            boolean number = word.matches("[0-9]+");
            int value = number && word.length() <= 3 ? Integer.parseInt(word) : 100000;
            int at = token[0];
            switch (state) {
                case "clause" -> {
                    if (word.isEmpty()) return null;
                    if (!CLAUSES.contains(word)) return new int[] {1, at};
                    if (++clauses > 8) return new int[] {5, at};
                    clause = new int[] {CLAUSES.indexOf(word), NONE, NONE, NONE, NONE};
                    rule.clauses.add(clause);
                    state = word.equals("first") ? "key" : word;
                }
                case "key" -> {
                    int key = KEYS.indexOf(word);
                    if (key < 0) return new int[] {1, at};
                    int k = 1;
                    while (k < 5 && clause[k] != NONE) {
                        if (clause[k++] == key) return new int[] {4, at};
                    }
                    clause[k] = key;
                    state = "comma";
                }
                case "comma" -> {
                    if (!word.equals(",") && !word.equals(";")) return new int[] {1, at};
                    state = word.equals(",") ? "key" : "clause";
                }
                case "hours", "hours2", "rate", "meter", "strike" -> {
                    if (!number) return new int[] {1, at};
                    int low = state.equals("hours2") ? clause[1] : 0;
                    int high = state.startsWith("hours") ? 23 : state.equals("strike") ? 999 : 99;
                    if (!in(value, low, high)) return new int[] {2, at};
                    if (state.equals("strike") && value >= rules.size()) return new int[] {3, at};
                    clause[state.equals("hours2") ? 2 : 1] = value;
                    state = state.equals("hours") ? "to" : "semicolon";
                }
                case "to" -> {
                    if (!word.equals("to")) return new int[] {1, at};
                    state = "hours2";
                }
                default -> {
                    if (!word.equals(";")) return new int[] {1, at};
                    state = "clause";
                }
            }
        }
        throw new IllegalStateException("no end");
    }

    int fault() {
        return faultAt;
    }

    private boolean counts(Rule rule, int day) {
        if (rule.day > day) return false;
        for (Rule other : rules) {
            if (other.number > rule.number && counts(other, day)) {
                for (int[] clause : other.clauses) {
                    if (clause[0] == 4 && clause[1] == rule.number) return false;
                }
            }
        }
        return true;
    }

    private Held held(int day) {
        Held held = new Held();
        List<Rule> row = new ArrayList<>(rules);
        row.removeIf(rule -> !counts(rule, day));
        row.sort(Comparator.comparingInt((Rule rule) -> rule.day).thenComparingInt(rule -> rule.number));
        for (Rule rule : row) {
            for (int[] clause : rule.clauses) {
                if (clause[0] == 0) {
                    held.keys = new ArrayList<>();
                    for (int k = 1; k < 5 && clause[k] != NONE; k++) held.keys.add(clause[k]);
                } else if (clause[0] == 1) {
                    held.from = clause[1];
                    held.to = clause[2];
                } else if (clause[0] == 2) {
                    held.rate = clause[1];
                } else if (clause[0] == 3) {
                    held.meter = clause[1];
                }
            }
        }
        return held;
    }

    int force(int what, int day) {
        if (!in(what, 0, 8) || !in(day, 0, 199)) return OUTSIDE;
        Held held = held(day);
        return switch (what) {
            case 0 -> held.from;
            case 1 -> held.to;
            case 2 -> held.rate;
            case 3 -> held.meter;
            case 4 -> held.keys.size();
            default -> what - 5 < held.keys.size() ? held.keys.get(what - 5) : NONE;
        };
    }

    /** The pipes on the fewest from node 0 to each; 99: not joined. */
    private int[] away(boolean byMap, List<Boolean> shut) {
        int[] away = new int[10];
        Arrays.fill(away, 99);
        away[0] = 0;
        for (int round = 0; round < 10; round++) {
            for (int p = 0; p < pipes.size(); p++) {
                if (shut.get(p)) continue;
                int a = byMap ? pipes.get(p).mapA : pipes.get(p).a;
                int b = byMap ? pipes.get(p).mapB : pipes.get(p).b;
                away[a] = Math.min(away[a], away[b] + 1);
                away[b] = Math.min(away[b], away[a] + 1);
            }
        }
        for (int node = 0; node < 10; node++) {
            if (away[node] > 9) away[node] = 99;
        }
        return away;
    }

    private List<Boolean> shutNow() {
        List<Boolean> shut = new ArrayList<>();
        for (Pipe p : pipes) shut.add(p.shut);
        return shut;
    }

    /** Whom water comes to, one behind the other, by the least cuts. */
    private final class Mains {
        private final int[] cut = new int[1 << 10];
        private final int[] wanted = new int[10];
        private int flown;

        Mains(int pumped, int node, int spring) {
            for (int set = 0; set < cut.length; set++) {
                if ((set & 1) == 0) cut[set] += pumped;
                if ((set >> node & 1) == 0) cut[set] += spring;
                for (Pipe p : pipes) {
                    if (!p.shut && (set >> p.a & 1) != (set >> p.b & 1)) cut[set] += p.bore;
                }
            }
        }

        int more(int node, int asked) {
            wanted[node] += asked;
            int least = Integer.MAX_VALUE;
            for (int set = 0; set < cut.length; set++) {
                int sum = cut[set];
                for (int k = 0; k < 10; k++) {
                    if ((set >> k & 1) == 1) sum += wanted[k];
                }
                least = Math.min(least, sum);
            }
            int gets = least - flown;
            wanted[node] += gets - asked;
            flown = least;
            return gets;
        }
    }

    private List<Street> asking(List<Street> town, Held held, int hour) {
        List<Street> line = new ArrayList<>();
        for (Street s : town) {
            s.on = s.kind == 1 || in(hour, held.from, held.to);
            s.asked = !s.on ? 0 : s.kind == 1 ? s.n * s.q + s.waste : s.n * s.q + s.waste + s.size - s.has;
            s.gets = 0;
            if (s.on) line.add(s);
        }
        int[] away = away(false, shutNow());
        Comparator<Street> by = Comparator.comparingInt(s -> 0);
        for (int key : held.keys) {
            Comparator<Street> next = switch (key) {
                case 0 -> Comparator.comparing(s -> s.kind != 1);
                case 1 -> Comparator.comparing(s -> s.kind != 0);
                case 2 -> Comparator.comparingInt(s -> s.asked);
                default -> Comparator.comparingInt(s -> away[s.node] == 99 ? 99 : -away[s.node]);
            };
            by = by.thenComparing(next);
        }
        line.sort(by.thenComparingInt(s -> s.number));
        return line;
    }

    private Mains leaking(int hour, int node, int spring) {
        Mains mains = new Mains(pump[hour], node, spring);
        lastLeaks = 0;
        for (Pipe p : pipes) {
            if (!p.shut) lastLeaks += mains.more(p.a, p.leak);
        }
        return mains;
    }

    private Mains serve(List<Street> town, Held held, int hour, int node, int spring) {
        List<Street> line = asking(town, held, hour);
        Mains mains = leaking(hour, node, spring);
        for (Street s : line) s.gets = mains.more(s.node, s.asked);
        return mains;
    }

    /** Whether some street (of a kind; NONE: of any) is dry. */
    private boolean live(List<Street> town, Held held, int hour, int node, int spring, int kind) {
        serve(town, held, hour, node, spring);
        boolean dry = false;
        for (Street s : town) {
            int left = s.gets;
            s.wastes = Math.min(left, s.waste);
            left -= s.wastes;
            int want = s.n * s.q;
            if (left >= want) {
                left -= want;
                want = 0;
                if (s.kind == 0) s.has = Math.min(s.size, s.has + left);
            } else {
                want -= left;
            }
            int out = Math.min(want, s.has);
            s.has -= out;
            s.lacks = want - out;
            dry |= s.lacks > 0 && (kind == NONE || s.kind == kind);
        }
        return dry;
    }

    int go(int n) {
        if (!in(n, 0, 200)) return OUTSIDE;
        if (now + n > 4800) return NOT;
        int dry = 0;
        for (int k = 0; k < n; k++) {
            if (live(streets, held(now / 24), now % 24, 0, 0, NONE)) dry++;
            leaked += lastLeaks;
            for (Street s : streets) {
                s.got += s.gets;
                s.wasted += s.wastes;
                s.lacked += s.lacks;
                if (s.lacks > 0) s.dry++;
            }
            now++;
        }
        dryHours += dry;
        return dry;
    }

    int flow(int hour, int s, int what) {
        if (s != NONE && !isStreet(s)) return UNKNOWN;
        if (!in(hour, 0, 23) || !in(what, s == NONE ? 2 : 0, s == NONE ? 3 : 1)) return OUTSIDE;
        Mains mains = serve(streets, held(day()), hour, 0, 0);
        return switch (what) {
            case 0 -> streets.get(s).asked;
            case 1 -> streets.get(s).gets;
            case 2 -> lastLeaks;
            default -> mains.flown;
        };
    }

    int line(int hour, int i) {
        if (!in(hour, 0, 23)) return OUTSIDE;
        List<Street> line = asking(streets, held(day()), hour);
        return in(i, 0, line.size() - 1) ? line.get(i).number : NONE;
    }

    int draw(int node, int hour, int what) {
        if (!isNode(node)) return UNKNOWN;
        if (!in(hour, 0, 23) || !in(what, 0, 2)) return OUTSIDE;
        Mains mains = serve(streets, held(day()), hour, 0, 0);
        if (what == 0) return mains.more(node, 1000000);
        Map<Integer, Integer> got = new HashMap<>();
        for (Street s : streets) got.put(s.number, s.gets);
        List<Street> line = asking(streets, held(day()), hour);
        mains = leaking(hour, 0, 0);
        int drawn = mains.more(node, 1000000);
        int less = 0;
        for (Street s : line) {
            if (mains.more(s.node, s.asked) < got.get(s.number)) less |= 1 << s.number;
        }
        return what == 1 ? drawn : less;
    }

    private int costOf(int changed, Map<Integer, Integer> costs) {
        return costs.computeIfAbsent(changed, set -> {
            List<Street> town = new ArrayList<>();
            for (Street s : streets) {
                Street t = s.fresh();
                if ((set >> s.number & 1) == 1) t.kind = 1;
                town.add(t);
            }
            int dry = 0;
            for (int hour = 0; hour < 24; hour++) {
                if (live(town, held(day()), hour, 0, 0, 1)) dry++;
            }
            return dry;
        });
    }

    /** All permutations, the first by streets first. */
    private void permute(int left, int changed, int sum, List<Integer> row, Map<Integer, Integer> costs) {
        if (left == 0) {
            if (lastOrder == null || sum < lastSum) {
                lastOrder = new ArrayList<>(row);
                lastSum = sum;
            }
            return;
        }
        for (int s = 0; s < 10; s++) {
            if ((left >> s & 1) == 1) {
                row.add(s);
                int then = changed | 1 << s;
                permute(left & ~(1 << s), then, sum + costOf(then, costs), row, costs);
                row.remove(row.size() - 1);
            }
        }
    }

    int order(int set, int i) {
        if (!within(set, streets.size())) return UNKNOWN;
        if (Integer.bitCount(set) > 6) return OUTSIDE;
        for (Street s : streets) {
            if ((set >> s.number & 1) == 1 && s.kind == 1) return NOT;
        }
        lastOrder = null;
        permute(set, 0, 0, new ArrayList<>(), new HashMap<>());
        if (i == NONE) return lastSum;
        return in(i, 0, lastOrder.size() - 1) ? lastOrder.get(i) : NONE;
    }

    private int cutOff(boolean byMap, List<Boolean> shut) {
        int[] away = away(byMap, shut);
        int set = 0;
        for (Street s : streets) {
            if (away[s.node] == 99) set += 1 << s.number;
        }
        return set;
    }

    int cuts(int set, int what) {
        if (!within(set, pipes.size())) return UNKNOWN;
        if (!in(what, 0, 1)) return OUTSIDE;
        List<Boolean> shut = shutNow();
        for (int p = 0; p < pipes.size(); p++) {
            if ((set >> p & 1) == 1) shut.set(p, true);
        }
        return cutOff(what == 1, shut);
    }

    int wrong() {
        int set = 0;
        for (int p = 0; p < pipes.size(); p++) {
            List<Boolean> shut = new ArrayList<>();
            for (int k = 0; k < pipes.size(); k++) shut.add(k == p);
            if (cutOff(false, shut) != cutOff(true, shut)) set += 1 << p;
        }
        return set;
    }

    int gauge(int set, int v) {
        if (!within(set, pipes.size())) return UNKNOWN;
        if (!in(v, 0, 9999)) return OUTSIDE;
        if (gauges.size() == 6) return FULL;
        gauges.add(new int[] {set, v});
        return gauges.size();
    }

    int guess(int p, int v) {
        if (!isPipe(p)) return UNKNOWN;
        if (v != NONE && !in(v, 1, 999)) return OUTSIDE;
        if (v != NONE && pipes.get(p).guess == NONE && count(8) == 12) return FULL;
        pipes.get(p).guess = v;
        return 1;
    }

    int explain(int what) {
        if (!in(what, 0, 1)) return OUTSIDE;
        if (gauges.isEmpty()) return NOT;
        List<Integer> found = new ArrayList<>();
        explaining(0, 0, found);
        if (what == 1) return found.size();
        return found.stream().min(Comparator.comparingInt((Integer set) -> Integer.bitCount(set))
                .thenComparingInt(set -> set)).orElse(NONE);
    }

    private void explaining(int p, int set, List<Integer> found) {
        if (p < pipes.size()) {
            explaining(p + 1, set, found);
            if (pipes.get(p).guess != NONE) explaining(p + 1, set | 1 << p, found);
            return;
        }
        for (int[] gauge : gauges) {
            int sum = 0;
            for (int k = 0; k < pipes.size(); k++) {
                if ((set >> k & 1) == 1 && (gauge[0] >> k & 1) == 1) sum += pipes.get(k).guess;
            }
            if (sum != gauge[1]) return;
        }
        found.add(set);
    }

    int beds(int b, int c, int l, int v, int d, int i) {
        if (!in(b, 1, 3) || !in(c, 1, 99) || !in(l, 0, 30) || !in(v, 0, 297) || !in(d, 0, 20)) return OUTSIDE;
        return ofPlan(bedPlan(b, c, l, v, d), i);
    }

    /** The best plan as a text; null: there is none. */
    String bedPlan(int b, int c, int l, int v, int d) {
        return plan(new int[] {c, l, v, d}, 0, new int[b], new HashMap<>());
    }

    static int ofPlan(String plan, int i) {
        if (plan == null) return NONE;
        if (i == NONE) return cleanings(plan);
        return in(i, 0, plan.length() - 1) ? plan.charAt(i) - 'a' - 1 : NONE;
    }

    private static int cleanings(String plan) {
        return plan.replace("a", "").length();
    }

    /** The best plan from a day on as a text: a none, b bed 0, c bed 1, d bed 2; null: there is none. */
    private String plan(int[] how, int day, int[] ages, Map<String, String> known) {
        if (day > how[3]) return "";
        String state = day + Arrays.toString(ages);
        if (known.containsKey(state)) return known.get(state);
        String best = null;
        for (int bed = -1; bed < ages.length; bed++) {
            int gives = 0;
            int[] then = new int[ages.length];
            for (int k = 0; k < ages.length; k++) {
                if (k != bed) gives += Math.max(0, how[0] - how[1] * ages[k]);
                then[k] = k == bed ? 0 : ages[k] + 1;
            }
            if (gives < how[2]) continue;
            String rest = plan(how, day + 1, then, known);
            if (rest == null) continue;
            String mine = (char) ('a' + 1 + bed) + rest;
            if (best == null || cleanings(mine) < cleanings(best)
                    || cleanings(mine) == cleanings(best) && mine.compareTo(best) < 0) {
                best = mine;
            }
        }
        known.put(state, best);
        return best;
    }

    int river(int day, int v) {
        if (!in(day, 0, 30) || !in(v, 0, 9999)) return OUTSIDE;
        int was = river[day];
        river[day] = v;
        return was;
    }

    int share(int m, int t, int d, int what) {
        if (!in(m, 0, 9999) || !in(t, 0, 9999) || !in(d, 0, 30) || !in(what, 0, 3)) return OUTSIDE;
        int[] sums = {NONE, 0, 0, 0};
        for (int day = d; day >= 0; day--) {
            int town = Math.max(0, Math.min(t, river[day] - m));
            if (town < t) sums[0] = day;
            sums[1] += Math.min(m, river[day]);
            sums[2] += town;
            sums[3] += Math.max(0, river[day] - m - t);
        }
        return sums[what];
    }

    int gains() {
        return (int) streets.stream().filter(s -> byMeter(s) < byRooms(s)).count();
    }

    int beside(int node, int s) {
        if (!isNode(node)) return UNKNOWN;
        if (!in(s, 0, 999)) return OUTSIDE;
        List<Street> town = new ArrayList<>();
        for (Street t : streets) town.add(t.fresh());
        int dry = 0;
        for (int hour = 0; hour < now; hour++) {
            if (live(town, held(hour / 24), hour % 24, node, s, NONE)) dry++;
        }
        return dry;
    }
}
