import java.util.Arrays;

/** Constant supply: a town that has water by turns and is to have it always. */
public final class WaterTown {
    public static final int NONE = -1, UNKNOWN = -1001, OUTSIDE = -1002, NOT = -1003, FULL = -1004;

    private static final int NODES = 10;
    private static final int MOST_PIPES = 20;
    private static final int MOST_STREETS = 10;
    private static final int MOST_RULES = 8;
    private static final int MOST_BYTES = 160;
    private static final int MOST_CLAUSES = 8;
    private static final int MOST_KEYS = 4;
    private static final int MOST_GAUGES = 6;
    private static final int MOST_GUESSES = 12;
    private static final int MOST_IN_ORDER = 6;
    private static final int MOST_BEDS = 3;
    private static final int LAST_BED_DAY = 20;
    private static final int RIVER_DAYS = 31;
    private static final int HOURS_OF_DAY = 24;
    private static final int LAST_HOUR = 4800;
    private static final int LAST_DAY = 199;
    private static final int LONGEST_GO = 200;

    private static final int TURN = 0;
    private static final int ALWAYS = 1;

    private static final int KEY_ALWAYS = 0;
    private static final int KEY_TURN = 1;
    private static final int KEY_SMALL = 2;
    private static final int KEY_FAR = 3;

    /** More than pump and spring together can give. */
    private static final int ENOUGH = 20000;

    private final Pipes pipes = new Pipes();
    private final Streets streets = new Streets();
    private final Stand stand = new Stand();
    private final Reader reader = new Reader();
    private final Rules rules = new Rules();
    private final Law law = new Law();
    private final Supply supply = new Supply(pipes, streets);
    private final Trial trial = new Trial(supply, streets, rules);
    private final Gauges gauges = new Gauges();
    private final Beds bedPlan = new Beds();
    private final int[] riverHas = new int[RIVER_DAYS];
    private final int[] gotBefore = new int[MOST_STREETS];
    private int now;
    private int dryHours;
    private int leaked;
    /** Counts what may change a trial, so that one that stands is not made again. */
    private int edition;

    public WaterTown() {
    }

    // ---- the net

    public int pipe(int a, int b, int bore, int leak) {
        if (!isNode(a) || !isNode(b)) {
            return UNKNOWN;
        }
        if (a == b || isOutside(bore, 1, 999) || isOutside(leak, 0, 99)) {
            return OUTSIDE;
        }
        if (pipes.count >= MOST_PIPES) {
            return FULL;
        }
        edition++;
        return pipes.lay(a, b, bore, leak);
    }

    public int shut(int p, boolean is) {
        if (!pipes.has(p)) {
            return UNKNOWN;
        }
        int was = pipes.shut >> p & 1;
        edition++;
        pipes.shut = is ? pipes.shut | 1 << p : pipes.shut & ~(1 << p);
        return was;
    }

    public int leak(int p, int v) {
        if (!pipes.has(p)) {
            return UNKNOWN;
        }
        if (isOutside(v, 0, 99)) {
            return OUTSIDE;
        }
        int was = pipes.loss[p];
        edition++;
        pipes.loss[p] = v;
        return was;
    }

    public int map(int p, int a, int b) {
        if (!pipes.has(p) || !isNode(a) || !isNode(b)) {
            return UNKNOWN;
        }
        if (a == b) {
            return OUTSIDE;
        }
        pipes.mapA[p] = a;
        pipes.mapB[p] = b;
        return 1;
    }

    public int pump(int from, int to, int v) {
        if (isOutside(from, 0, 23) || isOutside(to, from, 23) || isOutside(v, 0, 9999)) {
            return OUTSIDE;
        }
        edition++;
        for (int hour = from; hour <= to; hour++) {
            supply.pumped[hour] = v;
        }
        return 1;
    }

    public int street(int node, int n, int q, int waste, int cistern, int kind) {
        if (!isNode(node)) {
            return UNKNOWN;
        }
        if (isOutside(n, 1, 99) || isOutside(q, 1, 9) || isOutside(waste, 0, 99)
                || isOutside(cistern, 0, 999) || isOutside(kind, TURN, ALWAYS)) {
            return OUTSIDE;
        }
        if (streets.count >= MOST_STREETS) {
            return FULL;
        }
        edition++;
        int s = streets.build(node, n, q, waste, cistern);
        stand.kind[s] = kind;
        return s;
    }

    public int over(int s) {
        if (!streets.has(s)) {
            return UNKNOWN;
        }
        if (stand.kind[s] == ALWAYS) {
            return NOT;
        }
        edition++;
        stand.kind[s] = ALWAYS;
        return 1;
    }

    public int rooms(int s, int v) {
        if (!streets.has(s)) {
            return UNKNOWN;
        }
        if (isOutside(v, 0, 99)) {
            return OUTSIDE;
        }
        int was = streets.rooms[s];
        streets.rooms[s] = v;
        return was;
    }

    public int count(int what) {
        switch (what) {
            case 0:
                return now;
            case 1:
                return pipes.count;
            case 2:
                return streets.count;
            case 3:
                return stand.always(streets.count);
            case 4:
                return rules.count;
            case 5:
                return Integer.bitCount(pipes.shut);
            case 6:
                return reader.length;
            case 7:
                return gauges.count;
            case 8:
                return Integer.bitCount(gauges.guessed);
            case 9:
                return dryHours;
            case 10:
                return leaked;
            default:
                return OUTSIDE;
        }
    }

    public int told(int s, int what) {
        if (!streets.has(s)) {
            return UNKNOWN;
        }
        switch (what) {
            case 0:
                return streets.node[s];
            case 1:
                return stand.kind[s];
            case 2:
                return stand.cistern[s];
            case 3:
                return streets.got[s];
            case 4:
                return streets.dry[s];
            case 5:
                return streets.lacked[s];
            case 6:
                return streets.wasted[s];
            case 7:
                return paysByRooms(s);
            case 8:
                return paysByMeter(s);
            default:
                return OUTSIDE;
        }
    }

    // ---- rules

    public int feed(int n, long bytes) {
        if (isOutside(n, 1, 8)) {
            return OUTSIDE;
        }
        if (reader.length + n > MOST_BYTES) {
            return FULL;
        }
        for (int k = n - 1; k >= 0; k--) {
            reader.put((int) (bytes >>> 8 * k & 255));
        }
        return reader.length;
    }

    public int rule(int day) {
        if (isOutside(day, 0, LAST_DAY)) {
            return OUTSIDE;
        }
        if (rules.count >= MOST_RULES) {
            return FULL;
        }
        int fault = reader.read(rules.count, rules.draft());
        if (fault != 0) {
            return -10 - fault;
        }
        edition++;
        return rules.enact(day);
    }

    public int fault() {
        return reader.faultAt;
    }

    public int force(int what, int day) {
        if (isOutside(what, 0, 8) || isOutside(day, 0, LAST_DAY)) {
            return OUTSIDE;
        }
        rules.hold(day, law);
        switch (what) {
            case 0:
                return law.from;
            case 1:
                return law.to;
            case 2:
                return law.rate;
            case 3:
                return law.meter;
            case 4:
                return law.keyCount;
            default:
                return what - 5 < law.keyCount ? law.key(what - 5) : NONE;
        }
    }

    // ---- hours

    public int go(int n) {
        if (isOutside(n, 0, LONGEST_GO)) {
            return OUTSIDE;
        }
        if (now + n > LAST_HOUR) {
            return NOT;
        }
        edition++;
        int dry = 0;
        for (int k = 0; k < n; k++) {
            if (stepIsDry()) {
                dry++;
            }
        }
        dryHours += dry;
        return dry;
    }

    public int flow(int hour, int s, int what) {
        if (s != NONE && !streets.has(s)) {
            return UNKNOWN;
        }
        int least = s == NONE ? 2 : 0;
        if (isOutside(hour, 0, 23) || isOutside(what, least, least + 1)) {
            return OUTSIDE;
        }
        supplyHour(hour);
        switch (what) {
            case 0:
                return supply.asked[s];
            case 1:
                return supply.got[s];
            case 2:
                return supply.leaked;
            default:
                return supply.leaked + supply.gotByAll();
        }
    }

    public int line(int hour, int i) {
        if (isOutside(hour, 0, 23)) {
            return OUTSIDE;
        }
        rules.hold(today(), law);
        supply.ask(stand, law, hour);
        return i >= 0 && i < supply.waiting ? supply.line[i] : NONE;
    }

    public int draw(int node, int hour, int what) {
        if (!isNode(node)) {
            return UNKNOWN;
        }
        if (isOutside(hour, 0, 23) || isOutside(what, 0, 2)) {
            return OUTSIDE;
        }
        supplyHour(hour);
        if (what == 0) {
            return supply.mains.send(node, ENOUGH);
        }
        System.arraycopy(supply.got, 0, gotBefore, 0, MOST_STREETS);
        supply.begin(hour, 0, 0);
        int drawn = supply.mains.send(node, ENOUGH);
        if (what == 1) {
            return drawn;
        }
        supply.serve();
        return supply.gotLessThan(gotBefore);
    }

    public int order(int set, int i) {
        if (!streets.hasAll(set)) {
            return UNKNOWN;
        }
        if (Integer.bitCount(set) > MOST_IN_ORDER) {
            return OUTSIDE;
        }
        if (stand.hasAlways(set, streets.count)) {
            return NOT;
        }
        if (!trial.isPlanned(set, edition)) {
            trial.choose(set, edition, today());
            trial.weigh(stand);
            trial.follow();
        }
        if (i == NONE) {
            return trial.sum;
        }
        return i >= 0 && i < trial.members ? trial.sequence[i] : NONE;
    }

    public int cuts(int set, int what) {
        if (!pipes.hasAll(set)) {
            return UNKNOWN;
        }
        if (isOutside(what, 0, 1)) {
            return OUTSIDE;
        }
        return streets.apart(pipes.joined(pipes.shut | set, what == 1));
    }

    public int wrong() {
        int set = 0;
        for (int p = 0; p < pipes.count; p++) {
            int truly = streets.apart(pipes.joined(1 << p, false));
            if (truly != streets.apart(pipes.joined(1 << p, true))) {
                set |= 1 << p;
            }
        }
        return set;
    }

    // ---- leaks, beds, river, beside

    public int gauge(int set, int v) {
        if (!pipes.hasAll(set)) {
            return UNKNOWN;
        }
        if (isOutside(v, 0, 9999)) {
            return OUTSIDE;
        }
        if (gauges.count >= MOST_GAUGES) {
            return FULL;
        }
        return gauges.put(set, v);
    }

    public int guess(int p, int v) {
        if (!pipes.has(p)) {
            return UNKNOWN;
        }
        if (v != NONE && isOutside(v, 1, 999)) {
            return OUTSIDE;
        }
        if (v != NONE && Integer.bitCount(gauges.guessed & ~(1 << p)) >= MOST_GUESSES) {
            return FULL;
        }
        gauges.suppose(p, v);
        return 1;
    }

    public int explain(int what) {
        if (isOutside(what, 0, 1)) {
            return OUTSIDE;
        }
        if (gauges.count == 0) {
            return NOT;
        }
        gauges.search();
        return what == 0 ? gauges.fewest : gauges.rivals;
    }

    public int beds(int b, int c, int l, int v, int d, int i) {
        if (isOutside(b, 1, MOST_BEDS) || isOutside(c, 1, 99) || isOutside(l, 0, 30)
                || isOutside(v, 0, 297) || isOutside(d, 0, LAST_BED_DAY)) {
            return OUTSIDE;
        }
        bedPlan.plan(b, c, l, v, d);
        if (i == NONE) {
            return bedPlan.fewest;
        }
        return i >= 0 && i <= d ? bedPlan.cleaned[i] : NONE;
    }

    public int river(int day, int v) {
        if (isOutside(day, 0, RIVER_DAYS - 1) || isOutside(v, 0, 9999)) {
            return OUTSIDE;
        }
        int was = riverHas[day];
        riverHas[day] = v;
        return was;
    }

    public int share(int m, int t, int d, int what) {
        if (isOutside(m, 0, 9999) || isOutside(t, 0, 9999) || isOutside(d, 0, RIVER_DAYS - 1)
                || isOutside(what, 0, 3)) {
            return OUTSIDE;
        }
        int firstShort = NONE;
        int millHas = 0;
        int townHas = 0;
        int left = 0;
        for (int day = 0; day <= d; day++) {
            int mill = Math.min(m, riverHas[day]);
            int town = Math.min(t, riverHas[day] - mill);
            if (town < t && firstShort == NONE) {
                firstShort = day;
            }
            millHas += mill;
            townHas += town;
            left += riverHas[day] - mill - town;
        }
        if (what == 0) {
            return firstShort;
        }
        return what == 1 ? millHas : what == 2 ? townHas : left;
    }

    public int gains() {
        int gaining = 0;
        for (int s = 0; s < streets.count; s++) {
            if (paysByMeter(s) < paysByRooms(s)) {
                gaining++;
            }
        }
        return gaining;
    }

    public int beside(int node, int s) {
        if (!isNode(node)) {
            return UNKNOWN;
        }
        if (isOutside(s, 0, 999)) {
            return OUTSIDE;
        }
        return trial.dryAgain(stand, now, node, s);
    }

    // ---- what the calls share

    private static boolean isNode(int node) {
        return node >= 0 && node < NODES;
    }

    private static boolean isOutside(int v, int least, int most) {
        return v < least || v > most;
    }

    /** Hour 4800 is never stepped, yet NOW may stand there. */
    private int today() {
        return Math.min(now / HOURS_OF_DAY, LAST_DAY);
    }

    private int paysByRooms(int s) {
        rules.hold(today(), law);
        return law.rate * streets.rooms[s] * streets.houses[s];
    }

    private int paysByMeter(int s) {
        rules.hold(today(), law);
        return law.meter * streets.got[s] / 10;
    }

    private void supplyHour(int hour) {
        rules.hold(today(), law);
        supply.ask(stand, law, hour);
        supply.begin(hour, 0, 0);
        supply.serve();
    }

    private boolean stepIsDry() {
        supplyHour(now % HOURS_OF_DAY);
        supply.settle(stand);
        streets.remember(supply);
        leaked += supply.leaked;
        now++;
        return supply.someDry(stand, false);
    }

    /** Pipes as they lie and as the map tells of them. */
    private static final class Pipes {
        int count;
        int shut;
        final int[] a = new int[MOST_PIPES];
        final int[] b = new int[MOST_PIPES];
        final int[] bore = new int[MOST_PIPES];
        final int[] loss = new int[MOST_PIPES];
        final int[] mapA = new int[MOST_PIPES];
        final int[] mapB = new int[MOST_PIPES];
        /** The fewest pipes from node 0, as measured last; NONE: not joined. */
        final int[] steps = new int[NODES];

        boolean has(int p) {
            return p >= 0 && p < count;
        }

        boolean hasAll(int set) {
            return set >>> count == 0;
        }

        boolean isOpen(int p) {
            return (shut >> p & 1) == 0;
        }

        int lay(int from, int to, int width, int lost) {
            int p = count;
            a[p] = from;
            b[p] = to;
            bore[p] = width;
            loss[p] = lost;
            mapA[p] = from;
            mapB[p] = to;
            count++;
            return p;
        }

        void measure(int closed, boolean byMap) {
            int[] from = byMap ? mapA : a;
            int[] to = byMap ? mapB : b;
            Arrays.fill(steps, NONE);
            steps[0] = 0;
            boolean grew = true;
            for (int k = 0; k < NODES && grew; k++) {
                grew = false;
                for (int p = 0; p < count; p++) {
                    if ((closed >> p & 1) == 0) {
                        grew |= stepOver(from[p], to[p], k) || stepOver(to[p], from[p], k);
                    }
                }
            }
        }

        private boolean stepOver(int near, int far, int k) {
            if (steps[near] != k || steps[far] != NONE) {
                return false;
            }
            steps[far] = k + 1;
            return true;
        }

        int joined(int closed, boolean byMap) {
            measure(closed, byMap);
            int nodes = 0;
            for (int node = 0; node < NODES; node++) {
                if (steps[node] != NONE) {
                    nodes |= 1 << node;
                }
            }
            return nodes;
        }
    }

    /** Streets as they are built, and what has come to each in all hours. */
    private static final class Streets {
        int count;
        final int[] node = new int[MOST_STREETS];
        final int[] houses = new int[MOST_STREETS];
        final int[] need = new int[MOST_STREETS];
        final int[] waste = new int[MOST_STREETS];
        final int[] size = new int[MOST_STREETS];
        final int[] rooms = new int[MOST_STREETS];
        final int[] got = new int[MOST_STREETS];
        final int[] dry = new int[MOST_STREETS];
        final int[] lacked = new int[MOST_STREETS];
        final int[] wasted = new int[MOST_STREETS];

        boolean has(int s) {
            return s >= 0 && s < count;
        }

        boolean hasAll(int set) {
            return set >>> count == 0;
        }

        int build(int at, int n, int q, int lost, int cistern) {
            int s = count;
            node[s] = at;
            houses[s] = n;
            need[s] = n * q;
            waste[s] = lost;
            size[s] = cistern;
            count++;
            return s;
        }

        void remember(Supply hour) {
            for (int s = 0; s < count; s++) {
                got[s] += hour.got[s];
                wasted[s] += hour.wasted[s];
                lacked[s] += hour.lack[s];
                if (hour.lack[s] > 0) {
                    dry[s]++;
                }
            }
        }

        int apart(int joinedNodes) {
            int set = 0;
            for (int s = 0; s < count; s++) {
                if ((joinedNodes >> node[s] & 1) == 0) {
                    set |= 1 << s;
                }
            }
            return set;
        }
    }

    /** Of each street its kind and what its cistern has: in truth, or in a trial. */
    private static final class Stand {
        final int[] kind = new int[MOST_STREETS];
        final int[] cistern = new int[MOST_STREETS];

        void startAs(Stand other) {
            System.arraycopy(other.kind, 0, kind, 0, MOST_STREETS);
            Arrays.fill(cistern, 0);
        }

        void takeCisterns(Stand other) {
            System.arraycopy(other.cistern, 0, cistern, 0, MOST_STREETS);
        }

        boolean hasCisterns(Stand other) {
            for (int s = 0; s < MOST_STREETS; s++) {
                if (cistern[s] != other.cistern[s]) {
                    return false;
                }
            }
            return true;
        }

        int always(int streetCount) {
            int found = 0;
            for (int s = 0; s < streetCount; s++) {
                if (kind[s] == ALWAYS) {
                    found++;
                }
            }
            return found;
        }

        boolean hasAlways(int set, int streetCount) {
            for (int s = 0; s < streetCount; s++) {
                if ((set >> s & 1) == 1 && kind[s] == ALWAYS) {
                    return true;
                }
            }
            return false;
        }
    }

    /** What a rule says, or what holds on a day; where nothing is said, NONE and no keys. */
    private static final class Law {
        int day = NONE;
        /** How many rules there were when this was made up for a day. */
        int edition;
        int from;
        int to;
        int rate;
        int meter;
        int keyCount;
        /** Two bits a key, the first one lowest. */
        private int keys;
        int strikes;

        void sayNothing() {
            from = NONE;
            to = NONE;
            rate = NONE;
            meter = NONE;
            forgetKeys();
            strikes = 0;
        }

        void sayWhatHoldsAtFirst() {
            from = 6;
            to = 8;
            rate = 2;
            meter = 1;
            forgetKeys();
            addKey(KEY_ALWAYS);
            addKey(KEY_TURN);
        }

        void follow(Law rule) {
            if (rule.from != NONE) {
                from = rule.from;
                to = rule.to;
            }
            if (rule.rate != NONE) {
                rate = rule.rate;
            }
            if (rule.meter != NONE) {
                meter = rule.meter;
            }
            if (rule.keyCount > 0) {
                keyCount = rule.keyCount;
                keys = rule.keys;
            }
        }

        void forgetKeys() {
            keyCount = 0;
            keys = 0;
        }

        void addKey(int key) {
            keys |= key << 2 * keyCount;
            keyCount++;
        }

        int key(int k) {
            return keys >> 2 * k & 3;
        }

        boolean hasKey(int key) {
            for (int k = 0; k < keyCount; k++) {
                if (key(k) == key) {
                    return true;
                }
            }
            return false;
        }

        boolean isTurnHour(int hour) {
            return hour >= from && hour <= to;
        }
    }

    /** The rules, and what they make of a day. */
    private static final class Rules {
        int count;
        private final Law[] laws = new Law[MOST_RULES];
        /** Rules by days, then numbers. */
        private final int[] row = new int[MOST_RULES];

        Rules() {
            for (int r = 0; r < MOST_RULES; r++) {
                laws[r] = new Law();
            }
        }

        /** Where the next rule may be written; it counts when it is enacted. */
        Law draft() {
            return laws[Math.min(count, MOST_RULES - 1)];
        }

        int enact(int day) {
            draft().day = day;
            int place = count;
            while (place > 0 && laws[row[place - 1]].day > day) {
                row[place] = row[place - 1];
                place--;
            }
            row[place] = count;
            count++;
            return count - 1;
        }

        void hold(int day, Law law) {
            if (law.day == day && law.edition == count) {
                return;
            }
            law.day = day;
            law.edition = count;
            law.sayWhatHoldsAtFirst();
            int counting = countingOn(day);
            for (int k = 0; k < count; k++) {
                if ((counting >> row[k] & 1) == 1) {
                    law.follow(laws[row[k]]);
                }
            }
        }

        private int countingOn(int day) {
            int counting = 0;
            int struck = 0;
            for (int r = count - 1; r >= 0; r--) {
                if (laws[r].day <= day && (struck >> r & 1) == 0) {
                    counting |= 1 << r;
                    struck |= laws[r].strikes;
                }
            }
            return counting;
        }

        boolean someBeginOn(int day) {
            for (int r = 0; r < count; r++) {
                if (laws[r].day == day) {
                    return true;
                }
            }
            return false;
        }
    }

    /** The text as it is fed; reads it into a law, up to its first fault. */
    private static final class Reader {
        private static final int END = 0;
        private static final int WORD = 1;
        private static final int NUMBER = 2;
        private static final int COMMA = 3;
        private static final int SEMICOLON = 4;
        private static final int OTHER = 5;

        private static final int MISPLACED = 1;
        private static final int BAD_NUMBER = 2;
        private static final int NO_SUCH_RULE = 3;
        private static final int KEY_AGAIN = 4;
        private static final int TOO_MANY_CLAUSES = 5;

        int length;
        int faultAt = NONE;
        private final int[] text = new int[MOST_BYTES];
        private int fault;
        private int at;
        private int kind;
        private int start;
        private int value;

        void put(int c) {
            if (length < MOST_BYTES) {
                text[length] = c;
                length++;
            }
        }

        /** The text's fault, 0 if it has none; the text is empty then. */
        int read(int rulesThere, Law law) {
            at = 0;
            fault = 0;
            faultAt = NONE;
            law.sayNothing();
            boolean reading = true;
            for (int clauses = 0; clauses <= MOST_CLAUSES && reading; clauses++) {
                next();
                reading = kind != END && clause(clauses, rulesThere, law);
            }
            length = 0;
            return fault;
        }

        private boolean clause(int clausesBefore, int rulesThere, Law law) {
            boolean first = says("first");
            boolean hours = says("hours");
            boolean rate = says("rate");
            boolean meter = says("meter");
            if (!first && !hours && !rate && !meter && !says("strike")) {
                return fail(MISPLACED);
            }
            if (clausesBefore >= MOST_CLAUSES) {
                return fail(TOO_MANY_CLAUSES);
            }
            if (first) {
                return keys(law);
            }
            if (hours) {
                return turnHours(law);
            }
            if (rate || meter) {
                return price(law, meter);
            }
            return strike(rulesThere, law);
        }

        private boolean keys(Law law) {
            law.forgetKeys();
            // A fifth key is one again, so the loop ends by a fault or a semicolon.
            for (int k = 0; k <= MOST_KEYS; k++) {
                next();
                int key = keyNumber();
                if (key == NONE) {
                    return fail(MISPLACED);
                }
                if (law.hasKey(key)) {
                    return fail(KEY_AGAIN);
                }
                law.addKey(key);
                next();
                if (kind == SEMICOLON) {
                    return true;
                }
                if (kind != COMMA) {
                    return fail(MISPLACED);
                }
            }
            return false;
        }

        private int keyNumber() {
            if (says("always")) {
                return KEY_ALWAYS;
            }
            if (says("turn")) {
                return KEY_TURN;
            }
            if (says("small")) {
                return KEY_SMALL;
            }
            return says("far") ? KEY_FAR : NONE;
        }

        private boolean turnHours(Law law) {
            if (!number(0, 23)) {
                return false;
            }
            law.from = value;
            next();
            if (!says("to")) {
                return fail(MISPLACED);
            }
            if (!number(law.from, 23)) {
                return false;
            }
            law.to = value;
            return semicolon();
        }

        private boolean price(Law law, boolean meter) {
            if (!number(0, 99)) {
                return false;
            }
            if (meter) {
                law.meter = value;
            } else {
                law.rate = value;
            }
            return semicolon();
        }

        private boolean strike(int rulesThere, Law law) {
            if (!number(0, 999)) {
                return false;
            }
            if (value >= rulesThere) {
                return fail(NO_SUCH_RULE);
            }
            law.strikes |= 1 << value;
            return semicolon();
        }

        private boolean number(int least, int most) {
            next();
            if (kind != NUMBER) {
                return fail(MISPLACED);
            }
            if (at - start > 3 || isOutside(value, least, most)) {
                return fail(BAD_NUMBER);
            }
            return true;
        }

        private boolean semicolon() {
            next();
            return kind == SEMICOLON || fail(MISPLACED);
        }

        private boolean fail(int number) {
            fault = number;
            faultAt = start;
            return false;
        }

        private boolean says(String word) {
            if (kind != WORD || at - start != word.length()) {
                return false;
            }
            for (int k = 0; k < word.length(); k++) {
                if (text[start + k] != word.charAt(k)) {
                    return false;
                }
            }
            return true;
        }

        private void next() {
            while (at < length && text[at] == ' ') {
                at++;
            }
            start = at;
            kind = at < length ? kindOf(text[at]) : END;
            if (kind == COMMA || kind == SEMICOLON || kind == OTHER) {
                at++;
                return;
            }
            value = 0;
            while (at < length && kindOf(text[at]) == kind) {
                if (kind == NUMBER) {
                    // Kept low: of four figures or more only their count matters.
                    value = Math.min(9999, value * 10 + text[at] - '0');
                }
                at++;
            }
        }

        private static int kindOf(int c) {
            if (c >= 'a' && c <= 'z') {
                return WORD;
            }
            if (c >= '0' && c <= '9') {
                return NUMBER;
            }
            return c == ',' ? COMMA : c == ';' ? SEMICOLON : OTHER;
        }
    }

    /** How much more can go from each node to each, in an hour; the source stands behind pump and spring. */
    private static final class Mains {
        private static final int ENDS = NODES + 1;
        private static final int SOURCE = NODES;

        private final int[] room = new int[ENDS * ENDS];
        /** Bit v of u: there is room from u to v. */
        private final int[] open = new int[ENDS];
        private final int[] before = new int[ENDS];
        private final int[] queue = new int[ENDS];

        void begin(Pipes pipes, int pumped, int node, int spring) {
            Arrays.fill(room, 0);
            Arrays.fill(open, 0);
            for (int p = 0; p < pipes.count; p++) {
                if (pipes.isOpen(p)) {
                    widen(pipes.a[p], pipes.b[p], pipes.bore[p]);
                    widen(pipes.b[p], pipes.a[p], pipes.bore[p]);
                }
            }
            widen(SOURCE, 0, pumped);
            widen(SOURCE, node, spring);
        }

        /** Sends the most that can go to a node; what was sent before stays, by other ways if need be. */
        int send(int node, int most) {
            int sent = 0;
            for (int k = 0; k < ENOUGH && sent < most; k++) {
                if (!findWay(node)) {
                    break;
                }
                int amount = Math.min(most - sent, narrowest(node));
                push(node, amount);
                sent += amount;
            }
            return sent;
        }

        private boolean findWay(int node) {
            int seen = 1 << SOURCE;
            int last = 1;
            queue[0] = SOURCE;
            for (int k = 0; k < last && k < ENDS; k++) {
                int u = queue[k];
                int fresh = open[u] & ~seen;
                seen |= fresh;
                for (int v = 0; v < NODES && fresh >> v != 0; v++) {
                    if ((fresh >> v & 1) == 1) {
                        before[v] = u;
                        queue[last] = v;
                        last++;
                    }
                }
                if ((seen >> node & 1) == 1) {
                    return true;
                }
            }
            return false;
        }

        private int narrowest(int node) {
            int least = ENOUGH;
            int v = node;
            for (int k = 0; k < ENDS && v != SOURCE; k++) {
                least = Math.min(least, room[before[v] * ENDS + v]);
                v = before[v];
            }
            return least;
        }

        private void push(int node, int amount) {
            int v = node;
            for (int k = 0; k < ENDS && v != SOURCE; k++) {
                widen(before[v], v, -amount);
                widen(v, before[v], amount);
                v = before[v];
            }
        }

        private void widen(int u, int v, int more) {
            int now = room[u * ENDS + v] + more;
            room[u * ENDS + v] = now;
            open[u] = now > 0 ? open[u] | 1 << v : open[u] & ~(1 << v);
        }
    }

    /** One hour: who asks, in which line, what each gets and lacks. */
    private static final class Supply {
        private final Pipes pipes;
        private final Streets streets;
        final Mains mains = new Mains();
        final int[] pumped = new int[HOURS_OF_DAY];
        final int[] asked = new int[MOST_STREETS];
        final int[] got = new int[MOST_STREETS];
        final int[] lack = new int[MOST_STREETS];
        final int[] wasted = new int[MOST_STREETS];
        final int[] line = new int[MOST_STREETS];
        int waiting;
        int leaked;

        Supply(Pipes pipes, Streets streets) {
            this.pipes = pipes;
            this.streets = streets;
            Arrays.fill(pumped, 100);
        }

        void ask(Stand stand, Law law, int hour) {
            if (law.hasKey(KEY_FAR)) {
                pipes.measure(pipes.shut, false);
            }
            boolean turnIsOn = law.isTurnHour(hour);
            waiting = 0;
            for (int s = 0; s < streets.count; s++) {
                asked[s] = 0;
                got[s] = 0;
                if (stand.kind[s] == ALWAYS || turnIsOn) {
                    asked[s] = streets.need[s] + streets.waste[s];
                    if (stand.kind[s] == TURN) {
                        asked[s] += streets.size[s] - stand.cistern[s];
                    }
                    queueUp(s, stand, law);
                }
            }
        }

        private void queueUp(int s, Stand stand, Law law) {
            int place = waiting;
            while (place > 0 && isAhead(s, line[place - 1], stand, law)) {
                line[place] = line[place - 1];
                place--;
            }
            line[place] = s;
            waiting++;
        }

        /** Of like ones the lesser number is ahead: those come to the line first. */
        private boolean isAhead(int s, int other, Stand stand, Law law) {
            for (int k = 0; k < law.keyCount; k++) {
                int key = law.key(k);
                int difference = rank(s, key, stand) - rank(other, key, stand);
                if (difference != 0) {
                    return difference < 0;
                }
            }
            return false;
        }

        private int rank(int s, int key, Stand stand) {
            switch (key) {
                case KEY_ALWAYS:
                    return stand.kind[s] == ALWAYS ? 0 : 1;
                case KEY_TURN:
                    return stand.kind[s] == TURN ? 0 : 1;
                case KEY_SMALL:
                    return asked[s];
                default:
                    int steps = pipes.steps[streets.node[s]];
                    return steps == NONE ? 1 : -steps;
            }
        }

        /** The mains as they are in an hour, with leaks and nobody else served. */
        void begin(int hour, int node, int spring) {
            mains.begin(pipes, pumped[hour], node, spring);
            leaked = 0;
            for (int p = 0; p < pipes.count; p++) {
                if (pipes.isOpen(p)) {
                    leaked += mains.send(pipes.a[p], pipes.loss[p]);
                }
            }
        }

        void serve() {
            for (int k = 0; k < waiting; k++) {
                int s = line[k];
                got[s] = mains.send(streets.node[s], asked[s]);
            }
        }

        /** What each did with what it got; a street without water on got nothing. */
        void settle(Stand stand) {
            for (int s = 0; s < streets.count; s++) {
                wasted[s] = Math.min(streets.waste[s], got[s]);
                int left = got[s] - wasted[s];
                int used = Math.min(streets.need[s], left);
                if (stand.kind[s] == TURN) {
                    stand.cistern[s] += left - used;
                }
                int missing = streets.need[s] - used;
                int taken = Math.min(missing, stand.cistern[s]);
                stand.cistern[s] -= taken;
                lack[s] = missing - taken;
            }
        }

        boolean someDry(Stand stand, boolean alwaysAlone) {
            for (int s = 0; s < streets.count; s++) {
                if (lack[s] > 0 && (!alwaysAlone || stand.kind[s] == ALWAYS)) {
                    return true;
                }
            }
            return false;
        }

        int gotByAll() {
            int sum = 0;
            for (int s = 0; s < streets.count; s++) {
                sum += got[s];
            }
            return sum;
        }

        int gotLessThan(int[] gotBefore) {
            int set = 0;
            for (int s = 0; s < streets.count; s++) {
                if (got[s] < gotBefore[s]) {
                    set |= 1 << s;
                }
            }
            return set;
        }
    }

    /** Hours that are tried and leave nothing behind: the order of changing over, a spring beside. */
    private static final class Trial {
        private static final int SETS = 1 << MOST_IN_ORDER;

        private final Supply supply;
        private final Streets streets;
        private final Rules rules;
        private final Stand stand = new Stand();
        private final Stand morning = new Stand();
        private final Law law = new Law();
        private final int[] member = new int[MOST_IN_ORDER];
        private final int[] cost = new int[SETS];
        private final int[] rest = new int[SETS];
        private int plannedSet = NONE;
        private int plannedEdition = NONE;
        final int[] sequence = new int[MOST_IN_ORDER];
        int members;
        int sum;

        Trial(Supply supply, Streets streets, Rules rules) {
            this.supply = supply;
            this.streets = streets;
            this.rules = rules;
        }

        int dryAgain(Stand truth, int hours, int node, int spring) {
            stand.startAs(truth);
            int dry = 0;
            int dryToday = 0;
            for (int day = 0; day <= LAST_DAY && day * HOURS_OF_DAY < hours; day++) {
                int length = Math.min(HOURS_OF_DAY, hours - day * HOURS_OF_DAY);
                // A day that begins as the one before and has its rules goes as that one went.
                boolean asYesterday = day > 0 && length == HOURS_OF_DAY
                        && !rules.someBeginOn(day) && stand.hasCisterns(morning);
                if (!asYesterday) {
                    morning.takeCisterns(stand);
                    rules.hold(day, law);
                    dryToday = dryOfDay(length, false, node, spring);
                }
                dry += dryToday;
            }
            return dry;
        }

        private int dryOfDay(int hours, boolean alwaysAlone, int node, int spring) {
            int dry = 0;
            for (int hour = 0; hour < hours; hour++) {
                supply.ask(stand, law, hour);
                supply.begin(hour, node, spring);
                supply.serve();
                supply.settle(stand);
                if (supply.someDry(stand, alwaysAlone)) {
                    dry++;
                }
            }
            return dry;
        }

        boolean isPlanned(int set, int edition) {
            return set == plannedSet && edition == plannedEdition;
        }

        void choose(int set, int edition, int day) {
            plannedSet = set;
            plannedEdition = edition;
            members = 0;
            for (int s = 0; s < streets.count && members < MOST_IN_ORDER; s++) {
                if ((set >> s & 1) == 1) {
                    member[members] = s;
                    members++;
                }
            }
            rules.hold(day, law);
        }

        /** Of each set that was changed over: what its day costs, and the least that all days behind it do. */
        void weigh(Stand truth) {
            int all = (1 << members) - 1;
            for (int done = all; done >= 0; done--) {
                rest[done] = done == all ? 0 : leastBehind(done);
                if (done != 0) {
                    stand.startAs(truth);
                    changeOver(done);
                    cost[done] = dryOfDay(HOURS_OF_DAY, true, 0, 0);
                }
            }
            sum = rest[0];
        }

        private void changeOver(int done) {
            for (int k = 0; k < members; k++) {
                if ((done >> k & 1) == 1) {
                    stand.kind[member[k]] = ALWAYS;
                }
            }
        }

        private int leastBehind(int done) {
            int least = NONE;
            for (int k = 0; k < members; k++) {
                int then = done | 1 << k;
                if (then != done && (least == NONE || cost[then] + rest[then] < least)) {
                    least = cost[then] + rest[then];
                }
            }
            return least;
        }

        void follow() {
            int done = 0;
            for (int i = 0; i < members; i++) {
                int chosen = firstBest(done);
                sequence[i] = member[chosen];
                done |= 1 << chosen;
            }
        }

        private int firstBest(int done) {
            for (int k = 0; k < members; k++) {
                int then = done | 1 << k;
                if (then != done && cost[then] + rest[then] == rest[done]) {
                    return k;
                }
            }
            return 0;
        }
    }

    /** Gauges, guesses, and the sets of pipes that explain them. */
    private static final class Gauges {
        int count;
        int guessed;
        int fewest;
        int rivals;
        private final int[] set = new int[MOST_GAUGES];
        private final int[] tells = new int[MOST_GAUGES];
        private final int[] guess = new int[MOST_PIPES];
        private final int[] suspect = new int[MOST_GUESSES];
        private int suspects;

        int put(int pipes, int v) {
            set[count] = pipes;
            tells[count] = v;
            count++;
            return count;
        }

        void suppose(int p, int v) {
            if (v == NONE) {
                guessed &= ~(1 << p);
            } else {
                guessed |= 1 << p;
                guess[p] = v;
            }
        }

        void search() {
            listSuspects();
            fewest = NONE;
            rivals = 0;
            int fewestPipes = 0;
            for (int choice = 0; choice < 1 << suspects; choice++) {
                if (explains(choice)) {
                    rivals++;
                    int pipes = Integer.bitCount(choice);
                    // Choices come in the order of their sets' numbers, so the first of like ones stays.
                    if (fewest == NONE || pipes < fewestPipes) {
                        fewestPipes = pipes;
                        fewest = asSet(choice);
                    }
                }
            }
        }

        private void listSuspects() {
            suspects = 0;
            for (int p = 0; p < MOST_PIPES && suspects < MOST_GUESSES; p++) {
                if ((guessed >> p & 1) == 1) {
                    suspect[suspects] = p;
                    suspects++;
                }
            }
        }

        private boolean explains(int choice) {
            for (int g = 0; g < count; g++) {
                int loss = 0;
                for (int k = 0; k < suspects; k++) {
                    if ((choice >> k & set[g] >> suspect[k] & 1) == 1) {
                        loss += guess[suspect[k]];
                    }
                }
                if (loss != tells[g]) {
                    return false;
                }
            }
            return true;
        }

        private int asSet(int choice) {
            int pipes = 0;
            for (int k = 0; k < suspects; k++) {
                if ((choice >> k & 1) == 1) {
                    pipes |= 1 << suspect[k];
                }
            }
            return pipes;
        }
    }

    /** The fewest cleanings of beds. Ages are days since a bed was cleaned; all that give nothing are one age. */
    private static final class Beds {
        private static final int IMPOSSIBLE = 100;
        /** Ages of day t are 0 to t at most, and beds are alike: three of t + 1, with repeats, over all days. */
        private static final int MOST_STATES = 10626;

        final int[] cleaned = new int[LAST_BED_DAY + 1];
        int fewest;
        private int bedCount;
        private int clean;
        private int less;
        private int need;
        private int lastDay;
        private int oldest;
        private final byte[] least = new byte[MOST_STATES];

        void plan(int b, int c, int l, int v, int d) {
            if (b == bedCount && c == clean && l == less && v == need && d == lastDay) {
                return;
            }
            bedCount = b;
            clean = c;
            less = l;
            need = v;
            lastDay = d;
            oldest = l == 0 ? 0 : Math.min(LAST_BED_DAY, (c + l - 1) / l);
            for (int day = d; day >= 0; day--) {
                weighDay(day);
            }
            follow();
        }

        private int oldestOn(int day) {
            return Math.min(day, oldest);
        }

        private void weighDay(int day) {
            int most = oldestOn(day);
            for (int x = 0; x <= most; x++) {
                for (int y = 0; y <= (bedCount > 1 ? x : 0); y++) {
                    for (int z = 0; z <= (bedCount > 2 ? y : 0); z++) {
                        int best = IMPOSSIBLE;
                        for (int bed = NONE; bed < bedCount; bed++) {
                            best = Math.min(best, costOf(day, x, y, z, bed));
                        }
                        least[place(day, x, y, z)] = (byte) best;
                    }
                }
            }
        }

        /** The same for ages in any order. */
        private static int place(int day, int x, int y, int z) {
            int high = Math.max(x, Math.max(y, z));
            int low = Math.min(x, Math.min(y, z));
            int middle = x + y + z - high - low;
            int daysBefore = day * (day + 1) * (day + 2) * (day + 3) / 24;
            return daysBefore + high * (high + 1) * (high + 2) / 6 + middle * (middle + 1) / 2 + low;
        }

        /** Cleanings from a day on, if a bed (NONE: none) is cleaned on it. */
        private int costOf(int day, int x, int y, int z, int bed) {
            int all = gives(0, x, bed) + gives(1, y, bed) + gives(2, z, bed);
            if (all < need) {
                return IMPOSSIBLE;
            }
            int cleanings = bed == NONE ? 0 : 1;
            if (day == lastDay) {
                return cleanings;
            }
            int then = place(day + 1, older(0, x, bed, day), older(1, y, bed, day), older(2, z, bed, day));
            return Math.min(IMPOSSIBLE, cleanings + least[then]);
        }

        private int gives(int which, int age, int bed) {
            return which >= bedCount || which == bed ? 0 : Math.max(0, clean - less * age);
        }

        private int older(int which, int age, int bed, int day) {
            return which >= bedCount || which == bed ? 0 : Math.min(age + 1, oldestOn(day + 1));
        }

        private void follow() {
            Arrays.fill(cleaned, NONE);
            fewest = least[place(0, 0, 0, 0)];
            if (fewest >= IMPOSSIBLE) {
                fewest = NONE;
                return;
            }
            int x = 0;
            int y = 0;
            int z = 0;
            for (int day = 0; day <= lastDay; day++) {
                int bed = firstBest(day, x, y, z);
                cleaned[day] = bed;
                x = older(0, x, bed, day);
                y = older(1, y, bed, day);
                z = older(2, z, bed, day);
            }
        }

        private int firstBest(int day, int x, int y, int z) {
            for (int bed = NONE; bed < bedCount; bed++) {
                if (costOf(day, x, y, z, bed) == least[place(day, x, y, z)]) {
                    return bed;
                }
            }
            return NONE;
        }
    }
}
