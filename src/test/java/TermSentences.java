import java.util.ArrayList;
import java.util.List;
import java.util.function.Supplier;
import java.util.function.ToIntFunction;

/** The head of the terms, and their first part: numbers, sets, refusals; nodes, pipes, streets, hours. */
final class TermSentences {
    private static final int NONE = Page.NONE, UNKNOWN = Page.UNKNOWN, OUTSIDE = Page.OUTSIDE, NOT = Page.NOT, FULL = Page.FULL;
    private static final int LOW = Page.LOW, HIGH = Page.HIGH;

    private record Refused(String call, int due, ToIntFunction<WaterTown> made) {
    }

    private final Page page;

    TermSentences(Page page) {
        this.page = page;
    }

    void all() {
        page.in("use");
        calls();
        page.in("terms");
        page.saysNothing("Words in capitals are told where they come first.");
        numbers();
        sets();
        refusals();
        refusedChangesNothing();
        page.in("1");
        nodes();
        pump();
        pipes();
        leaks();
        valvesAndMap();
        streets();
        kinds();
        hours();
    }

    private void calls() {
        page.says("An object is used for at most 512 calls after it has been made; what later calls answer is free.");
        WaterTown x = new WaterTown();
        x.street(0, 1, 1, 0, 0, 1);
        for (int k = 2; k <= 511; k++) {
            x.go(k % 20);
        }
        page.is("the 512th call", x.told(0, 3), x.count(0));
        int ended = 0;
        for (int k = 0; k < 2000; k++) {
            x.pipe(k % 10, (k + 1) % 10, 5, 1);
            x.street(k % 10, 1, 1, 1, 1, 0);
            x.feed(8, -1L);
            x.rule(0);
            x.gauge(1, 1);
            x.guess(k % 20, 1);
            x.go(200);
            ended++;
        }
        page.is("later calls end", ended, 2000);
    }

    private void numbers() {
        page.says("All numbers are whole; / cuts towards 0.");
        WaterTown x = new WaterTown();
        x.street(0, 1, 1, 0, 0, 1);
        int[] tenths = {9, 0, 1, 1, 9, 1, 1, 2};
        for (int k = 0; k < tenths.length; k += 2) {
            x.go(tenths[k]);
            page.is("meter 1 times what was GOT, / 10", x.told(0, 8), tenths[k + 1]);
        }
        page.says("What has a number has it from 0 on, as it comes.");
        WaterTown y = new WaterTown();
        for (int k = 0; k < 3; k++) {
            page.is("pipe", y.pipe(0, 1, 1, 0), k);
            page.is("street", y.street(0, 1, 1, 0, 0, 0), k);
            page.is("rule", Due.rule(y, "rate 1;", 0), k);
        }
        page.is("a refused one takes no number", y.pipe(0, 0, 1, 0), OUTSIDE);
        page.is("the next", y.pipe(0, 1, 1, 0), 3);
        page.is("a faulty one takes no number", Due.rule(y, "rate", 0), -11);
        page.is("the next", Due.rule(y, "rate 1;", 0), 3);
        page.says("NONE is -1.");
        page.is("NONE", WaterTown.NONE, -1);
        page.is("no fault", new WaterTown().fault(), WaterTown.NONE);
    }

    private void sets() {
        page.says("A SET is a whole number, bit k for k.");
        WaterTown x = new WaterTown();
        for (int k = 0; k < 10; k++) {
            x.pipe(0, k == 0 ? 1 : k, 9, 0);
        }
        for (int k = 1; k < 10; k++) {
            x.street(k, 1, 1, 0, 0, 1);
        }
        for (int k = 2; k < 10; k++) {
            page.is("pipe " + k + " alone cuts off street " + (k - 1), x.cuts(1 << k, 0), 1 << k - 1);
            page.is("street " + (k - 1) + " alone gets less", x.draw(k, 0, 2), 1 << k - 1);
        }
        page.is("all", x.cuts(1023, 0), 511);
        page.is("the empty set", x.cuts(0, 0), 0);
        page.is("bit 31 is a pipe that there is not", x.cuts(LOW, 0), UNKNOWN);
        page.is("bit 31 is a street that there is not", x.order(LOW, 0), UNKNOWN);
        page.is("bit 31 in a gauge", x.gauge(LOW, 0), UNKNOWN);
        page.is("the first bit too many", x.cuts(1024, 0), UNKNOWN);
        page.is("the first bit too many", x.gauge(1024, 0), UNKNOWN);
        page.is("the first bit too many", x.order(512, 0), UNKNOWN);
    }

    /** Every row is full, all hours are stepped; streets 0 to 8 are TURN, 9 is ALWAYS. 120 calls. */
    static WaterTown full() {
        WaterTown x = new WaterTown();
        for (int p = 0; p < 20; p++) {
            x.pipe(p % 10, (p + 1 + p / 10) % 10, 5 + p, p % 4);
        }
        for (int s = 0; s < 10; s++) {
            x.street(s, 1 + s, 2, s % 3, 4 * s, s / 9);
        }
        for (int r = 0; r < 8; r++) {
            Due.rule(x, "rate " + r + ";", r);
        }
        for (int g = 1; g <= 6; g++) {
            x.gauge(7, 6);
        }
        for (int p = 0; p < 12; p++) {
            x.guess(p, 1 + p);
        }
        for (int k = 0; k < 24; k++) {
            x.go(200);
        }
        Due.feed(x, "meter 9;".repeat(2) + " ".repeat(144));
        x.river(30, 77);
        x.shut(3, true);
        x.rooms(2, 5);
        return x;
    }

    /** A town with room left in every row. */
    static WaterTown small() {
        WaterTown x = new WaterTown();
        x.pipe(0, 1, 9, 1);
        x.pipe(1, 2, 8, 0);
        x.pipe(2, 0, 7, 2);
        x.street(1, 3, 2, 1, 20, 0);
        x.street(2, 4, 1, 0, 9, 1);
        x.pump(0, 23, 14);
        Due.rule(x, "first small; hours 1 to 4;", 0);
        Due.rule(x, "rate 7", 0);
        Due.feed(x, "rate 8");
        x.guess(1, 3);
        x.river(0, 9);
        x.rooms(1, 2);
        x.map(1, 0, 2);
        x.go(30);
        return x;
    }

    private static List<Refused> ofFull() {
        List<Refused> all = new ArrayList<>();
        all.add(new Refused("pipe, U O F", UNKNOWN, x -> x.pipe(10, 0, 0, 0)));
        all.add(new Refused("pipe, U F", UNKNOWN, x -> x.pipe(0, 10, 1, 0)));
        all.add(new Refused("pipe, O F", OUTSIDE, x -> x.pipe(0, 1, 1000, 0)));
        all.add(new Refused("pipe, O F: one node twice", OUTSIDE, x -> x.pipe(4, 4, 1, 0)));
        all.add(new Refused("pipe, F", FULL, x -> x.pipe(0, 1, 1, 0)));
        all.add(new Refused("street, U O F", UNKNOWN, x -> x.street(10, 0, 1, 0, 0, 0)));
        all.add(new Refused("street, U F", UNKNOWN, x -> x.street(-1, 1, 1, 0, 0, 0)));
        all.add(new Refused("street, O F", OUTSIDE, x -> x.street(0, 1, 1, 0, 0, 2)));
        all.add(new Refused("street, F", FULL, x -> x.street(0, 1, 1, 0, 0, 1)));
        all.add(new Refused("over, U", UNKNOWN, x -> x.over(10)));
        all.add(new Refused("over, N", NOT, x -> x.over(9)));
        all.add(new Refused("feed, O F", OUTSIDE, x -> x.feed(9, 0)));
        all.add(new Refused("feed, F", FULL, x -> x.feed(1, ' ')));
        all.add(new Refused("rule, O F", OUTSIDE, x -> x.rule(200)));
        all.add(new Refused("rule, F", FULL, x -> x.rule(0)));
        all.add(new Refused("go, O N", OUTSIDE, x -> x.go(201)));
        all.add(new Refused("go, N", NOT, x -> x.go(1)));
        all.add(new Refused("order, U O N", UNKNOWN, x -> x.order(2047, 0)));
        all.add(new Refused("order, U N", UNKNOWN, x -> x.order(1024 | 512, 0)));
        all.add(new Refused("order, O N", OUTSIDE, x -> x.order(1023, 0)));
        all.add(new Refused("order, N", NOT, x -> x.order(512, 0)));
        all.add(new Refused("gauge, U O F", UNKNOWN, x -> x.gauge(1 << 20, 10000)));
        all.add(new Refused("gauge, U F", UNKNOWN, x -> x.gauge(1 << 20, 0)));
        all.add(new Refused("gauge, O F", OUTSIDE, x -> x.gauge(1, 10000)));
        all.add(new Refused("gauge, F", FULL, x -> x.gauge(1, 0)));
        all.add(new Refused("guess, U O F", UNKNOWN, x -> x.guess(20, 0)));
        all.add(new Refused("guess, U F", UNKNOWN, x -> x.guess(20, 1)));
        all.add(new Refused("guess, O F", OUTSIDE, x -> x.guess(19, 1000)));
        all.add(new Refused("guess, F", FULL, x -> x.guess(12, 1)));
        return all;
    }

    private static List<Refused> ofSmall() {
        List<Refused> all = new ArrayList<>();
        all.add(new Refused("pipe, U O", UNKNOWN, x -> x.pipe(0, 10, 0, 0)));
        all.add(new Refused("pipe, O", OUTSIDE, x -> x.pipe(0, 1, 1, 100)));
        all.add(new Refused("shut, U", UNKNOWN, x -> x.shut(3, true)));
        all.add(new Refused("leak, U O", UNKNOWN, x -> x.leak(3, 100)));
        all.add(new Refused("leak, O", OUTSIDE, x -> x.leak(0, 100)));
        all.add(new Refused("map, U O: pipe", UNKNOWN, x -> x.map(3, 5, 5)));
        all.add(new Refused("map, U O: node", UNKNOWN, x -> x.map(0, 10, 10)));
        all.add(new Refused("map, U: first node", UNKNOWN, x -> x.map(0, 10, 3)));
        all.add(new Refused("map, U: second node", UNKNOWN, x -> x.map(0, 3, -1)));
        all.add(new Refused("map, O", OUTSIDE, x -> x.map(0, 5, 5)));
        all.add(new Refused("pump, O: from", OUTSIDE, x -> x.pump(-1, 23, 0)));
        all.add(new Refused("pump, O: to", OUTSIDE, x -> x.pump(0, 24, 0)));
        all.add(new Refused("pump, O: to below", OUTSIDE, x -> x.pump(7, 6, 0)));
        all.add(new Refused("pump, O: v", OUTSIDE, x -> x.pump(0, 23, 10000)));
        all.add(new Refused("street, U O", UNKNOWN, x -> x.street(10, 1, 10, 0, 0, 0)));
        all.add(new Refused("street, O", OUTSIDE, x -> x.street(0, 1, 10, 0, 0, 0)));
        all.add(new Refused("over, U", UNKNOWN, x -> x.over(2)));
        all.add(new Refused("over, N", NOT, x -> x.over(1)));
        all.add(new Refused("rooms, U O", UNKNOWN, x -> x.rooms(2, 100)));
        all.add(new Refused("rooms, O", OUTSIDE, x -> x.rooms(1, 100)));
        all.add(new Refused("count, O", OUTSIDE, x -> x.count(11)));
        all.add(new Refused("told, U O", UNKNOWN, x -> x.told(2, 9)));
        all.add(new Refused("told, O", OUTSIDE, x -> x.told(1, 9)));
        all.add(new Refused("feed, O: none", OUTSIDE, x -> x.feed(0, ' ')));
        all.add(new Refused("feed, O: nine", OUTSIDE, x -> x.feed(9, ' ')));
        all.add(new Refused("rule, O", OUTSIDE, x -> x.rule(-1)));
        all.add(new Refused("force, O: what", OUTSIDE, x -> x.force(9, 0)));
        all.add(new Refused("force, O: day", OUTSIDE, x -> x.force(0, 200)));
        all.add(new Refused("go, O", OUTSIDE, x -> x.go(-1)));
        all.add(new Refused("flow, U O", UNKNOWN, x -> x.flow(24, 2, 4)));
        all.add(new Refused("flow, O: hour", OUTSIDE, x -> x.flow(24, 0, 0)));
        all.add(new Refused("line, O", OUTSIDE, x -> x.line(24, 0)));
        all.add(new Refused("draw, U O", UNKNOWN, x -> x.draw(10, 24, 3)));
        all.add(new Refused("draw, O", OUTSIDE, x -> x.draw(0, 0, 3)));
        all.add(new Refused("order, U", UNKNOWN, x -> x.order(4, 0)));
        all.add(new Refused("order, N", NOT, x -> x.order(3, 0)));
        all.add(new Refused("cuts, U O", UNKNOWN, x -> x.cuts(8, 2)));
        all.add(new Refused("cuts, O", OUTSIDE, x -> x.cuts(1, 2)));
        all.add(new Refused("gauge, U O", UNKNOWN, x -> x.gauge(8, -1)));
        all.add(new Refused("gauge, O", OUTSIDE, x -> x.gauge(1, -1)));
        all.add(new Refused("guess, U O", UNKNOWN, x -> x.guess(3, 0)));
        all.add(new Refused("guess, O", OUTSIDE, x -> x.guess(1, 0)));
        all.add(new Refused("explain, O N", OUTSIDE, x -> x.explain(2)));
        all.add(new Refused("explain, N", NOT, x -> x.explain(0)));
        all.add(new Refused("beds, O", OUTSIDE, x -> x.beds(4, 1, 0, 0, 0, 0)));
        all.add(new Refused("river, O: day", OUTSIDE, x -> x.river(31, 5)));
        all.add(new Refused("river, O: v", OUTSIDE, x -> x.river(0, 10000)));
        all.add(new Refused("share, O", OUTSIDE, x -> x.share(0, 0, 31, 0)));
        all.add(new Refused("beside, U O", UNKNOWN, x -> x.beside(10, 1000)));
        all.add(new Refused("beside, O", OUTSIDE, x -> x.beside(0, 1000)));
        return all;
    }

    private void refusals() {
        page.says("REFUSALS, of several the first in this order: UNKNOWN (a NODE, PIPE, STREET, RULE, BED that there is not), "
                + "OUTSIDE (another number out of its bounds), NOT (not now, as told), FULL.");
        page.is("UNKNOWN", WaterTown.UNKNOWN, -1001);
        page.is("OUTSIDE", WaterTown.OUTSIDE, -1002);
        page.is("NOT", WaterTown.NOT, -1003);
        page.is("FULL", WaterTown.FULL, -1004);
        WaterTown full = full();
        for (Refused one : ofFull()) {
            page.is(one.call, one.made.applyAsInt(full), one.due);
        }
        WaterTown small = small();
        for (Refused one : ofSmall()) {
            page.is(one.call, one.made.applyAsInt(small), one.due);
        }
    }

    private void refusedChangesNothing() {
        page.says("What is refused changes nothing.");
        compare("full: ", TermSentences::full, ofFull());
        compare("small: ", TermSentences::small, ofSmall());
    }

    private void compare(String town, Supplier<WaterTown> made, List<Refused> refused) {
        List<Integer> want = look(made.get());
        for (Refused one : refused) {
            WaterTown x = made.get();
            one.made.applyAsInt(x);
            page.is(town + "all is as it was behind " + one.call, look(x).equals(want) ? 1 : 0, 1);
        }
    }

    /** All that a town tells of itself; what only a change tells comes last. 295 calls at most. */
    static List<Integer> look(WaterTown x) {
        List<Integer> seen = new ArrayList<>();
        for (int what = 0; what <= 10; what++) {
            seen.add(x.count(what));
        }
        seen.add(x.fault());
        seen.add(x.gains());
        seen.add(x.wrong());
        int streets = x.count(2);
        int pipes = x.count(1);
        for (int s = 0; s < streets; s++) {
            for (int what = 0; what <= 8; what++) {
                seen.add(x.told(s, what));
            }
            seen.add(x.flow(2, s, 0));
            seen.add(x.flow(7, s, 1));
            seen.add(x.line(7, s));
        }
        for (int what = 0; what <= 8; what++) {
            seen.add(x.force(what, 0));
            seen.add(x.force(what, 199));
        }
        for (int hour = 0; hour < 24; hour++) {
            seen.add(x.draw(0, hour, 1));
        }
        for (int what = 0; what <= 3; what++) {
            seen.add(x.explain(what & 1));
            seen.add(x.share(3, 4, 30, what));
        }
        seen.add(x.order(1, NONE));
        seen.add(x.beside(1, 2));
        lookAtPipes(x, pipes, seen);
        for (int s = 0; s < streets; s++) {
            seen.add(x.rooms(s, 0));
        }
        for (int day = 0; day <= 30; day++) {
            seen.add(x.river(day, 0));
        }
        seen.add(x.feed(1, ';'));
        seen.add(x.rule(0));
        seen.add(x.fault());
        seen.add(x.force(2, 0));
        seen.add(x.go(3));
        seen.add(x.told(0, 3));
        return seen;
    }

    private static void lookAtPipes(WaterTown x, int pipes, List<Integer> seen) {
        for (int p = 0; p < pipes; p++) {
            seen.add(x.cuts(1 << p, p % 2));
            seen.add(x.shut(p, false));
            seen.add(x.leak(p, 0));
        }
    }

    private void nodes() {
        page.says("NODES 0 to 9;");
        WaterTown x = new WaterTown();
        for (int node = 0; node <= 9; node++) {
            page.is("street at " + node, x.street(node, 1, 1, 0, 0, 0), node);
            page.is("its node", x.told(node, 0), node);
            page.is("pipe from " + node, x.pipe(node, (node + 1) % 10, 1, 0), node);
            page.is("map from " + node, x.map(node, node, (node + 3) % 10), 1);
            page.is("beside at " + node, x.beside(node, 0), 0);
        }
        for (int node = 0; node <= 9; node++) {
            page.is("draw at " + node + " of a ring", x.draw(node, 0, 0), node == 0 ? 100 : 2);
        }
        for (int node : new int[] {-1, 10, LOW, HIGH}) {
            page.is("street at " + node, x.street(node, 1, 1, 0, 0, 0), UNKNOWN);
            page.is("pipe from " + node, x.pipe(node, 1, 1, 0), UNKNOWN);
            page.is("pipe to " + node, x.pipe(1, node, 1, 0), UNKNOWN);
            page.is("map from " + node, x.map(0, node, 1), UNKNOWN);
            page.is("map to " + node, x.map(0, 1, node), UNKNOWN);
            page.is("draw at " + node, x.draw(node, 0, 0), UNKNOWN);
            page.is("beside at " + node, x.beside(node, 0), UNKNOWN);
        }
    }

    private void pump() {
        page.says("at NODE 0 stands THE PUMP: it gives up to so much in each hour of a DAY (0 .. 23; 0 .. 9999; 100 at first).");
        WaterTown x = new WaterTown();
        for (int hour = 0; hour <= 23; hour++) {
            page.is("at first, hour " + hour, x.draw(0, hour, 0), 100);
        }
        page.is("nothing elsewhere", x.draw(1, 0, 0), 0);
        page.is("9999", x.pump(0, 0, 9999), 1);
        page.is("0", x.pump(23, 23, 0), 1);
        page.is("hour 0", x.draw(0, 0, 0), 9999);
        page.is("hour 1", x.draw(0, 1, 0), 100);
        page.is("hour 22", x.draw(0, 22, 0), 100);
        page.is("hour 23", x.draw(0, 23, 0), 0);
        page.is("below 0", x.pump(0, 0, -1), OUTSIDE);
        page.is("above 9999", x.pump(0, 0, 10000), OUTSIDE);
        page.is("hour -1", x.pump(-1, 0, 5), OUTSIDE);
        page.is("hour 24", x.pump(23, 24, 5), OUTSIDE);
        x.street(0, 99, 1, 0, 0, 1);
        x.street(0, 2, 1, 0, 0, 1);
        page.is("as much as is asked", x.flow(1, 0, 1), 99);
        page.is("up to 100 in all", x.flow(1, 1, 1), 1);
        page.is("in each hour anew: 101 in hour 0, 100 in hour 1", x.go(2), 1);
        page.is("GOT by the second", x.told(1, 3), 3);
    }

    private void pipes() {
        page.says("PIPES (20 at most) join two unlike NODES;");
        WaterTown x = new WaterTown();
        for (int p = 0; p < 20; p++) {
            page.is("pipe " + p, x.pipe(p % 5, 5 + p % 5, 1, 0), p);
        }
        page.is("a twenty-first", x.pipe(0, 1, 1, 0), FULL);
        page.is("pipes", x.count(1), 20);
        WaterTown y = new WaterTown();
        for (int node = 0; node <= 9; node++) {
            page.is("one node twice", y.pipe(node, node, 1, 0), OUTSIDE);
        }
        page.is("no pipes", y.count(1), 0);
        page.says("a BORE (1 .. 999) is the most that goes by one in an hour, either way;");
        y.pump(0, 23, 9999);
        page.is("0", y.pipe(0, 1, 0, 0), OUTSIDE);
        page.is("1000", y.pipe(0, 1, 1000, 0), OUTSIDE);
        page.is("999", y.pipe(0, 1, 999, 0), 0);
        page.is("1", y.pipe(2, 0, 1, 0), 1);
        page.is("from its first node to its second", y.draw(1, 0, 0), 999);
        page.is("from its second node to its first", y.draw(2, 0, 0), 1);
        y.pipe(1, 3, 4, 0);
        y.pipe(3, 1, 5, 0);
        page.is("two beside one another", y.draw(3, 0, 0), 9);
        y.pipe(2, 3, 7, 0);
        page.is("and one more way", y.draw(3, 0, 0), 10);
        page.is("against it, by both ways", y.draw(2, 0, 0), 8);
    }

    private void leaks() {
        page.says("a LEAK (0 .. 99) is what it loses at its first NODE in each hour in which it is OPEN.");
        WaterTown x = new WaterTown();
        page.is("-1", x.pipe(0, 1, 1, -1), OUTSIDE);
        page.is("100", x.pipe(0, 1, 1, 100), OUTSIDE);
        page.is("99", x.pipe(0, 1, 5, 99), 0);
        page.is("at node 0 its bore does not matter", x.flow(0, -1, 2), 99);
        page.is("0", x.pipe(1, 2, 5, 0), 1);
        page.is("that loses nothing", x.flow(0, -1, 2), 99);
        x.leak(0, 0);
        page.is("99 at node 2", x.pipe(2, 0, 5, 99), 2);
        page.is("5 by it, 5 by the others", x.flow(0, -1, 2), 10);
        x.go(1);
        x.shut(2, true);
        page.is("SHUT it loses nothing", x.flow(0, -1, 2), 0);
        x.go(5);
        page.is("nothing was lost", x.count(10), 10);
        x.shut(2, false);
        x.go(2);
        page.is("in each hour in which it is OPEN", x.count(10), 30);
    }

    private void valvesAndMap() {
        page.says("A PIPE has a VALVE: OPEN at first, or SHUT.");
        WaterTown x = new WaterTown();
        x.pipe(0, 1, 7, 0);
        page.is("water goes by it", x.draw(1, 0, 0), 7);
        page.is("no pipe is SHUT", x.count(5), 0);
        page.is("it was OPEN", x.shut(0, true), 0);
        page.is("none goes by it", x.draw(1, 0, 0), 0);
        page.is("one is SHUT", x.count(5), 1);
        page.says("THE MAP tells of each PIPE two NODES (its own at first).");
        WaterTown y = new WaterTown();
        y.pipe(0, 1, 7, 0);
        y.pipe(1, 2, 7, 0);
        y.street(2, 1, 1, 0, 0, 0);
        page.is("its own", y.wrong(), 0);
        page.is("joined by it", y.cuts(0, 1), 0);
        page.is("cut off by it", y.cuts(1, 1), 1);
        y.map(0, 1, 3);
        page.is("as it tells now", y.cuts(0, 1), 1);
        page.is("of the other its own still", y.cuts(2, 1), 1);
        y.map(0, 0, 1);
        page.is("its own again", y.cuts(0, 1), 0);
    }

    private void streets() {
        page.says("STREETS (10 at most) are at a NODE,");
        WaterTown x = new WaterTown();
        for (int s = 0; s < 10; s++) {
            page.is("street " + s, x.street(9 - s, 1, 1, 0, 0, 0), s);
        }
        page.is("an eleventh", x.street(0, 1, 1, 0, 0, 0), FULL);
        page.is("at its node", x.told(3, 0), 6);
        tenAtOnce(x);
        page.says("of n houses (1 .. 99), each of which uses q (1 .. 9) in an hour,");
        WaterTown y = new WaterTown();
        y.pump(0, 23, 9999);
        page.is("n 0", y.street(0, 0, 1, 0, 0, 1), OUTSIDE);
        page.is("n 100", y.street(0, 100, 1, 0, 0, 1), OUTSIDE);
        page.is("q 0", y.street(0, 1, 0, 0, 0, 1), OUTSIDE);
        page.is("q 10", y.street(0, 1, 10, 0, 0, 1), OUTSIDE);
        page.is("99 and 9", y.street(0, 99, 9, 0, 0, 1), 0);
        page.is("1 and 1", y.street(0, 1, 1, 0, 0, 1), 1);
        page.is("99 times 9", y.flow(0, 0, 1), 891);
        page.is("1 times 1", y.flow(0, 1, 1), 1);
        page.says("with WASTE v (0 .. 99) for all in each hour in which water is on;");
        page.is("-1", y.street(0, 1, 1, -1, 0, 1), OUTSIDE);
        page.is("100", y.street(0, 1, 1, 100, 0, 1), OUTSIDE);
        page.is("99", y.street(0, 5, 1, 99, 0, 0), 2);
        page.is("0", y.street(0, 5, 1, 0, 0, 0), 3);
        y.go(6);
        page.is("none while it is off", y.told(2, 6), 0);
        y.go(18);
        page.is("for all houses, in three hours", y.told(2, 6), 297);
        page.is("none", y.told(3, 6), 0);
        page.says("a CISTERN for all of a size (0 .. 999; empty at first).");
        page.is("-1", y.street(0, 1, 1, 0, -1, 0), OUTSIDE);
        page.is("1000", y.street(0, 1, 1, 0, 1000, 0), OUTSIDE);
        page.is("999", y.street(0, 5, 1, 0, 999, 0), 4);
        page.is("0", y.street(0, 5, 1, 0, 0, 0), 5);
        page.is("empty at first", y.told(4, 2), 0);
        page.is("it asks for all of it, for all houses once", y.flow(6, 4, 0), 5 + 999);
        y.go(9);
        page.is("filled to its size", y.told(4, 2), 999);
        page.is("none", y.told(5, 2), 0);
    }

    /** Each call that goes through all streets, with ten of them; street 9 alone is at the pump, and all are TURN. */
    private void tenAtOnce(WaterTown x) {
        page.is("in all", x.flow(6, NONE, 3), 1);
        page.is("they get less", x.draw(0, 6, 2), 512);
        page.is("cut off", x.cuts(0, 0), 511);
        page.is("no PIPE is WRONG", x.wrong(), 0);
        page.is("the last of the line", x.line(6, 9), 9);
        page.is("an order of six, the last of them at the pump", x.order(63 << 4, NONE), 5 * 24);
        page.is("it is the first", x.order(63 << 4, 0), 9);
        page.is("all but one are DRY", x.go(24), 24);
        page.is("the last, but in hours 6 to 8", x.told(9, 4), 21);
        page.is("again", x.beside(0, 0), 24);
        for (int s = 0; s < 10; s++) {
            x.rooms(s, 1);
        }
        page.is("all gain", x.gains(), 10);
        for (int s = 0; s < 10; s++) {
            x.over(s);
        }
        page.is("all are ALWAYS", x.count(3), 10);
    }

    private void kinds() {
        page.says("KINDS: 0 TURN: water is on in its hours (RULES); 1 ALWAYS: in all.");
        WaterTown x = new WaterTown();
        page.is("-1", x.street(0, 1, 1, 0, 0, -1), OUTSIDE);
        page.is("2", x.street(0, 1, 1, 0, 0, 2), OUTSIDE);
        x.street(0, 1, 1, 0, 0, 0);
        x.street(0, 1, 1, 0, 0, 1);
        Due.rule(x, "hours 0 to 0;", 1);
        Due.rule(x, "hours 23 to 23;", 2);
        for (int day = 0; day < 3; day++) {
            int from = day == 0 ? 6 : day == 1 ? 0 : 23;
            int to = day == 0 ? 8 : from;
            for (int hour = 0; hour < 24; hour++) {
                page.is("TURN, hour " + hour + " of " + day, x.flow(hour, 0, 1), hour >= from && hour <= to ? 1 : 0);
                page.is("ALWAYS, hour " + hour + " of " + day, x.flow(hour, 1, 1), 1);
            }
            x.go(24);
        }
    }

    private void hours() {
        page.says("HOURS go from 0 on; NOW is the next one (0 .. 4800); DAY is NOW / 24 (199 at most).");
        WaterTown x = new WaterTown();
        page.is("NOW", x.count(0), 0);
        x.street(0, 1, 1, 0, 0, 0);
        x.rooms(0, 1);
        Due.rule(x, "rate 10;", 1);
        Due.rule(x, "rate 20;", 199);
        page.is("hour 0 is the first", x.go(1), 1);
        page.is("NOW", x.count(0), 1);
        x.go(22);
        page.is("NOW 23 is of DAY 0", x.told(0, 7), 2);
        x.go(1);
        page.is("NOW 24 is of DAY 1", x.told(0, 7), 10);
        for (int k = 0; k < 23; k++) {
            x.go(200);
        }
        page.is("on", x.go(151), 133);
        page.is("NOW", x.count(0), 4775);
        page.is("NOW 4775 is of DAY 198", x.told(0, 7), 10);
        x.go(1);
        page.is("NOW 4776 is of DAY 199", x.told(0, 7), 20);
        page.is("NOW would be 4801", x.go(25), NOT);
        page.is("NOW becomes 4800", x.go(24), 21);
        page.is("NOW", x.count(0), 4800);
        page.is("NOW 4800 is of DAY 199, too", x.told(0, 7), 20);
        page.is("and its hours are of it", x.flow(6, 0, 0), 1);
        page.is("no more", x.go(1), NOT);
    }
}
