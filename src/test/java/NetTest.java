/** Promises 1 to 11: a new object, and the net. */
public final class NetTest {
    private static final int UNKNOWN = -1001, OUTSIDE = -1002, NOT = -1003, FULL = -1004;
    private static final int LOW = Integer.MIN_VALUE, HIGH = Integer.MAX_VALUE;
    private static final Due due = new Due();

    public static void main(String[] args) {
        newObject();
        pipe();
        shut();
        leak();
        map();
        pump();
        street();
        over();
        rooms();
        count();
        told();
        due.end();
    }

    private static void newObject() {
        due.part("promise 1");
        WaterTown x = new WaterTown();
        for (int what = 0; what <= 10; what++) {
            due.is("count " + what, x.count(what), 0);
        }
        for (int hour = 0; hour < 24; hour++) {
            due.is("pump at first", x.draw(0, hour, 0), 100);
            due.is("pump at first, ahead", x.draw(0, hour, 1), 100);
            due.is("nothing flows", x.flow(hour, -1, 3), 0);
            due.is("empty line", x.line(hour, 0), -1);
        }
        due.is("no street", x.told(0, 0), UNKNOWN);
        due.is("no pipe", x.shut(0, true), UNKNOWN);
        due.is("no fault", x.fault(), -1);
        due.is("no order", x.order(0, -1), 0);
        due.is("no cuts", x.cuts(0, 0), 0);
        due.is("no cuts by map", x.cuts(0, 1), 0);
        due.is("nothing wrong", x.wrong(), 0);
        due.is("no gains", x.gains(), 0);
        due.is("nothing beside", x.beside(9, 999), 0);
        due.is("no gauges", x.explain(0), NOT);
        due.is("a hour without streets", x.go(1), 0);
        due.is("NOW", x.count(0), 1);
    }

    private static void pipe() {
        due.part("promise 2");
        WaterTown x = new WaterTown();
        due.is("node below", x.pipe(-1, 1, 1, 0), UNKNOWN);
        due.is("node above", x.pipe(0, 10, 1, 0), UNKNOWN);
        due.is("node ahead of outside", x.pipe(10, 10, 0, 100), UNKNOWN);
        due.is("one node twice", x.pipe(3, 3, 1, 0), OUTSIDE);
        due.is("bore 0", x.pipe(0, 1, 0, 0), OUTSIDE);
        due.is("bore 1000", x.pipe(0, 1, 1000, 0), OUTSIDE);
        due.is("leak -1", x.pipe(0, 1, 1, -1), OUTSIDE);
        due.is("leak 100", x.pipe(0, 1, 1, 100), OUTSIDE);
        due.is("wild", x.pipe(LOW, HIGH, LOW, HIGH), UNKNOWN);
        due.is("refused changes nothing", x.count(1), 0);
        for (int p = 0; p < 20; p++) {
            due.is("pipe", x.pipe(p % 9, 9, p % 2 == 0 ? 1 : 999, p % 2 == 0 ? 0 : 99), p);
        }
        due.is("full", x.pipe(0, 1, 1, 0), FULL);
        due.is("outside ahead of full", x.pipe(0, 0, 1, 0), OUTSIDE);
        due.is("unknown ahead of full", x.pipe(0, -1, 1, 0), UNKNOWN);
        due.is("pipes", x.count(1), 20);
    }

    private static void shut() {
        due.part("promise 3");
        WaterTown x = new WaterTown();
        x.pipe(0, 1, 7, 3);
        x.pipe(0, 1, 5, 0);
        due.is("both open", x.draw(1, 0, 0), 12);
        due.is("unknown", x.shut(2, true), UNKNOWN);
        due.is("unknown below", x.shut(-1, false), UNKNOWN);
        due.is("open stays", x.shut(0, false), 0);
        due.is("was open", x.shut(0, true), 0);
        due.is("one is left", x.draw(1, 0, 0), 5);
        due.is("a shut pipe does not leak", x.flow(0, -1, 2), 0);
        due.is("was shut", x.shut(0, true), 1);
        due.is("shut pipes", x.count(5), 1);
        due.is("opens", x.shut(0, false), 1);
        due.is("open again", x.draw(1, 0, 0), 12);
        due.is("leaks again", x.flow(0, -1, 2), 3);
    }

    private static void leak() {
        due.part("promise 4");
        WaterTown x = new WaterTown();
        x.pipe(0, 1, 5, 0);
        x.pipe(2, 1, 50, 4);
        due.is("unknown", x.leak(2, 1), UNKNOWN);
        due.is("unknown ahead of outside", x.leak(2, 100), UNKNOWN);
        due.is("outside", x.leak(1, 100), OUTSIDE);
        due.is("outside below", x.leak(1, -1), OUTSIDE);
        due.is("lost", x.flow(0, -1, 2), 4);
        due.is("what it was", x.leak(1, 99), 4);
        due.is("no more than comes there", x.flow(0, -1, 2), 5);
        due.is("what it was", x.leak(0, 98), 0);
        due.is("at the first node, by pipes", x.flow(0, -1, 2), 100);
        due.is("at the first node, by pipes: pump is empty", x.draw(0, 0, 0), 0);
        due.is("what it was", x.leak(0, 0), 98);
        due.is("none", x.leak(1, 0), 99);
        due.is("none lost", x.flow(0, -1, 2), 0);
    }

    private static void map() {
        due.part("promise 5");
        WaterTown x = new WaterTown();
        x.pipe(0, 1, 5, 0);
        x.street(1, 1, 1, 0, 0, 1);
        due.is("unknown pipe", x.map(1, 0, 1), UNKNOWN);
        due.is("unknown node", x.map(0, 0, 10), UNKNOWN);
        due.is("unknown node", x.map(0, -1, 2), UNKNOWN);
        due.is("unlike", x.map(0, 4, 4), OUTSIDE);
        due.is("unknown ahead", x.map(0, 10, 10), UNKNOWN);
        due.is("its own at first", x.cuts(0, 1), 0);
        due.is("told otherwise", x.map(0, 0, 2), 1);
        due.is("by the map the street is cut off", x.cuts(0, 1), 1);
        due.is("as it is it is not", x.cuts(0, 0), 0);
        due.is("water flows as it is", x.flow(0, 0, 1), 1);
        due.is("told the other way about", x.map(0, 1, 0), 1);
        due.is("joined", x.cuts(0, 1), 0);
    }

    private static void pump() {
        due.part("promise 6");
        WaterTown x = new WaterTown();
        due.is("from", x.pump(-1, 3, 1), OUTSIDE);
        due.is("to", x.pump(0, 24, 1), OUTSIDE);
        due.is("to below from", x.pump(4, 3, 1), OUTSIDE);
        due.is("v", x.pump(0, 0, 10000), OUTSIDE);
        due.is("v", x.pump(0, 0, -1), OUTSIDE);
        due.is("wild", x.pump(LOW, HIGH, 1), OUTSIDE);
        due.is("refused changes nothing", x.draw(0, 0, 0), 100);
        due.is("some", x.pump(2, 4, 9999), 1);
        due.is("none", x.pump(4, 4, 0), 1);
        due.is("last", x.pump(23, 23, 7), 1);
        int[] want = {100, 100, 9999, 9999, 0, 100};
        for (int hour = 0; hour < want.length; hour++) {
            due.is("hour " + hour, x.draw(0, hour, 0), want[hour]);
        }
        due.is("hour 22", x.draw(0, 22, 0), 100);
        due.is("hour 23", x.draw(0, 23, 0), 7);
    }

    private static void street() {
        due.part("promise 7");
        WaterTown x = new WaterTown();
        due.is("node", x.street(10, 1, 1, 0, 0, 0), UNKNOWN);
        due.is("node ahead", x.street(-1, 0, 0, 0, 0, 9), UNKNOWN);
        due.is("n", x.street(0, 0, 1, 0, 0, 0), OUTSIDE);
        due.is("n", x.street(0, 100, 1, 0, 0, 0), OUTSIDE);
        due.is("q", x.street(0, 1, 0, 0, 0, 0), OUTSIDE);
        due.is("q", x.street(0, 1, 10, 0, 0, 0), OUTSIDE);
        due.is("waste", x.street(0, 1, 1, -1, 0, 0), OUTSIDE);
        due.is("waste", x.street(0, 1, 1, 100, 0, 0), OUTSIDE);
        due.is("cistern", x.street(0, 1, 1, 0, -1, 0), OUTSIDE);
        due.is("cistern", x.street(0, 1, 1, 0, 1000, 0), OUTSIDE);
        due.is("kind", x.street(0, 1, 1, 0, 0, -1), OUTSIDE);
        due.is("kind", x.street(0, 1, 1, 0, 0, 2), OUTSIDE);
        due.is("none yet", x.count(2), 0);
        for (int s = 0; s < 10; s++) {
            due.is("street", x.street(s, 99, 9, 99, 999, s % 2), s);
            due.is("cistern is empty", x.told(s, 2), 0);
        }
        due.is("asked by turn", x.flow(6, 0, 0), 891 + 99 + 999);
        due.is("asked always", x.flow(6, 1, 0), 891 + 99);
        due.is("full", x.street(0, 1, 1, 0, 0, 0), FULL);
        due.is("outside ahead of full", x.street(0, 1, 1, 0, 0, 2), OUTSIDE);
        due.is("streets", x.count(2), 10);
    }

    private static void over() {
        due.part("promise 8");
        WaterTown x = new WaterTown();
        x.street(0, 5, 2, 1, 30, 0);
        x.street(0, 5, 2, 1, 30, 1);
        due.is("unknown", x.over(2), UNKNOWN);
        due.is("unknown", x.over(-1), UNKNOWN);
        due.is("always already", x.over(1), NOT);
        x.go(9);
        due.is("cistern was filled", x.told(0, 2), 30);
        due.is("cistern of an always one is not", x.told(1, 2), 0);
        due.is("over", x.over(0), 1);
        due.is("kind", x.told(0, 1), 1);
        due.is("again", x.over(0), NOT);
        due.is("asks without its cistern", x.flow(0, 0, 0), 11);
        x.pump(0, 23, 6);
        due.is("cistern serves still: only the other is dry", x.go(1), 1);
        due.is("from its cistern", x.told(0, 2), 25);
        due.is("not dry", x.told(0, 4), 6);
        x.pump(0, 23, 100);
        x.go(12);
        due.is("is not filled again", x.told(0, 2), 25);
    }

    private static void rooms() {
        due.part("promise 9");
        WaterTown x = new WaterTown();
        due.is("unknown", x.rooms(0, 3), UNKNOWN);
        x.street(0, 5, 2, 1, 30, 0);
        due.is("unknown ahead", x.rooms(1, 100), UNKNOWN);
        due.is("outside", x.rooms(0, 100), OUTSIDE);
        due.is("outside", x.rooms(0, -1), OUTSIDE);
        due.is("0 at first", x.rooms(0, 99), 0);
        due.is("what they were", x.rooms(0, 3), 99);
        due.is("pays", x.told(0, 7), 2 * 3 * 5);
        due.is("what they were", x.rooms(0, 0), 3);
        due.is("pays nothing", x.told(0, 7), 0);
    }

    private static void count() {
        due.part("promise 10");
        WaterTown x = new WaterTown();
        x.pipe(0, 1, 9, 2);
        x.pipe(1, 2, 9, 3);
        x.pipe(1, 3, 9, 4);
        x.street(1, 1, 1, 0, 0, 1);
        x.street(3, 1, 1, 0, 0, 1);
        x.street(3, 1, 1, 0, 0, 0);
        x.shut(2, true);
        Due.rule(x, "rate 3;", 4);
        Due.feed(x, "rat");
        x.gauge(3, 5);
        x.gauge(0, 0);
        x.guess(1, 4);
        due.is("go", x.go(5), 5);
        due.is("NOW", x.count(0), 5);
        due.is("PIPES", x.count(1), 3);
        due.is("STREETS", x.count(2), 3);
        due.is("ALWAYS", x.count(3), 2);
        due.is("RULES", x.count(4), 1);
        due.is("SHUT", x.count(5), 1);
        due.is("bytes", x.count(6), 3);
        due.is("GAUGES", x.count(7), 2);
        due.is("GUESSES", x.count(8), 1);
        due.is("dry hours", x.count(9), 5);
        due.is("leaks lost", x.count(10), 25);
        due.is("below", x.count(-1), OUTSIDE);
        due.is("above", x.count(11), OUTSIDE);
        due.is("wild", x.count(LOW), OUTSIDE);
        x.guess(1, -1);
        due.is("no GUESS", x.count(8), 0);
    }

    private static void told() {
        due.part("promise 11");
        WaterTown x = new WaterTown();
        x.pump(0, 23, 10);
        x.pipe(0, 4, 10, 0);
        x.street(4, 3, 2, 5, 20, 0);
        Due.rule(x, "hours 2 to 3; rate 4; meter 7;", 0);
        x.rooms(0, 9);
        x.go(2);
        due.is("dry without water", x.told(0, 4), 2);
        due.is("lacked", x.told(0, 5), 12);
        x.go(1);
        due.is("waste first", x.told(0, 6), 5);
        due.is("then need", x.told(0, 5), 13);
        x.pump(3, 3, 25);
        x.shut(0, true);
        x.pipe(0, 4, 99, 0);
        x.go(1);
        due.is("NODE", x.told(0, 0), 4);
        due.is("KIND", x.told(0, 1), 0);
        due.is("CISTERN", x.told(0, 2), 14);
        due.is("GOT", x.told(0, 3), 35);
        due.is("hours DRY", x.told(0, 4), 3);
        due.is("lacked", x.told(0, 5), 13);
        due.is("WASTE", x.told(0, 6), 10);
        due.is("by rooms", x.told(0, 7), 4 * 9 * 3);
        due.is("by meters", x.told(0, 8), 7 * 35 / 10);
        x.go(3);
        due.is("CISTERN is used", x.told(0, 2), 0);
        due.is("hours DRY", x.told(0, 4), 4);
        due.is("lacked by what the CISTERN had not", x.told(0, 5), 13 + 4);
        due.is("unknown", x.told(1, 0), UNKNOWN);
        due.is("unknown ahead", x.told(-1, 9), UNKNOWN);
        due.is("outside", x.told(0, 9), OUTSIDE);
        due.is("outside", x.told(0, -1), OUTSIDE);
    }
}
