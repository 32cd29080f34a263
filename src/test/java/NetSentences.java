/** Promises 1 to 11: a new object, and the net. */
final class NetSentences {
    private static final int NONE = Page.NONE, UNKNOWN = Page.UNKNOWN, OUTSIDE = Page.OUTSIDE, NOT = Page.NOT, FULL = Page.FULL;
    private static final int LOW = Page.LOW, HIGH = Page.HIGH;
    /** None of these is a pipe or street of a town that has two; 32 and 33 are 0 and 1 to a shift. */
    private static final int[] NO_SUCH = {-1, 2, 10, 20, 31, 32, 33, LOW, LOW + 1, HIGH};

    private final Page page;

    NetSentences(Page page) {
        this.page = page;
    }

    void all() {
        newObject();
        pipe();
        shut();
        leak();
        map();
        pump();
        street();
        over();
        rooms();
        count();
        countOfHours();
        told();
        toldWrong();
    }

    private void newObject() {
        page.in("promise 1");
        page.says("No PIPES, no STREETS; hour 0.");
        WaterTown x = new WaterTown();
        for (int what = 0; what <= 10; what++) {
            page.is("count " + what, x.count(what), 0);
        }
        page.is("no pipe 0", x.shut(0, true), UNKNOWN);
        page.is("no street 0", x.told(0, 0), UNKNOWN);
        page.is("no pipe in a set", x.cuts(1, 0), UNKNOWN);
        page.is("no street in a set", x.order(1, 0), UNKNOWN);
        page.is("the empty sets", x.cuts(0, 0) + x.cuts(0, 1) + x.wrong() + x.order(0, NONE), 0);
        page.is("nothing flows", x.flow(0, NONE, 3), 0);
        page.is("no hour was dry", x.beside(0, 0), 0);
        WaterTown y = new WaterTown();
        y.pipe(0, 1, 1, 1);
        y.go(5);
        page.is("another object has nothing of it", x.count(1) + x.count(0), 0);
    }

    private void pipe() {
        page.in("promise 2");
        page.says("A PIPE: its number.");
        WaterTown x = new WaterTown();
        page.is("the first", x.pipe(0, 9, 1, 0), 0);
        page.is("the same once more is another", x.pipe(0, 9, 1, 0), 1);
        page.is("both carry", x.draw(9, 0, 0), 2);
        page.is("the other way about", x.pipe(9, 0, 999, 99), 2);
        page.says("UNKNOWN (NODES), OUTSIDE (one NODE twice), FULL.");
        page.is("first node", x.pipe(10, 0, 1, 0), UNKNOWN);
        page.is("second node", x.pipe(0, -1, 1, 0), UNKNOWN);
        page.is("one that there is not, twice", x.pipe(10, 10, 1, 0), UNKNOWN);
        page.is("node 0 twice", x.pipe(0, 0, 1, 0), OUTSIDE);
        page.is("node 9 twice", x.pipe(9, 9, 1, 0), OUTSIDE);
        for (int bad : new int[] {0, -1, 1000, LOW, HIGH}) {
            page.is("bore " + bad, x.pipe(0, 1, bad, 0), OUTSIDE);
        }
        for (int bad : new int[] {-1, 100, LOW, HIGH}) {
            page.is("leak " + bad, x.pipe(0, 1, 1, bad), OUTSIDE);
        }
        for (int p = 3; p < 20; p++) {
            page.is("up to the twentieth", x.pipe(0, 1, 1, 0), p);
        }
        page.is("full", x.pipe(0, 1, 1, 0), FULL);
        page.is("full still", x.pipe(8, 9, 999, 99), FULL);
    }

    private static WaterTown two() {
        WaterTown x = new WaterTown();
        x.pipe(0, 1, 6, 0);
        x.pipe(0, 2, 7, 0);
        x.street(1, 1, 1, 0, 3, 0);
        x.street(2, 1, 1, 0, 3, 1);
        return x;
    }

    private void shut() {
        page.in("promise 3");
        page.says("A VALVE is SHUT (is = true) or OPEN: what it was (1, 0).");
        WaterTown x = two();
        page.is("OPEN stays OPEN", x.shut(0, false), 0);
        page.is("OPEN becomes SHUT", x.shut(0, true), 0);
        page.is("SHUT stays SHUT", x.shut(0, true), 1);
        page.is("one is SHUT", x.count(5), 1);
        page.is("none goes by it", x.draw(1, 0, 1), 0);
        page.is("the other is OPEN", x.shut(1, false), 0);
        page.is("SHUT becomes OPEN", x.shut(0, false), 1);
        page.is("it is OPEN", x.shut(0, false), 0);
        page.is("water goes by it", x.draw(1, 0, 1), 6);
        WaterTown full = TermSentences.full();
        for (int p = 0; p < 20; p++) {
            page.is("of twenty, " + p, full.shut(p, true), p == 3 ? 1 : 0);
        }
        for (int p = 19; p >= 0; p--) {
            page.is("of twenty, " + p, full.shut(p, p % 2 == 0), 1);
            page.is("of twenty, " + p, full.shut(p, false), p % 2 == 0 ? 1 : 0);
            page.is("SHUT ones", full.count(5), p);
        }
        page.says("UNKNOWN.");
        for (int p : NO_SUCH) {
            page.is("pipe " + p, x.shut(p, true), UNKNOWN);
        }
        page.is("none is SHUT", x.count(5), 0);
    }

    private void leak() {
        page.in("promise 4");
        page.says("LEAK of a PIPE becomes v: what it was.");
        WaterTown x = two();
        page.is("it was 0", x.leak(1, 99), 0);
        page.is("99 at node 0", x.flow(0, NONE, 2), 99);
        page.is("it was 99", x.leak(1, 1), 99);
        page.is("the other was 0", x.leak(0, 0), 0);
        page.is("it was 1", x.leak(1, 0), 1);
        page.is("none", x.flow(0, NONE, 2), 0);
        x.shut(1, true);
        page.is("of a SHUT one, too", x.leak(1, 5), 0);
        page.is("it does not leak yet", x.flow(0, NONE, 2), 0);
        x.shut(1, false);
        page.is("it does now", x.flow(0, NONE, 2), 5);
        page.says("UNKNOWN, OUTSIDE.");
        for (int p : NO_SUCH) {
            page.is("pipe " + p, x.leak(p, 1), UNKNOWN);
        }
        for (int v : new int[] {-1, 100, LOW, HIGH}) {
            page.is("leak " + v, x.leak(1, v), OUTSIDE);
            page.is("of no pipe", x.leak(2, v), UNKNOWN);
        }
        page.is("it is as it was", x.leak(1, 5), 5);
    }

    private void map() {
        page.in("promise 5");
        page.says("THE MAP tells of a PIPE NODES a, b (unlike): 1.");
        WaterTown x = two();
        page.is("as it is", x.map(0, 0, 1), 1);
        page.is("nothing is wrong", x.wrong(), 0);
        page.is("nodes that are not its own", x.map(0, 8, 9), 1);
        page.is("by it street 0 is not joined", x.cuts(0, 1), 1);
        page.is("water flows as before", x.draw(1, 0, 1), 6);
        page.is("the other way about", x.map(0, 1, 0), 1);
        page.is("joined", x.cuts(0, 1), 0);
        page.says("UNKNOWN, OUTSIDE.");
        for (int p : NO_SUCH) {
            page.is("pipe " + p, x.map(p, 0, 1), UNKNOWN);
        }
        for (int node : new int[] {-1, 10, LOW, HIGH}) {
            page.is("node a " + node, x.map(0, node, 1), UNKNOWN);
            page.is("node b " + node, x.map(0, 1, node), UNKNOWN);
            page.is("both " + node, x.map(0, node, node), UNKNOWN);
        }
        for (int node = 0; node <= 9; node++) {
            page.is("node twice " + node, x.map(0, node, node), OUTSIDE);
        }
        page.is("it tells what it told", x.cuts(0, 1), 0);
    }

    private void pump() {
        page.in("promise 6");
        page.says("THE PUMP gives up to v in hours from to to (0 .. 23, to not below): 1.");
        WaterTown x = new WaterTown();
        page.is("all hours", x.pump(0, 23, 50), 1);
        page.is("one hour", x.pump(7, 7, 9999), 1);
        page.is("two hours", x.pump(22, 23, 0), 1);
        for (int hour = 0; hour < 24; hour++) {
            page.is("hour " + hour, x.draw(0, hour, 0), hour == 7 ? 9999 : hour >= 22 ? 0 : 50);
        }
        page.says("OUTSIDE.");
        int[][] bad = {{-1, 5, 1}, {5, 24, 1}, {24, 24, 1}, {-1, -1, 1}, {6, 5, 1}, {23, 0, 1}, {5, 5, -1}, {5, 5, 10000},
            {LOW, 5, 1}, {5, HIGH, 1}, {HIGH, LOW, 1}, {5, 5, LOW}, {5, 5, HIGH}, {LOW, HIGH, 1}, {24, 23, 1}, {24, 25, 1}};
        for (int[] b : bad) {
            page.is("pump " + b[0] + " " + b[1] + " " + b[2], x.pump(b[0], b[1], b[2]), OUTSIDE);
        }
        page.is("hour 5 is as it was", x.draw(0, 5, 0), 50);
    }

    private void street() {
        page.in("promise 7");
        page.says("A STREET: its number.");
        WaterTown x = new WaterTown();
        page.is("the least", x.street(0, 1, 1, 0, 0, 0), 0);
        page.is("the largest", x.street(9, 99, 9, 99, 999, 1), 1);
        page.is("the same once more is another", x.street(9, 99, 9, 99, 999, 1), 2);
        page.is("streets", x.count(2), 3);
        page.says("UNKNOWN (NODE), OUTSIDE (KIND 0, 1, too), FULL.");
        int[] good = {4, 5, 5, 5, 5, 1};
        int[] least = {0, 1, 1, 0, 0, 0};
        int[] most = {9, 99, 9, 99, 999, 1};
        for (int k = 0; k < 6; k++) {
            for (int bad : new int[] {least[k] - 1, most[k] + 1, LOW, HIGH}) {
                int[] b = good.clone();
                b[k] = bad;
                page.is("street with " + bad + " at " + k, x.street(b[0], b[1], b[2], b[3], b[4], b[5]), k == 0 ? UNKNOWN : OUTSIDE);
                page.is("at node 10", x.street(10, b[1], b[2], b[3], b[4], b[5]), UNKNOWN);
            }
        }
        for (int s = 3; s < 10; s++) {
            page.is("up to the tenth", x.street(s, 1, 1, 0, 0, s % 2), s);
        }
        page.is("full", x.street(0, 1, 1, 0, 0, 0), FULL);
        page.is("full", x.street(0, 1, 1, 0, 0, 1), FULL);
    }

    private void over() {
        page.in("promise 8");
        page.says("A STREET is CHANGED OVER: 1.");
        WaterTown x = two();
        page.is("no water at hour 0", x.flow(0, 0, 1), 0);
        page.is("over", x.over(0), 1);
        page.is("it is ALWAYS", x.told(0, 1), 1);
        page.is("both are", x.count(3), 2);
        page.is("water at hour 0", x.flow(0, 0, 1), 1);
        page.is("it asks for no cistern", x.flow(6, 0, 0), 1);
        page.says("UNKNOWN; NOT: it is ALWAYS already.");
        page.is("over again", x.over(0), NOT);
        page.is("ALWAYS from the first", x.over(1), NOT);
        for (int s : NO_SUCH) {
            page.is("street " + s, x.over(s), UNKNOWN);
        }
    }

    private void rooms() {
        page.in("promise 9");
        page.says("Rooms of a house of a STREET become v: what they were (0 at first).");
        WaterTown x = two();
        page.is("0 at first", x.rooms(0, 99), 0);
        page.is("the other has 0", x.rooms(1, 0), 0);
        page.is("99", x.rooms(0, 1), 99);
        page.is("1", x.rooms(0, 0), 1);
        page.is("0", x.rooms(0, 7), 0);
        page.says("UNKNOWN, OUTSIDE.");
        for (int s : NO_SUCH) {
            page.is("street " + s, x.rooms(s, 1), UNKNOWN);
        }
        for (int v : new int[] {-1, 100, LOW, HIGH}) {
            page.is("rooms " + v, x.rooms(0, v), OUTSIDE);
            page.is("of no street", x.rooms(2, v), UNKNOWN);
        }
        page.is("they are what they were", x.rooms(0, 7), 7);
    }

    private void count() {
        page.in("promise 10");
        page.says("How many: 0 NOW, 1 PIPES, 2 STREETS, 3 ALWAYS ones, 4 RULES, 5 SHUT PIPES, 6 bytes of THE TEXT, 7 GAUGES, "
                + "8 PIPES with GUESSES,");
        WaterTown full = TermSentences.full();
        int[] most = {4800, 20, 10, 1, 8, 1, 160, 6, 12};
        for (int what = 0; what <= 8; what++) {
            page.is("the most, " + what, full.count(what), most[what]);
        }
        for (int p = 0; p < 20; p++) {
            full.shut(p, true);
            full.guess(p, NONE);
        }
        for (int s = 0; s < 9; s++) {
            full.over(s);
        }
        page.is("all SHUT", full.count(5), 20);
        page.is("no GUESSES", full.count(8), 0);
        page.is("all ALWAYS", full.count(3), 10);
        WaterTown x = two();
        x.guess(0, 5);
        x.guess(0, 6);
        page.is("a pipe has one GUESS", x.count(8), 1);
        Due.feed(x, "rate 5;");
        page.is("bytes", x.count(6), 7);
        x.rule(0);
        page.is("a RULE", x.count(4), 1);
        page.is("no bytes", x.count(6), 0);
        page.says("OUTSIDE.");
        for (int what : new int[] {-1, 11, LOW, HIGH}) {
            page.is("what " + what, x.count(what), OUTSIDE);
        }
    }

    private void countOfHours() {
        page.says("9 hours in which some STREET was DRY, 10 what all LEAKS lost.");
        WaterTown x = two();
        x.street(5, 1, 1, 0, 0, 1);
        x.leak(0, 3);
        x.leak(1, 4);
        page.is("one or two STREETS are DRY in each hour", x.go(10), 10);
        page.is("an hour counts once", x.count(9), 10);
        page.is("both LEAKS", x.count(10), 70);
        x.pump(10, 10, 5);
        x.go(1);
        page.is("no more than there was", x.count(10), 75);
        page.is("on", x.count(9), 11);
        x.flow(0, NONE, 2);
        x.beside(0, 0);
        x.order(1, NONE);
        page.is("what is only tried does not count", x.count(9), 11);
        page.is("nor does it leak", x.count(10), 75);
    }

    private void told() {
        page.in("promise 11");
        page.says("Of a STREET: what = 0 its NODE, 1 KIND, 2 what its CISTERN has, 3 what it has GOT in all, 4 hours DRY, "
                + "5 what it lacked in all, 6 WASTE that it took in all, 7 what it would pay by rooms, 8 by meters "
                + "(RULES of DAY; n houses).");
        WaterTown x = new WaterTown();
        x.pump(0, 23, 20);
        x.pipe(0, 7, 20, 0);
        x.street(7, 2, 3, 4, 9, 0);
        for (int what = 2; what <= 8; what++) {
            page.is("nothing yet, " + what, x.told(0, what), 0);
        }
        x.rooms(0, 5);
        Due.rule(x, "rate 3; meter 7;", 1);
        x.go(6);
        int[] atSix = {7, 0, 0, 0, 6, 36, 0, 2 * 5 * 2, 0};
        x.go(0);
        for (int what = 0; what <= 8; what++) {
            page.is("NOW 6, " + what, x.told(0, what), atSix[what]);
        }
        x.go(3);
        // 19 in hour 6, then 10 in each: its cistern is full.
        int[] atNine = {7, 0, 9, 39, 6, 36, 12, 20, 3};
        for (int what = 0; what <= 8; what++) {
            page.is("NOW 9, " + what, x.told(0, what), atNine[what]);
        }
        x.go(2);
        page.is("9 for two hours of 6: 3 are lacking", x.told(0, 5), 39);
        page.is("the second is DRY", x.told(0, 4), 7);
        page.is("its cistern is empty", x.told(0, 2), 0);
        x.go(13);
        page.is("rate of DAY 1", x.told(0, 7), 3 * 5 * 2);
        page.is("meter of DAY 1", x.told(0, 8), 7 * 39 / 10);
        x.over(0);
        page.is("KIND", x.told(0, 1), 1);
    }

    private void toldWrong() {
        page.says("UNKNOWN, OUTSIDE.");
        WaterTown x = two();
        for (int s : NO_SUCH) {
            page.is("street " + s, x.told(s, 0), UNKNOWN);
            page.is("street and what " + s, x.told(s, 9), UNKNOWN);
        }
        for (int what : new int[] {-1, 9, LOW, HIGH}) {
            page.is("what " + what, x.told(1, what), OUTSIDE);
        }
    }
}
