/** Promises 16 to 22: hours, flows, lines, draws, orders, cuts. */
public final class HoursTest {
    private static final int UNKNOWN = -1001, OUTSIDE = -1002, NOT = -1003;
    private static final int LOW = Integer.MIN_VALUE, HIGH = Integer.MAX_VALUE;
    private static final Due due = new Due();

    public static void main(String[] args) {
        go();
        goByRulesOfDays();
        flow();
        flowGoesRound();
        line();
        draw();
        order();
        orderOfSix();
        cuts();
        wrong();
        due.end();
    }

    private static void go() {
        due.part("promise 16");
        WaterTown x = new WaterTown();
        due.is("below", x.go(-1), OUTSIDE);
        due.is("above", x.go(201), OUTSIDE);
        due.is("wild", x.go(HIGH), OUTSIDE);
        due.is("none", x.go(0), 0);
        x.street(0, 10, 1, 0, 210, 0);
        due.is("a day: dry until hour 6", x.go(24), 6);
        due.is("its cistern lasts from then on", x.go(200), 0);
        for (int k = 0; k < 22; k++) {
            due.is("on", x.go(200), 0);
        }
        due.is("NOW", x.count(0), 4624);
        due.is("above 4800", x.go(177), NOT);
        due.is("outside ahead of not", x.go(201), OUTSIDE);
        due.is("refused changes nothing", x.count(0), 4624);
        due.is("up to 4800", x.go(176), 0);
        due.is("NOW", x.count(0), 4800);
        due.is("no more", x.go(1), NOT);
        due.is("none", x.go(0), 0);
        Due.rule(x, "hours 1 to 1; rate 50;", 199);
        due.is("DAY is 199 at most", x.flow(1, 0, 0), 10 + 150);
        due.is("DAY is 199 at most", x.flow(6, 0, 0), 0);
        x.rooms(0, 1);
        due.is("DAY is 199 at most", x.told(0, 7), 500);
        due.is("dry hours", x.count(9), 6);
    }

    private static void goByRulesOfDays() {
        due.part("promise 16, rules by days");
        WaterTown x = new WaterTown();
        x.street(0, 1, 1, 0, 0, 0);
        Due.rule(x, "hours 0 to 11;", 1);
        Due.rule(x, "hours 0 to 23;", 2);
        due.is("day 0", x.go(24), 21);
        due.is("day 1", x.go(24), 12);
        due.is("day 2", x.go(24), 0);
        due.is("lacked", x.told(0, 5), 33);
        due.is("got", x.told(0, 3), 72 - 33);
        due.is("dry", x.count(9), 33);
    }

    private static void flow() {
        due.part("promise 17");
        WaterTown x = new WaterTown();
        x.pump(0, 23, 50);
        x.pipe(0, 1, 40, 5);
        x.pipe(2, 1, 12, 3);
        x.street(2, 5, 2, 4, 50, 0);
        x.street(1, 9, 2, 1, 0, 1);
        due.is("asked", x.flow(7, 0, 0), 10 + 4 + 50);
        due.is("got: bore less the leak there", x.flow(7, 0, 1), 9);
        due.is("asked always", x.flow(7, 1, 0), 19);
        due.is("got", x.flow(7, 1, 1), 19);
        due.is("leaks", x.flow(7, -1, 2), 8);
        due.is("in all", x.flow(7, -1, 3), 36);
        due.is("not on: asked", x.flow(9, 0, 0), 0);
        due.is("not on: got", x.flow(9, 0, 1), 0);
        due.is("always on", x.flow(9, 1, 1), 19);
        due.is("in all", x.flow(9, -1, 3), 27);
        due.is("unknown", x.flow(7, 2, 0), UNKNOWN);
        due.is("unknown", x.flow(7, -2, 2), UNKNOWN);
        due.is("unknown ahead", x.flow(24, 2, 9), UNKNOWN);
        due.is("hour", x.flow(24, 0, 0), OUTSIDE);
        due.is("hour", x.flow(-1, 0, 0), OUTSIDE);
        due.is("what of a street", x.flow(7, 0, 2), OUTSIDE);
        due.is("what of all", x.flow(7, -1, 1), OUTSIDE);
        due.is("what", x.flow(7, -1, 4), OUTSIDE);
        due.is("what", x.flow(7, 0, -1), OUTSIDE);
        due.is("nothing is stepped", x.count(0), 0);
        due.is("nothing is filled", x.told(0, 2), 0);
        Due.rule(x, "first turn;", 0);
        due.is("the other one first now: 40 less both leaks, less 9", x.flow(7, 1, 1), 19);
        x.pump(7, 7, 20);
        due.is("pump: leaks 8, street 9", x.flow(7, 0, 1), 9);
        due.is("the rest", x.flow(7, 1, 1), 3);
        x.pump(7, 7, 6);
        due.is("leaks by pipes", x.flow(7, -1, 2), 6);
        due.is("nothing is left", x.flow(7, -1, 3), 6);
        x.pump(7, 7, 20);
        x.go(7);
        due.is("cisterns as they are", x.go(1), 1);
        due.is("cistern is empty still", x.flow(8, 0, 0), 64);
    }

    /** What was sent gives way, by other pipes, to what comes behind. */
    private static void flowGoesRound() {
        due.part("promise 17, rerouting");
        WaterTown x = new WaterTown();
        x.pipe(0, 1, 10, 0);
        x.pipe(0, 2, 10, 0);
        x.pipe(1, 3, 10, 0);
        x.pipe(2, 3, 10, 0);
        x.street(3, 10, 1, 0, 0, 1);
        x.street(1, 10, 1, 0, 0, 1);
        x.street(2, 10, 1, 0, 0, 1);
        due.is("first", x.flow(0, 0, 1), 10);
        due.is("second has all: the first goes the other way", x.flow(0, 1, 1), 10);
        due.is("third has none", x.flow(0, 2, 1), 0);
        x.shut(3, true);
        due.is("now the second has none", x.flow(0, 1, 1), 0);
        due.is("and the third all", x.flow(0, 2, 1), 10);
        x.shut(3, false);
        x.pipe(1, 2, 4, 0);
        x.pipe(9, 0, 999, 99);
        due.is("node 9 is joined to the pump: its leak is first", x.flow(0, -1, 2), 99);
        due.is("one is left", x.flow(0, 0, 1), 1);
    }

    private static void inLine(WaterTown x, int hour, int... streets) {
        for (int i = 0; i < streets.length; i++) {
            due.is("line " + hour + ", " + i, x.line(hour, i), streets[i]);
        }
        due.is("line " + hour + " ends", x.line(hour, streets.length), -1);
    }

    private static void line() {
        due.part("promise 18");
        WaterTown x = new WaterTown();
        x.pipe(0, 1, 9, 0);
        x.pipe(1, 2, 9, 0);
        x.pipe(2, 3, 9, 0);
        x.pipe(3, 0, 9, 0);
        x.street(1, 4, 1, 0, 0, 0);
        x.street(2, 3, 1, 0, 0, 1);
        x.street(9, 2, 1, 0, 0, 0);
        x.street(0, 1, 1, 0, 0, 1);
        x.street(3, 4, 1, 0, 0, 1);
        inLine(x, 5, 1, 3, 4);
        inLine(x, 6, 1, 3, 4, 0, 2);
        inLine(x, 8, 1, 3, 4, 0, 2);
        inLine(x, 9, 1, 3, 4);
        Due.rule(x, "first turn;", 0);
        inLine(x, 6, 0, 2, 1, 3, 4);
        Due.rule(x, "first small;", 0);
        inLine(x, 6, 3, 2, 1, 0, 4);
        Due.rule(x, "first far;", 0);
        inLine(x, 6, 1, 0, 4, 3, 2);
        x.shut(3, true);
        inLine(x, 6, 4, 1, 0, 3, 2);
        x.shut(0, true);
        inLine(x, 6, 3, 0, 1, 2, 4);
        x.shut(3, false);
        inLine(x, 6, 0, 1, 4, 3, 2);
        x.map(2, 9, 0);
        x.map(1, 9, 0);
        inLine(x, 6, 0, 1, 4, 3, 2);
        Due.rule(x, "first turn, far;", 0);
        inLine(x, 6, 0, 2, 1, 4, 3);
        Due.rule(x, "first far, small;", 0);
        x.shut(0, false);
        inLine(x, 6, 1, 0, 4, 3, 2);
        Due.rule(x, "first far, always;", 0);
        inLine(x, 6, 1, 4, 0, 3, 2);
        due.is("hour", x.line(24, 0), OUTSIDE);
        due.is("hour", x.line(-1, 0), OUTSIDE);
        due.is("no such", x.line(6, HIGH), -1);
        due.is("no such", x.line(6, LOW), -1);
        due.is("no such", x.line(6, -1), -1);
    }

    private static void draw() {
        due.part("promise 19");
        WaterTown x = new WaterTown();
        x.pump(0, 23, 40);
        x.pump(12, 12, 200);
        x.pipe(0, 1, 30, 2);
        x.pipe(1, 2, 20, 3);
        x.street(1, 5, 1, 0, 7, 0);
        x.street(2, 9, 1, 1, 0, 1);
        due.is("beside all", x.draw(2, 0, 0), 10);
        due.is("ahead of all but leaks", x.draw(2, 0, 1), 20);
        due.is("who gets less", x.draw(2, 0, 2), 2);
        due.is("with the turn on", x.draw(1, 6, 0), 30 - 3 - 10 - 12);
        due.is("ahead", x.draw(1, 6, 1), 27);
        due.is("both get less", x.draw(1, 6, 2), 3);
        due.is("at the pump", x.draw(0, 0, 0), 40 - 5 - 10);
        due.is("at the pump, ahead", x.draw(0, 0, 1), 35);
        due.is("all is drawn, however much there is", x.draw(0, 12, 2), 2);
        due.is("much at the pump", x.draw(0, 12, 0), 200 - 5 - 10);
        due.is("not joined", x.draw(9, 0, 1), 0);
        due.is("none less", x.draw(9, 0, 2), 0);
        due.is("node", x.draw(10, 0, 0), UNKNOWN);
        due.is("node ahead", x.draw(-1, 24, 3), UNKNOWN);
        due.is("hour", x.draw(0, 24, 0), OUTSIDE);
        due.is("what", x.draw(0, 0, 3), OUTSIDE);
        due.is("what", x.draw(0, 0, -1), OUTSIDE);
        x.go(7);
        due.is("cistern as it is: it is full", x.draw(1, 7, 0), 30 - 3 - 10 - 5);
    }

    private static void order() {
        due.part("promise 20");
        WaterTown x = new WaterTown();
        x.pump(0, 23, 10);
        x.street(0, 6, 1, 0, 0, 0);
        x.street(0, 5, 1, 0, 0, 0);
        x.street(0, 4, 1, 0, 0, 0);
        due.is("0 or 1 with 2 is 10 at most: the last day alone is dry", x.order(7, -1), 24);
        due.is("first by streets", x.order(7, 0), 0);
        due.is("then 2: 10 are enough", x.order(7, 1), 2);
        due.is("last", x.order(7, 2), 1);
        due.is("no such", x.order(7, 3), -1);
        due.is("no such", x.order(7, -2), -1);
        due.is("no such", x.order(7, HIGH), -1);
        due.is("no such", x.order(7, LOW), -1);
        due.is("two that are too many", x.order(3, -1), 24);
        due.is("one", x.order(4, -1), 0);
        due.is("one", x.order(4, 0), 2);
        due.is("bits", x.order(8, -1), UNKNOWN);
        due.is("bits", x.order(LOW, -1), UNKNOWN);
        due.is("nothing was changed", x.count(3), 0);
        x.over(2);
        due.is("always", x.order(4, -1), NOT);
        due.is("with one that is always already", x.order(3, -1), 24);
        due.is("0", x.order(3, 0), 0);
        x.pump(3, 5, 0);
        due.is("three hours more on the first day", x.order(3, -1), 27);
        x.go(24);
        Due.rule(x, "hours 4 to 9; first turn;", 2);
        due.is("rules of DAY 1", x.order(3, -1), 27);
        x.go(24);
        due.is("rules of DAY 2: hours 3 to 5, and 6 to 9 for the turn ahead", x.order(3, -1), 24 + 7);
    }

    private static void orderOfSix() {
        due.part("promise 20, six and seven");
        WaterTown x = new WaterTown();
        for (int s = 0; s < 7; s++) {
            x.street(0, 10, 1, 0, 0, 0);
        }
        due.is("seven", x.order(127, -1), OUTSIDE);
        due.is("unknown ahead", x.order(255, -1), UNKNOWN);
        x.pump(5, 5, 5);
        due.is("an order is made anew when the pump is another", x.order(63, -1), 6);
        x.pump(5, 5, 100);
        due.is("and again", x.order(63, -1), 0);
        x.over(3);
        due.is("outside ahead of not", x.order(127, -1), OUTSIDE);
        due.is("six", x.order(119, -1), 0);
        int[] want = {0, 1, 2, 4, 5, 6};
        for (int i = 0; i < 6; i++) {
            due.is("by numbers", x.order(119, i), want[i]);
        }
        x.pump(0, 0, 45);
        due.is("with the one that is always, from the fourth day on", x.order(119, -1), 3);
        x.over(0);
        due.is("the first one is always", x.order(1, -1), NOT);
        due.is("with another", x.order(3, -1), NOT);
    }

    private static void cuts() {
        due.part("promise 21");
        WaterTown x = new WaterTown();
        x.pipe(0, 1, 1, 0);
        x.pipe(1, 2, 1, 0);
        x.pipe(2, 0, 1, 0);
        x.pipe(2, 3, 1, 0);
        x.street(0, 1, 1, 0, 0, 0);
        x.street(1, 1, 1, 0, 0, 0);
        x.street(2, 1, 1, 0, 0, 0);
        x.street(3, 1, 1, 0, 0, 0);
        due.is("none", x.cuts(0, 0), 0);
        due.is("a ring", x.cuts(1, 0), 0);
        due.is("two of it", x.cuts(3, 0), 2);
        due.is("two of it", x.cuts(5, 0), 2 | 4 | 8);
        due.is("one", x.cuts(8, 0), 8);
        x.map(3, 1, 3);
        due.is("by the map", x.cuts(3, 1), 2 | 8);
        due.is("as it is", x.cuts(3, 0), 2);
        x.shut(1, true);
        due.is("with those shut already", x.cuts(1, 0), 2);
        due.is("by the map likewise", x.cuts(1, 1), 2 | 8);
        due.is("one shut already", x.cuts(2, 0), 0);
        due.is("valves stay", x.count(5), 1);
        due.is("bits", x.cuts(16, 0), UNKNOWN);
        due.is("bits", x.cuts(-1, 5), UNKNOWN);
        due.is("what", x.cuts(0, 2), OUTSIDE);
        due.is("what", x.cuts(0, -1), OUTSIDE);
    }

    private static void wrong() {
        due.part("promise 22");
        WaterTown x = new WaterTown();
        x.pipe(0, 1, 1, 0);
        x.pipe(1, 2, 1, 0);
        x.pipe(4, 5, 1, 0);
        due.is("no streets", x.wrong(), 0);
        x.street(2, 1, 1, 0, 0, 0);
        due.is("its own", x.wrong(), 0);
        x.map(1, 0, 2);
        due.is("pipe 0 would not cut it off", x.wrong(), 1);
        x.map(0, 0, 2);
        due.is("nor pipe 1", x.wrong(), 3);
        x.map(0, 1, 0);
        x.map(1, 2, 1);
        x.map(2, 1, 2);
        due.is("a second way that is not there", x.wrong(), 2);
        x.shut(0, true);
        due.is("valves do not matter", x.wrong(), 2);
        x.map(2, 7, 8);
        due.is("elsewhere: no street is cut off otherwise", x.wrong(), 0);
        x.street(5, 1, 1, 0, 0, 0);
        due.is("cut off by both", x.wrong(), 0);
        x.map(2, 0, 5);
        due.is("by the map it is joined but by pipe 2 itself", x.wrong(), 3);
    }
}
