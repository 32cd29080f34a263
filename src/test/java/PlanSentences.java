import java.util.List;
import java.util.function.Consumer;

/** The fourth part of the terms, and promises 19 to 22: orders of changing over, draws, cuts, a wrong map. */
final class PlanSentences {
    private static final int NONE = Page.NONE, UNKNOWN = Page.UNKNOWN, OUTSIDE = Page.OUTSIDE, NOT = Page.NOT;
    private static final int LOW = Page.LOW, HIGH = Page.HIGH;

    private final Page page;

    PlanSentences(Page page) {
        this.page = page;
    }

    void all() {
        page.in("4");
        changedOver();
        orderOfSet();
        leastSum();
        overAllDays();
        alwaysDry();
        byItself();
        anewByEachChange();
        anewByTwoChanges();
        byThen();
        drawBeside();
        drawAhead();
        getLess();
        shut();
        byMap();
        wrongMap();
        draw();
        order();
        cuts();
        wrong();
    }

    private void ordered(WaterTown x, int set, int sum, int... streets) {
        page.is("sum of " + set, x.order(set, NONE), sum);
        for (int i = 0; i < streets.length; i++) {
            page.is("order of " + set + ", " + i, x.order(set, i), streets[i]);
        }
        page.is("order of " + set + " ends", x.order(set, streets.length), NONE);
    }

    private void changedOver() {
        page.says("CHANGED OVER are STREETS of KIND TURN: they become ALWAYS.");
        WaterTown x = new WaterTown();
        x.street(0, 1, 1, 0, 0, 0);
        x.street(0, 1, 1, 0, 0, 1);
        page.is("a TURN one in a set", x.order(1, NONE), 0);
        page.is("an ALWAYS one in a set", x.order(2, NONE), NOT);
        page.is("TURN", x.over(0), 1);
        page.is("it became ALWAYS", x.told(0, 1), 1);
        page.is("ALWAYS", x.over(1), NOT);
        page.is("no more in a set", x.order(1, NONE), NOT);
    }

    private void orderOfSet() {
        page.says("THE ORDER of a SET of them (6 at most), one a DAY:");
        WaterTown x = new WaterTown();
        for (int s = 0; s < 10; s++) {
            x.street(s, 1, 1, 0, 0, 0);
        }
        ordered(x, 0, 0);
        ordered(x, 512, 24, 9);
        // Street 0 stands at the pump; each other is dry in all hours from its day on.
        ordered(x, 63, 5 * 24, 0, 1, 2, 3, 4, 5);
        ordered(x, 1 | 32 | 64 | 128 | 256 | 512, 5 * 24, 0, 5, 6, 7, 8, 9);
        ordered(x, 63 << 4, 6 * 24, 4, 5, 6, 7, 8, 9);
        page.is("seven", x.order(127, NONE), OUTSIDE);
        page.is("ten", x.order(1023, 0), OUTSIDE);
        page.is("all are TURN still", x.count(3), 0);
    }

    private void leastSum() {
        page.says("the first by STREETS for which the sum, over all DAYS of it, of hours in which some ALWAYS STREET is DRY, is least;");
        WaterTown x = new WaterTown();
        x.pump(0, 23, 10);
        x.street(0, 6, 1, 0, 0, 0);
        x.street(0, 5, 1, 0, 0, 0);
        x.street(0, 4, 1, 0, 0, 0);
        ordered(x, 7, 24, 0, 2, 1);
        ordered(x, 3, 24, 0, 1);
        ordered(x, 6, 0, 1, 2);
        x.pump(0, 23, 4);
        ordered(x, 7, 48, 2, 0, 1);
        x.pump(0, 23, 3);
        ordered(x, 7, 72, 0, 1, 2);
        WaterTown y = new WaterTown();
        y.pump(0, 23, 12);
        Due.rule(y, "first turn; hours 0 to 23;", 0);
        y.street(0, 5, 1, 0, 0, 0);
        y.street(0, 2, 1, 0, 999, 0);
        y.street(0, 5, 1, 0, 0, 1);
        // While street 1 fills its cistern ahead of all, street 2 has nothing.
        ordered(y, 3, 0, 1, 0);
        ordered(y, 1, 24, 0);
        ordered(y, 2, 0, 1);
    }

    private void overAllDays() {
        page.says("the sum, over all DAYS of it,");
        WaterTown x = new WaterTown();
        x.pump(0, 23, 8);
        x.street(0, 5, 1, 0, 999, 0);
        x.street(0, 2, 1, 0, 0, 0);
        x.street(0, 1, 1, 0, 0, 0);
        x.street(0, 3, 1, 0, 0, 1);
        // Street 0 fits in beside 3 alone, 1 and 2 fit in together: 0 on the first day would cost a day more.
        ordered(x, 7, 24, 1, 2, 0);
        ordered(x, 3, 24, 0, 1);
        x.pump(6, 8, 11);
        Due.rule(x, "first turn;", 0);
        // 0 is the best of the first day, at no cost: 0 and 21 and 21. While it is TURN it takes all from 6 to 8: 3 and 3 and 21.
        page.is("0 alone", x.order(1, NONE), 0);
        page.is("1 alone", x.order(2, NONE), 3);
        ordered(x, 7, 27, 1, 2, 0);
    }

    private void alwaysDry() {
        page.says("of hours in which some ALWAYS STREET is DRY,");
        WaterTown x = new WaterTown();
        x.street(0, 1, 1, 0, 0, 0);
        x.street(9, 1, 1, 0, 0, 0);
        page.is("a TURN one is DRY: that does not count", x.order(1, NONE), 0);
        page.is("the empty set has no DAY", x.order(0, NONE), 0);
        x.street(9, 1, 1, 0, 0, 1);
        page.is("an ALWAYS one is DRY that is not of the set", x.order(1, NONE), 24);
        page.is("two are DRY: an hour is one", x.order(2, NONE), 24);
        page.is("the empty set has no DAY", x.order(0, NONE), 0);
        ordered(x, 3, 48, 0, 1);
    }

    private void byItself() {
        page.says("each DAY is tried by itself: 24 hours from hour 0 of DAY NOW / 24 by its RULES, CISTERNS empty at first,");
        WaterTown x = new WaterTown();
        x.pump(3, 4, 0);
        x.street(0, 5, 1, 0, 99, 0);
        x.street(0, 2, 1, 0, 0, 0);
        x.go(9);
        page.is("its cistern is full now", x.told(0, 2), 99);
        page.is("yet empty at first, and hours 3 and 4 are of it", x.order(1, NONE), 2);
        ordered(x, 3, 4, 0, 1);
        page.is("its cistern is full still", x.told(0, 2), 99);
        page.is("NOW", x.count(0), 9);
        WaterTown y = new WaterTown();
        y.pump(0, 23, 5);
        y.street(0, 4, 1, 0, 0, 0);
        y.street(0, 4, 1, 0, 0, 0);
        Due.rule(y, "hours 0 to 11; first turn;", 1);
        page.is("DAY 0", y.order(1, NONE), 0);
        ordered(y, 3, 24, 0, 1);
        y.go(23);
        ordered(y, 3, 24, 0, 1);
        y.go(1);
        page.is("DAY 1: the TURN one is ahead in 12 hours", y.order(1, NONE), 12);
        ordered(y, 3, 12 + 24, 0, 1);
        y.go(23);
        page.is("DAY 1 still", y.order(1, NONE), 12);
        Due.rule(y, "strike 0;", 2);
        page.is("DAY 1 still", y.order(1, NONE), 12);
        y.go(1);
        page.is("DAY 2", y.order(1, NONE), 0);
    }

    /** The order is asked for, then one thing is changed, then it is asked for again. */
    private void anewByEachChange() {
        page.says("each DAY is tried by itself:");
        WaterTown x = new WaterTown();
        x.street(1, 5, 1, 0, 0, 0);
        page.is("not joined", x.order(1, NONE), 24);
        x.pipe(0, 1, 9, 0);
        page.is("a PIPE", x.order(1, NONE), 0);
        x.shut(0, true);
        page.is("a VALVE", x.order(1, NONE), 24);
        x.shut(0, false);
        page.is("a VALVE", x.order(1, NONE), 0);
        x.leak(0, 96);
        page.is("a LEAK", x.order(1, NONE), 24);
        x.pump(0, 22, 101);
        page.is("THE PUMP", x.order(1, NONE), 1);
        x.street(0, 9, 1, 0, 0, 0);
        page.is("a STREET that is TURN", x.order(1, NONE), 1);
        Due.rule(x, "first turn; hours 0 to 9;", 0);
        page.is("a RULE", x.order(1, NONE), 11);
        Due.rule(x, "strike 0;", 1);
        page.is("a RULE of a later DAY", x.order(1, NONE), 11);
        x.go(24);
        page.is("a DAY", x.order(1, NONE), 1);
        x.street(0, 1, 1, 0, 0, 1);
        page.is("a STREET that is ALWAYS, behind", x.order(1, NONE), 24);
        x.leak(0, 0);
        page.is("a LEAK", x.order(1, NONE), 0);
        x.pump(5, 5, 9);
        page.is("THE PUMP", x.order(1, NONE), 0);
        x.over(1);
        page.is("KINDS", x.order(1, NONE), 1);
        page.is("another SET", x.order(0, NONE), 0);
        page.is("and the first again", x.order(1, 0), 0);
    }

    /** Street 0 has just enough as long as nothing is changed. */
    private static WaterTown justEnough() {
        WaterTown x = new WaterTown();
        x.pump(0, 23, 54);
        x.pipe(0, 1, 9, 0);
        x.street(1, 5, 1, 0, 0, 0);
        x.street(0, 50, 1, 0, 0, 0);
        Due.rule(x, "hours 0 to 5; first turn;", 1);
        return x;
    }

    private void anewByTwoChanges() {
        page.says("each DAY is tried by itself: 24 hours from hour 0 of DAY NOW / 24 by its RULES,");
        List<Consumer<WaterTown>> changes = List.of(x -> x.pipe(0, 3, 1, 50), x -> x.shut(0, true), x -> x.leak(0, 50),
                x -> x.pump(0, 11, 4), x -> x.street(0, 50, 1, 0, 0, 1), x -> x.over(1), x -> x.go(24),
                x -> Due.rule(x, "hours 0 to 23; first turn;", 0));
        for (int a = 0; a < changes.size(); a++) {
            for (int b = 0; b < changes.size(); b++) {
                WaterTown x = justEnough();
                page.is("just enough", x.order(1, NONE), 0);
                WaterTown y = justEnough();
                for (int c : a == b ? new int[] {a} : new int[] {a, b}) {
                    changes.get(c).accept(x);
                    changes.get(c).accept(y);
                }
                int due = y.order(1, NONE);
                page.is("not enough by " + a + " and " + b, due > 0 ? 1 : 0, 1);
                page.is("asked for ahead of " + a + " and " + b, x.order(1, NONE), due);
            }
        }
    }

    private void byThen() {
        page.says("with those that were changed by then (the first one on the first DAY).");
        WaterTown x = new WaterTown();
        x.pump(0, 23, 10);
        for (int s = 0; s < 6; s++) {
            x.street(0, 5, 1, 0, 0, 0);
        }
        for (int size = 1; size <= 6; size++) {
            page.is("from the third DAY on of " + size, x.order((1 << size) - 1, NONE), 24 * Math.max(0, size - 2));
        }
        x.pump(0, 23, 4);
        page.is("on the first DAY, too", x.order(32, NONE), 24);
        x.over(0);
        page.is("beside those that were ALWAYS", x.order(2, NONE), 24);
        x.pump(0, 23, 9);
        page.is("beside those that were ALWAYS", x.order(2, NONE), 24);
        x.pump(0, 23, 10);
        page.is("enough for two", x.order(2, NONE), 0);
    }

    private void drawBeside() {
        page.says("DRAW at a NODE in an hour of a DAY: with what streets ASK (CISTERNS as they are now) as in 3, the most that can flow "
                + "there beside all that they get (what = 0);");
        WaterTown x = new WaterTown();
        x.pump(0, 23, 50);
        x.pipe(0, 1, 30, 3);
        x.pipe(1, 2, 20, 4);
        x.street(2, 5, 1, 1, 8, 0);
        page.is("TURN is off: bore 20", x.draw(2, 0, 0), 20);
        page.is("TURN asks 14", x.draw(2, 6, 0), 6);
        page.is("at node 1", x.draw(1, 6, 0), 30 - 4 - 14);
        page.is("at node 0", x.draw(0, 6, 0), 50 - 3 - 4 - 14);
        x.go(7);
        page.is("its cistern is full: it asks 6", x.draw(2, 6, 0), 14);
        page.is("hour 8", x.draw(2, 8, 0), 14);
        page.is("hour 9", x.draw(2, 9, 0), 20);
        x.pump(8, 8, 5);
        page.is("LEAKS take 7 of 5", x.draw(0, 8, 0), 0);
        x.pump(8, 8, 9999);
        page.is("all but LEAKS and 6", x.draw(0, 8, 0), 9999 - 7 - 6);
        page.is("nothing is drawn in truth", x.count(0), 7);
        Due.rule(x, "hours 9 to 9;", 0);
        page.is("by RULES of its DAY", x.draw(2, 9, 0), 14);
        page.is("by RULES of its DAY", x.draw(2, 8, 0), 20);
    }

    private void drawAhead() {
        page.says("ahead of all but LEAKS (1);");
        WaterTown x = new WaterTown();
        x.pump(0, 23, 50);
        x.pipe(0, 1, 30, 3);
        x.pipe(1, 2, 20, 4);
        x.street(1, 9, 1, 0, 0, 1);
        x.street(2, 9, 1, 0, 0, 1);
        page.is("at node 2", x.draw(2, 0, 1), 20);
        page.is("at node 1", x.draw(1, 0, 1), 26);
        page.is("at node 0", x.draw(0, 0, 1), 43);
        page.is("at node 3", x.draw(3, 0, 1), 0);
        x.leak(0, 99);
        page.is("LEAKS take all", x.draw(0, 0, 1), 0);
    }

    private void getLess() {
        page.says("and the SET of STREETS that get less by the latter (2).");
        WaterTown x = new WaterTown();
        x.pump(0, 23, 30);
        x.pipe(0, 1, 10, 0);
        x.pipe(0, 2, 10, 0);
        x.street(0, 9, 1, 0, 0, 1);
        x.street(1, 5, 1, 0, 0, 1);
        x.street(2, 5, 1, 0, 0, 0);
        page.is("at node 1: street 1", x.draw(1, 6, 2), 2);
        page.is("at node 2: street 2, if water is on", x.draw(2, 6, 2), 4);
        page.is("at node 2: none, if it is off", x.draw(2, 0, 2), 0);
        page.is("at node 0: all with water on", x.draw(0, 6, 2), 7);
        page.is("at node 0: all with water on", x.draw(0, 0, 2), 3);
        page.is("at node 9: none", x.draw(9, 6, 2), 0);
        x.pump(0, 23, 24);
        page.is("10 at node 1, 14 are left: 9, none, 5", x.draw(1, 6, 2), 2);
        x.pump(0, 23, 19);
        page.is("10 at node 1, 9 are left: for street 0", x.draw(1, 6, 2), 2 | 4);
        x.pump(0, 23, 14);
        page.is("10 at node 1, 4 are left; street 2 had none before", x.draw(1, 6, 2), 1 | 2);
        x.pump(0, 23, 0);
        page.is("nobody has less than nothing", x.draw(0, 6, 2), 0);
    }

    /** A ring 0 1 2 3 with node 4 behind 3; streets 0 to 4 at nodes 0 to 4. */
    private static WaterTown ring() {
        WaterTown x = new WaterTown();
        x.pipe(0, 1, 1, 0);
        x.pipe(1, 2, 1, 0);
        x.pipe(2, 3, 1, 0);
        x.pipe(3, 0, 1, 0);
        x.pipe(3, 4, 1, 0);
        for (int s = 0; s < 5; s++) {
            x.street(s, 1, 1, 0, 0, s % 2);
        }
        return x;
    }

    private void shut() {
        page.says("SHUT two PIPES or one (a SET, with those SHUT already): the SET of STREETS that are not joined to NODE 0 by OPEN PIPES then;");
        WaterTown x = ring();
        for (int p = 0; p < 4; p++) {
            page.is("one of the ring", x.cuts(1 << p, 0), 0);
        }
        page.is("the one behind it", x.cuts(16, 0), 16);
        page.is("two of the ring", x.cuts(1 | 2, 0), 2);
        page.is("two of the ring", x.cuts(1 | 4, 0), 2 | 4);
        page.is("two of the ring", x.cuts(1 | 8, 0), 2 | 4 | 8 | 16);
        page.is("two of the ring", x.cuts(4 | 8, 0), 8 | 16);
        page.is("one of it, and the one behind", x.cuts(2 | 16, 0), 16);
        page.is("none", x.cuts(0, 0), 0);
        page.is("all", x.cuts(31, 0), 2 | 4 | 8 | 16);
        x.shut(0, true);
        page.is("with one SHUT already", x.cuts(8, 0), 2 | 4 | 8 | 16);
        page.is("one SHUT already, again", x.cuts(1, 0), 0);
        page.is("none, with one SHUT already", x.cuts(0, 0), 0);
        x.shut(1, true);
        page.is("none, with two SHUT already", x.cuts(0, 0), 2);
        page.is("valves are as they were", x.count(5), 2);
        x.shut(0, false);
        page.is("OPEN again", x.cuts(0, 0), 0);
    }

    private void byMap() {
        page.says("by THE MAP likewise: by what it tells.");
        WaterTown x = ring();
        page.is("as it is", x.cuts(1 | 4, 1), 2 | 4);
        x.map(4, 1, 4);
        page.is("node 4 is behind 1 by it", x.cuts(4 | 8, 1), 8);
        page.is("node 4 is behind 3", x.cuts(4 | 8, 0), 8 | 16);
        page.is("node 4 is behind 1 by it", x.cuts(1 | 2, 1), 2 | 16);
        x.shut(0, true);
        page.is("with those SHUT already", x.cuts(2, 1), 2 | 16);
        page.is("none more", x.cuts(0, 1), 0);
        x.map(0, 8, 9);
        x.map(1, 8, 9);
        page.is("nobody leads to 1", x.cuts(0, 1), 2 | 16);
        page.is("as it is", x.cuts(0, 0), 0);
    }

    private void wrongMap() {
        page.says("WRONG is THE MAP for a PIPE, if that PIPE SHUT alone (all others OPEN) cuts off other STREETS than by it.");
        WaterTown x = ring();
        page.is("its own", x.wrong(), 0);
        x.map(4, 1, 4);
        page.is("like ones are cut off", x.wrong(), 0);
        x.map(4, 4, 3);
        x.map(1, 8, 9);
        // By it the ring is open between 1 and 2: 0, 2 and 3 would cut off somebody.
        page.is("the ring is open by it", x.wrong(), 1 | 4 | 8);
        x.shut(0, true);
        x.shut(3, true);
        page.is("all others are taken as OPEN", x.wrong(), 1 | 4 | 8);
        x.map(1, 1, 2);
        x.map(4, 8, 9);
        page.is("street 4 is not joined by it: 4 itself cuts it off in truth", x.wrong(), 1 | 2 | 4 | 8);
        WaterTown y = new WaterTown();
        y.pipe(0, 1, 1, 0);
        y.pipe(0, 2, 1, 0);
        y.street(1, 1, 1, 0, 0, 1);
        y.street(2, 1, 1, 0, 0, 1);
        y.map(0, 0, 2);
        y.map(1, 0, 1);
        page.is("as many STREETS, but others", y.wrong(), 3);
    }

    private void draw() {
        page.in("promise 19");
        page.says("DRAW at a NODE (0 .. 9) in an hour.");
        WaterTown x = new WaterTown();
        x.pipe(0, 9, 7, 0);
        page.is("NODE 0, hour 0", x.draw(0, 0, 0), 100);
        page.is("NODE 9, hour 23", x.draw(9, 23, 1), 7);
        page.is("NODE 9, the SET", x.draw(9, 23, 2), 0);
        page.says("UNKNOWN, OUTSIDE.");
        for (int node : new int[] {-1, 10, LOW, HIGH}) {
            page.is("node " + node, x.draw(node, 0, 0), UNKNOWN);
            page.is("node " + node + ", hour 24, what 3", x.draw(node, 24, 3), UNKNOWN);
        }
        for (int hour : new int[] {-1, 24, LOW, HIGH}) {
            page.is("hour " + hour, x.draw(0, hour, 0), OUTSIDE);
        }
        for (int what : new int[] {-1, 3, LOW, HIGH}) {
            page.is("what " + what, x.draw(0, 0, what), OUTSIDE);
        }
    }

    private void order() {
        page.in("promise 20");
        page.says("THE ORDER: i = NONE the sum, else the i-th STREET of it; NONE: there is none such.");
        WaterTown x = new WaterTown();
        for (int s = 0; s < 8; s++) {
            x.street(s == 7 ? 9 : 0, 1, 1, 0, 0, s == 6 ? 1 : 0);
        }
        ordered(x, 128 | 32 | 1, 24, 0, 5, 7);
        for (int i : new int[] {3, 6, -2, LOW, HIGH}) {
            page.is("no such i: " + i, x.order(128 | 32 | 1, i), NONE);
        }
        page.is("none of none", x.order(0, 0), NONE);
        page.is("the sum of none", x.order(0, NONE), 0);
        page.says("UNKNOWN (bits), OUTSIDE (more than 6), NOT: one is ALWAYS.");
        for (int set : new int[] {256, 257, 1 << 10, 1 << 30, LOW, -1, HIGH}) {
            page.is("set " + set, x.order(set, NONE), UNKNOWN);
            page.is("set " + set, x.order(set, 0), UNKNOWN);
        }
        page.is("seven TURN ones", x.order(63 | 128, NONE), OUTSIDE);
        page.is("eight, one of them ALWAYS", x.order(255, 0), OUTSIDE);
        page.is("ALWAYS", x.order(64, NONE), NOT);
        page.is("six with an ALWAYS one", x.order(31 | 64, 0), NOT);
        page.is("no such i of it", x.order(64, 9), NOT);
        page.is("six", x.order(63, NONE), 0);
    }

    private void cuts() {
        page.in("promise 21");
        page.says("STREETS that a SET of PIPES cuts off: what = 0 as they are, 1 by THE MAP.");
        WaterTown x = ring();
        x.map(4, 0, 4);
        page.is("as they are", x.cuts(4 | 8, 0), 8 | 16);
        page.is("by THE MAP", x.cuts(4 | 8, 1), 8);
        WaterTown full = TermSentences.full();
        page.is("all twenty pipes: all streets but that at the pump", full.cuts((1 << 20) - 1, 0), 1022);
        page.is("by THE MAP, too", full.cuts((1 << 20) - 1, 1), 1022);
        page.says("UNKNOWN (bits), OUTSIDE.");
        page.is("bit 20", full.cuts(1 << 20, 0), UNKNOWN);
        for (int set : new int[] {32, 33, LOW, -1, HIGH}) {
            page.is("set " + set, x.cuts(set, 0), UNKNOWN);
            page.is("set " + set + " and what 2", x.cuts(set, 2), UNKNOWN);
        }
        for (int what : new int[] {-1, 2, LOW, HIGH}) {
            page.is("what " + what, x.cuts(0, what), OUTSIDE);
        }
    }

    private void wrong() {
        page.in("promise 22");
        page.says("The SET of PIPES for which THE MAP is WRONG.");
        page.is("no PIPES", new WaterTown().wrong(), 0);
        WaterTown x = new WaterTown();
        for (int p = 0; p < 20; p++) {
            x.pipe(0, 1 + p % 9, 1, 0);
        }
        page.is("no STREETS", x.wrong(), 0);
        x.street(1, 1, 1, 0, 0, 0);
        page.is("three lead to it", x.wrong(), 0);
        x.map(0, 8, 9);
        x.map(9, 8, 9);
        page.is("one by THE MAP: the last", x.wrong(), 1 << 18);
        x.map(18, 2, 3);
        page.is("none by THE MAP: for all", x.wrong(), (1 << 20) - 1);
        x.map(18, 1, 9);
        page.is("by node 9 now, where pipes 8 and 17 lead to", x.wrong(), 1 << 18);
    }
}
