/** The third part of the terms, and promises 16 to 18: an hour, who asks, who gets, who is dry. */
final class HourSentences {
    private static final int NONE = Page.NONE, UNKNOWN = Page.UNKNOWN, OUTSIDE = Page.OUTSIDE, NOT = Page.NOT;
    private static final int LOW = Page.LOW, HIGH = Page.HIGH;

    private final Page page;

    HourSentences(Page page) {
        this.page = page;
    }

    void all() {
        page.in("3");
        byRules();
        asked();
        leaksAsked();
        leaksFirst();
        inLine();
        keyAlways();
        keyTurn();
        keySmall();
        keyFar();
        likeOnes();
        most();
        boreAndPump();
        takes();
        fromCistern();
        dry();
        alwaysCistern();
        go();
        goRefused();
        flow();
        flowRefused();
        line();
    }

    private void line(WaterTown x, int hour, int... streets) {
        for (int i = 0; i < streets.length; i++) {
            page.is("line of hour " + hour + ", " + i, x.line(hour, i), streets[i]);
        }
        page.is("line of hour " + hour + " ends", x.line(hour, streets.length), NONE);
    }

    private void byRules() {
        page.says("AN HOUR, by RULES of its DAY.");
        WaterTown x = new WaterTown();
        x.street(0, 1, 1, 0, 0, 0);
        Due.rule(x, "hours 23 to 23;", 0);
        Due.rule(x, "hours 0 to 0;", 1);
        Due.rule(x, "strike 1;", 2);
        page.is("hours 0 to 22 of DAY 0", x.go(23), 23);
        page.is("hour 23 of DAY 0 and hour 0 of DAY 1", x.go(2), 0);
        page.is("hours 1 to 23 of DAY 1, hours 0 to 22 of DAY 2", x.go(46), 46);
        page.is("hour 23 of DAY 2", x.go(1), 0);
        page.is("hour 0 of DAY 3", x.go(1), 1);
    }

    private void asked() {
        page.says("ASKED by a STREET, if water is on: ALWAYS: n q and WASTE;");
        WaterTown x = new WaterTown();
        x.street(0, 2, 3, 1, 10, 0);
        x.street(0, 2, 3, 1, 10, 1);
        x.pump(6, 8, 19);
        page.is("ALWAYS", x.flow(0, 1, 0), 7);
        page.is("ALWAYS", x.flow(6, 1, 0), 7);
        page.says("TURN: n q, WASTE and what its CISTERN lacks.");
        page.is("off", x.flow(5, 0, 0), 0);
        page.is("empty", x.flow(6, 0, 0), 17);
        page.is("off", x.flow(9, 0, 0), 0);
        x.go(7);
        page.is("12 came: half of it", x.flow(7, 0, 0), 12);
        x.go(1);
        page.is("12 more: it is full", x.flow(8, 0, 0), 7);
        page.is("ALWAYS as before", x.flow(8, 1, 0), 7);
        x.go(2);
        page.is("6 were used", x.flow(6, 0, 0), 13);
    }

    private void leaksAsked() {
        page.says("LEAKS of OPEN PIPES are asked at their first NODES.");
        WaterTown x = new WaterTown();
        x.pipe(0, 1, 3, 0);
        x.pipe(1, 2, 9, 50);
        page.is("at node 1", x.flow(0, NONE, 2), 3);
        page.is("with water, off or on", x.flow(6, NONE, 2), 3);
        x.shut(0, true);
        page.is("nothing comes there", x.flow(0, NONE, 2), 0);
        x.pipe(0, 2, 7, 0);
        page.is("by the pipe itself, to its first node", x.flow(0, NONE, 2), 7);
        x.shut(1, true);
        page.is("SHUT", x.flow(0, NONE, 2), 0);
        x.pipe(0, 9, 1, 60);
        page.is("at the pump, of a pipe that leads nowhere", x.flow(0, NONE, 2), 60);
    }

    private void leaksFirst() {
        page.says("What flows to whom: first LEAKS by PIPES, one by one;");
        WaterTown x = new WaterTown();
        x.pump(0, 23, 20);
        x.pipe(1, 0, 15, 9);
        x.pipe(2, 0, 15, 9);
        x.street(0, 5, 1, 0, 0, 1);
        page.is("LEAKS", x.flow(0, NONE, 2), 18);
        page.is("what they leave", x.flow(0, 0, 1), 2);
        x.pump(0, 23, 18);
        page.is("nothing is left", x.flow(0, 0, 1), 0);
        x.pump(0, 23, 17);
        page.is("no more than there is", x.flow(0, NONE, 2), 17);
        x.pump(0, 23, 0);
        page.is("none", x.flow(0, NONE, 3), 0);
    }

    private void inLine() {
        page.says("then STREETS with water on, in THE LINE:");
        WaterTown x = new WaterTown();
        x.pump(0, 23, 12);
        for (int s = 0; s < 3; s++) {
            x.street(0, 5, 1, 0, 0, s == 2 ? 1 : 0);
        }
        line(x, 5, 2);
        line(x, 6, 2, 0, 1);
        int[] got = {5, 2, 5};
        for (int s = 0; s < 3; s++) {
            page.is("street " + s, x.flow(6, s, 1), got[s]);
        }
        Due.rule(x, "first turn;", 0);
        line(x, 6, 0, 1, 2);
        page.is("the last has the rest", x.flow(6, 2, 1), 2);
        page.is("those without water on get none", x.flow(5, NONE, 3), 5);
    }

    /** Streets 0 TURN, 1 ALWAYS, 2 TURN, 3 ALWAYS, all at node 0 and alike, water always on. */
    private static WaterTown mixed(String first) {
        WaterTown x = new WaterTown();
        for (int s = 0; s < 4; s++) {
            x.street(0, 5, 1, 0, 0, s % 2);
        }
        Due.rule(x, "hours 0 to 23; first " + first + ";", 0);
        return x;
    }

    private void keyAlways() {
        page.says("by keys of first (always: those ahead that are;");
        line(mixed("always"), 0, 1, 3, 0, 2);
        line(mixed("always, turn"), 0, 1, 3, 0, 2);
        line(mixed("small, always"), 0, 1, 3, 0, 2);
        WaterTown x = mixed("always");
        x.over(2);
        line(x, 0, 1, 2, 3, 0);
    }

    private void keyTurn() {
        page.says("turn: those that are TURN;");
        line(mixed("turn"), 0, 0, 2, 1, 3);
        line(mixed("turn, always"), 0, 0, 2, 1, 3);
        line(mixed("far, small, turn, always"), 0, 0, 2, 1, 3);
        WaterTown x = mixed("turn");
        x.over(0);
        line(x, 0, 2, 0, 1, 3);
    }

    private void keySmall() {
        page.says("small: the lesser ASKED;");
        WaterTown x = new WaterTown();
        Due.rule(x, "first small;", 0);
        x.street(0, 5, 2, 0, 0, 1);
        x.street(0, 3, 3, 0, 0, 1);
        x.street(0, 2, 3, 5, 0, 1);
        x.street(0, 8, 1, 0, 3, 0);
        line(x, 0, 1, 0, 2);
        line(x, 6, 1, 0, 2, 3);
        x.go(7);
        page.is("its cistern lacks nothing now", x.flow(7, 3, 0), 8);
        line(x, 7, 3, 1, 0, 2);
        Due.rule(x, "first turn, small;", 0);
        x.go(15);
        page.is("it lacks 3 again", x.flow(6, 3, 0), 11);
        line(x, 6, 3, 1, 0, 2);
    }

    private void keyFar() {
        page.says("far: the more PIPES on the fewest from NODE 0 by OPEN ones, those that are not joined last of all;");
        WaterTown x = new WaterTown();
        Due.rule(x, "first far;", 0);
        for (int k = 0; k < 9; k++) {
            x.pipe(k, k + 1, 1, 0);
        }
        for (int k = 0; k < 10; k++) {
            x.street(k, 1, 1, 0, 0, 1);
        }
        line(x, 0, 9, 8, 7, 6, 5, 4, 3, 2, 1, 0);
        x.shut(8, true);
        line(x, 0, 8, 7, 6, 5, 4, 3, 2, 1, 0, 9);
        x.pipe(9, 0, 1, 0);
        line(x, 0, 8, 7, 6, 5, 4, 3, 2, 1, 9, 0);
        x.shut(8, false);
        // A ring of ten: node 5 is five pipes away, 4 and 6 four, and so on.
        line(x, 0, 5, 4, 6, 3, 7, 2, 8, 1, 9, 0);
        x.map(4, 0, 5);
        line(x, 0, 5, 4, 6, 3, 7, 2, 8, 1, 9, 0);
        x.shut(0, true);
        x.shut(9, true);
        line(x, 0, 0, 1, 2, 3, 4, 5, 6, 7, 8, 9);
        x.shut(0, false);
        x.shut(3, true);
        line(x, 0, 3, 2, 1, 0, 4, 5, 6, 7, 8, 9);
    }

    private void likeOnes() {
        page.says("of like ones the lesser number):");
        line(mixed("far"), 0, 0, 1, 2, 3);
        line(mixed("small"), 0, 0, 1, 2, 3);
        line(mixed("small, far"), 0, 0, 1, 2, 3);
        WaterTown x = new WaterTown();
        for (int s = 0; s < 10; s++) {
            x.street(9 - s, 1, 1, 0, 0, 1);
        }
        line(x, 0, 0, 1, 2, 3, 4, 5, 6, 7, 8, 9);
        Due.rule(x, "first always, far, small;", 0);
        line(x, 0, 9, 0, 1, 2, 3, 4, 5, 6, 7, 8);
    }

    private void got(WaterTown x, int hour, int... want) {
        for (int s = 0; s < want.length; s++) {
            page.is("GOT by " + s, x.flow(hour, s, 1), want[s]);
        }
    }

    private void most() {
        page.says("each gets the most that can flow to it besides what all ahead of it get, by OPEN PIPES,");
        WaterTown x = new WaterTown();
        x.pipe(0, 1, 10, 0);
        x.pipe(0, 2, 10, 0);
        x.pipe(1, 3, 10, 0);
        x.pipe(2, 3, 10, 0);
        x.street(3, 10, 1, 0, 0, 1);
        x.street(1, 10, 1, 0, 0, 1);
        x.street(2, 10, 1, 0, 0, 1);
        got(x, 0, 10, 10, 0);
        x.shut(2, true);
        got(x, 0, 10, 10, 0);
        x.shut(2, false);
        x.shut(3, true);
        got(x, 0, 10, 0, 10);
        x.shut(3, false);
        x.pipe(1, 2, 10, 0);
        x.shut(1, true);
        got(x, 0, 10, 0, 0);
        x.shut(0, true);
        got(x, 0, 0, 0, 0);
        x.shut(1, false);
        got(x, 0, 10, 0, 0);
        goesRound();
        WaterTown y = new WaterTown();
        y.pipe(0, 1, 10, 4);
        y.pipe(1, 2, 7, 0);
        y.street(1, 5, 1, 0, 0, 1);
        y.street(2, 9, 1, 0, 0, 1);
        got(y, 0, 5, 5);
        y.street(2, 1, 1, 0, 0, 1);
        got(y, 0, 5, 5, 0);
    }

    private void goesRound() {
        WaterTown x = new WaterTown();
        x.pipe(0, 1, 10, 0);
        x.pipe(0, 2, 20, 0);
        x.pipe(1, 3, 10, 0);
        x.pipe(2, 3, 20, 0);
        x.street(3, 10, 1, 0, 0, 1);
        x.street(1, 20, 1, 0, 0, 1);
        // The first has its 10 by pipe 3 then, and pipe 2 carries 10 from 3 to 1.
        got(x, 0, 10, 20);
        x.shut(0, true);
        got(x, 0, 10, 10);
        page.is("beside them", x.draw(2, 0, 0), 0);
        x.shut(3, true);
        got(x, 0, 0, 0);
        x.shut(0, false);
        got(x, 0, 10, 0);
        WaterTown y = new WaterTown();
        y.pipe(0, 1, 9, 0);
        y.pipe(0, 2, 9, 0);
        y.pipe(2, 1, 9, 0);
        y.street(1, 3, 1, 0, 0, 1);
        got(y, 0, 3);
        y.shut(0, true);
        // The near way is closed, the far one is not.
        got(y, 0, 3);
        page.is("as much as the far way carries", y.draw(1, 0, 1), 9);
    }

    private void boreAndPump() {
        page.says("no more than BORE by each,");
        WaterTown x = new WaterTown();
        x.pump(0, 23, 9999);
        x.pipe(0, 1, 999, 0);
        x.pipe(1, 2, 998, 0);
        for (int s = 0; s < 3; s++) {
            x.street(2, 99, 9, 99, 0, 1);
        }
        got(x, 0, 990, 8, 0);
        x.pipe(2, 0, 1, 0);
        got(x, 0, 990, 9, 0);
        x.leak(1, 5);
        got(x, 0, 990, 5, 0);
        page.says("no more than THE PUMP gives in all. GOT.");
        x.leak(1, 0);
        x.pump(0, 0, 991);
        got(x, 0, 990, 1, 0);
        x.pump(0, 0, 990);
        got(x, 0, 990, 0, 0);
        x.pump(0, 0, 1);
        got(x, 0, 1, 0, 0);
        page.is("in all", x.flow(0, NONE, 3), 1);
        x.pump(0, 0, 0);
        got(x, 0, 0, 0, 0);
    }

    private void takes() {
        page.says("A STREET with water on takes WASTE from what it GOT first (as far as there is), then n q, then fills its CISTERN (TURN alone);");
        for (int v = 0; v <= 22; v++) {
            WaterTown x = new WaterTown();
            Due.rule(x, "hours 0 to 0;", 0);
            x.pump(0, 0, v);
            x.street(0, 3, 2, 4, 10, 0);
            x.go(1);
            page.is("GOT of " + v, x.told(0, 3), Math.min(v, 20));
            page.is("WASTE of " + v, x.told(0, 6), Math.min(v, 4));
            page.is("lacked with " + v, x.told(0, 5), 6 - Math.max(0, Math.min(v - 4, 6)));
            page.is("CISTERN with " + v, x.told(0, 2), Math.max(0, Math.min(v - 10, 10)));
        }
        for (int v = 0; v <= 12; v++) {
            WaterTown x = new WaterTown();
            x.pump(0, 0, v);
            x.street(0, 3, 2, 4, 10, 1);
            x.go(1);
            page.is("ALWAYS: GOT of " + v, x.told(0, 3), Math.min(v, 10));
            page.is("ALWAYS: CISTERN with " + v, x.told(0, 2), 0);
        }
    }

    private void fromCistern() {
        page.says("what n q lacks, and all of it if water is not on, comes from the CISTERN;");
        WaterTown x = new WaterTown();
        Due.rule(x, "hours 0 to 2;", 0);
        x.street(0, 3, 2, 4, 10, 0);
        x.pump(1, 1, 8);
        x.pump(2, 2, 0);
        x.go(1);
        page.is("full", x.told(0, 2), 10);
        x.go(1);
        page.is("8 came: 4 of WASTE, 4 used, 2 from it", x.told(0, 2), 8);
        x.go(1);
        page.is("water is on, none came: all 6 from it", x.told(0, 2), 2);
        page.is("not DRY", x.told(0, 4), 0);
        page.is("no WASTE from it", x.told(0, 6), 8);
        x.go(1);
        page.is("water is not on: the last 2", x.told(0, 2), 0);
        page.is("4 are lacking", x.told(0, 5), 4);
        x.go(1);
        page.is("all 6 are", x.told(0, 5), 10);
    }

    private void dry() {
        page.says("if that is not enough the STREET is DRY in that hour, by what it lacks.");
        for (int size = 10; size <= 13; size++) {
            WaterTown x = new WaterTown();
            Due.rule(x, "hours 0 to 0;", 0);
            x.street(0, 3, 2, 0, size, 0);
            x.street(9, 1, 1, 50, 0, 1);
            page.is("street 1 is DRY always", x.go(3), 3);
            page.is("size " + size + ": hours DRY", x.told(0, 4), size < 12 ? 1 : 0);
            page.is("size " + size + ": by", x.told(0, 5), Math.max(0, 12 - size));
            page.is("WASTE is not lacked", x.told(1, 5), 3);
        }
    }

    private void alwaysCistern() {
        page.says("(An ALWAYS one has a CISTERN, too, that is not filled.)");
        WaterTown x = new WaterTown();
        x.street(0, 5, 1, 0, 12, 0);
        x.go(9);
        page.is("full", x.told(0, 2), 12);
        x.over(0);
        x.pump(9, 11, 0);
        page.is("it serves in hours 9 and 10, in part in hour 11", x.go(3), 1);
        page.is("empty", x.told(0, 2), 0);
        page.is("lacked: 6 hours of 5, and 3", x.told(0, 5), 33);
        page.is("water is there again", x.go(24), 3);
        page.is("it is not filled", x.told(0, 2), 0);
        WaterTown y = new WaterTown();
        y.street(0, 5, 1, 0, 999, 1);
        y.go(24);
        page.is("never", y.told(0, 2), 0);
        page.is("it was not dry", y.count(9), 0);
    }

    private void go() {
        page.in("promise 16");
        page.says("n HOURS (0 .. 200) are stepped: in how many some STREET was DRY.");
        WaterTown x = new WaterTown();
        page.is("no STREET", x.go(200), 0);
        page.is("NOW", x.count(0), 200);
        x.street(0, 1, 1, 0, 0, 0);
        x.street(9, 1, 1, 0, 0, 0);
        page.is("none", x.go(0), 0);
        page.is("NOW", x.count(0), 200);
        page.is("one", x.go(1), 1);
        page.is("both DRY: an hour is one", x.go(10), 10);
        page.is("NOW", x.count(0), 211);
        page.is("in all", x.count(9), 11);
        page.is("street 1", x.told(1, 4), 11);
    }

    private void goRefused() {
        page.says("OUTSIDE; NOT: NOW would be above 4800.");
        WaterTown x = new WaterTown();
        for (int n : new int[] {-1, 201, LOW, HIGH, HIGH - 100}) {
            page.is("n " + n, x.go(n), OUTSIDE);
        }
        for (int k = 0; k < 23; k++) {
            x.go(200);
        }
        page.is("4600 and 199", x.go(199), 0);
        page.is("4799 and 2", x.go(2), NOT);
        page.is("4799 and 200", x.go(200), NOT);
        page.is("NOW", x.count(0), 4799);
        page.is("4799 and 1", x.go(1), 0);
        page.is("4800 and 1", x.go(1), NOT);
        page.is("4800 and 0", x.go(0), 0);
        page.is("4800 and 201", x.go(201), OUTSIDE);
        page.is("4800 and -1", x.go(-1), OUTSIDE);
        page.is("NOW", x.count(0), 4800);
    }

    private void flow() {
        page.in("promise 17");
        page.says("What would flow in an hour (0 .. 23) of DAY NOW / 24, CISTERNS as they are: to STREET s (what = 0 ASKED, 1 GOT; "
                + "0 both, if water is not on),");
        WaterTown x = new WaterTown();
        x.pump(0, 23, 15);
        x.pump(23, 23, 3);
        x.pipe(0, 1, 12, 2);
        x.street(1, 2, 2, 1, 20, 0);
        Due.rule(x, "hours 0 to 0;", 0);
        Due.rule(x, "hours 23 to 23;", 1);
        page.is("ASKED in hour 0", x.flow(0, 0, 0), 25);
        page.is("GOT in hour 0", x.flow(0, 0, 1), 12);
        page.is("not on: ASKED", x.flow(23, 0, 0), 0);
        page.is("not on: GOT", x.flow(23, 0, 1), 0);
        x.go(1);
        page.is("7 are in its cistern: an hour that was, once more", x.flow(0, 0, 0), 18);
        x.go(23);
        page.is("DAY 1: not on", x.flow(0, 0, 0), 0);
        page.is("DAY 1: its cistern is empty", x.flow(23, 0, 0), 25);
        page.is("DAY 1: GOT", x.flow(23, 0, 1), 1);
        page.is("it is not stepped", x.count(0), 24);
        page.says("or with s NONE 2 to all LEAKS, 3 in all.");
        page.is("LEAKS", x.flow(0, NONE, 2), 2);
        page.is("in all", x.flow(0, NONE, 3), 2);
        page.is("in all, with the STREET", x.flow(23, NONE, 3), 3);
        x.leak(0, 99);
        page.is("LEAKS take all", x.flow(23, NONE, 2), 3);
        page.is("no more in all", x.flow(23, NONE, 3), 3);
        page.is("nothing for the STREET", x.flow(23, 0, 1), 0);
    }

    private void flowRefused() {
        page.says("UNKNOWN, OUTSIDE.");
        WaterTown x = new WaterTown();
        x.street(0, 1, 1, 0, 0, 1);
        for (int s : new int[] {1, 10, -2, LOW, HIGH}) {
            page.is("street " + s, x.flow(0, s, 0), UNKNOWN);
            page.is("street " + s, x.flow(0, s, 2), UNKNOWN);
            page.is("street " + s + " and hour 24", x.flow(24, s, 9), UNKNOWN);
        }
        for (int hour : new int[] {-1, 24, LOW, HIGH}) {
            page.is("hour " + hour, x.flow(hour, 0, 0), OUTSIDE);
            page.is("hour " + hour, x.flow(hour, NONE, 2), OUTSIDE);
        }
        for (int what : new int[] {-1, 4, LOW, HIGH}) {
            page.is("what " + what, x.flow(0, 0, what), OUTSIDE);
            page.is("what " + what, x.flow(0, NONE, what), OUTSIDE);
        }
        for (int what = 0; what <= 1; what++) {
            page.is("of all, what " + what, x.flow(0, NONE, what), OUTSIDE);
            page.is("of one, what " + (what + 2), x.flow(0, 0, what + 2), OUTSIDE);
        }
        page.is("the last of its hours", x.flow(23, 0, 1), 1);
    }

    private void line() {
        page.in("promise 18");
        page.says("The i-th STREET of THE LINE in an hour of that DAY (those with water on); NONE.");
        WaterTown x = new WaterTown();
        line(x, 0);
        for (int s = 0; s < 10; s++) {
            x.street(s, 1, 1, 0, 0, s < 3 ? 0 : 1);
        }
        line(x, 5, 3, 4, 5, 6, 7, 8, 9);
        line(x, 6, 3, 4, 5, 6, 7, 8, 9, 0, 1, 2);
        line(x, 23, 3, 4, 5, 6, 7, 8, 9);
        Due.rule(x, "hours 23 to 23; first turn;", 1);
        x.go(24);
        line(x, 6, 3, 4, 5, 6, 7, 8, 9);
        line(x, 23, 0, 1, 2, 3, 4, 5, 6, 7, 8, 9);
        for (int i : new int[] {-1, -2, 10, 11, LOW, HIGH}) {
            page.is("no such i: " + i, x.line(23, i), NONE);
        }
        page.says("OUTSIDE.");
        for (int hour : new int[] {-1, 24, LOW, HIGH}) {
            page.is("hour " + hour, x.line(hour, 0), OUTSIDE);
            page.is("hour " + hour + ", no such i", x.line(hour, -1), OUTSIDE);
        }
    }
}
