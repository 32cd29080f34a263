/** The fifth part of the terms, and promises 23 to 30: leaks explained, beds, river, rates, a spring beside. */
final class RestSentences {
    private static final int NONE = Page.NONE, UNKNOWN = Page.UNKNOWN, OUTSIDE = Page.OUTSIDE, NOT = Page.NOT, FULL = Page.FULL;
    private static final int LOW = Page.LOW, HIGH = Page.HIGH;

    private final Page page;

    RestSentences(Page page) {
        this.page = page;
    }

    void all() {
        page.in("5");
        gauges();
        guesses();
        explained();
        fewest();
        rivals();
        bedsGive();
        bedsAge();
        bedsCleaned();
        bedsFewest();
        bedsAgainstPlain();
        rivers();
        rates();
        gainers();
        hoursAgain();
        daysAgain();
        asTheyAre();
        spring();
        gauge();
        guess();
        explain();
        beds();
        bedsRefused();
        river();
        share();
        gains();
        beside();
    }

    private static WaterTown pipes(int n) {
        WaterTown x = new WaterTown();
        for (int p = 0; p < n; p++) {
            x.pipe(p % 10, (p + 1) % 10, 9, 0);
        }
        return x;
    }

    private void explains(WaterTown x, int fewest, int rivals) {
        page.is("THE FEWEST", x.explain(0), fewest);
        page.is("RIVALS", x.explain(1), rivals);
    }

    private void gauges() {
        page.says("GAUGES (6 at most): a SET of PIPES and by how much they lose together at night (0 .. 9999);");
        WaterTown x = pipes(3);
        page.is("-1", x.gauge(1, -1), OUTSIDE);
        page.is("10000", x.gauge(1, 10000), OUTSIDE);
        page.is("0", x.gauge(1, 0), 1);
        page.is("9999", x.gauge(7, 9999), 2);
        for (int g = 3; g <= 6; g++) {
            page.is("gauge " + g, x.gauge(7, 1), g);
        }
        page.is("a seventh", x.gauge(7, 1), FULL);
        WaterTown y = pipes(11);
        for (int p = 0; p < 11; p++) {
            y.guess(p, p < 10 ? 999 : 9);
        }
        y.gauge(2047, 9999);
        explains(y, 2047, 1);
    }

    private void guesses() {
        page.says("GUESS of a PIPE: what it would lose (1 .. 999; NONE: it does not).");
        WaterTown x = pipes(2);
        page.is("0", x.guess(0, 0), OUTSIDE);
        page.is("1000", x.guess(0, 1000), OUTSIDE);
        page.is("-2", x.guess(0, -2), OUTSIDE);
        x.gauge(3, 999);
        page.is("998", x.guess(0, 998), 1);
        explains(x, NONE, 0);
        page.is("1", x.guess(1, 1), 1);
        explains(x, 3, 1);
        page.is("999", x.guess(1, 999), 1);
        explains(x, 2, 1);
        page.is("NONE", x.guess(1, NONE), 1);
        explains(x, NONE, 0);
    }

    private void explained() {
        page.says("EXPLAINED by a SET of PIPES with GUESSES, if for each GAUGE GUESSES of those of the SET that it has come just to what it tells.");
        WaterTown x = pipes(4);
        x.guess(0, 2);
        x.guess(1, 3);
        x.guess(2, 5);
        x.gauge(1 | 2, 5);
        explains(x, 3, 2);
        x.gauge(4, 0);
        explains(x, 3, 1);
        x.gauge(8, 0);
        explains(x, 3, 1);
        x.gauge(0, 0);
        explains(x, 3, 1);
        x.gauge(2 | 4, 3);
        explains(x, 3, 1);
        x.gauge(1, 3);
        explains(x, NONE, 0);
        WaterTown y = pipes(1);
        y.gauge(0, 1);
        y.guess(0, 1);
        explains(y, NONE, 0);
        WaterTown z = pipes(2);
        z.guess(0, 4);
        z.gauge(3, 3);
        explains(z, NONE, 0);
        z.guess(1, 3);
        explains(z, 2, 1);
        z.guess(1, 2);
        explains(z, NONE, 0);
    }

    private void fewest() {
        page.says("THE FEWEST: of those with fewest PIPES the first (the lesser number as a SET);");
        WaterTown x = pipes(20);
        x.gauge((1 << 20) - 1, 6);
        x.guess(0, 1);
        x.guess(1, 2);
        x.guess(2, 3);
        explains(x, 7, 1);
        x.guess(19, 5);
        explains(x, 1 | 1 << 19, 2);
        x.guess(10, 4);
        explains(x, 2 | 1 << 10, 3);
        x.guess(18, 6);
        explains(x, 1 << 18, 4);
        x.guess(17, 6);
        explains(x, 1 << 17, 5);
        WaterTown y = pipes(3);
        y.gauge(1, 0);
        y.guess(1, 9);
        explains(y, 0, 2);
    }

    private void rivals() {
        page.says("RIVALS: how many SETS explain (PIPES with GUESSES 12 at most).");
        WaterTown x = pipes(20);
        x.gauge(0, 0);
        explains(x, 0, 1);
        for (int p = 0; p < 12; p++) {
            x.guess(19 - p, 1);
            page.is("all sets", x.explain(1), 2 << p);
        }
        page.is("a thirteenth", x.guess(0, 1), FULL);
        page.is("all 4096", x.explain(1), 4096);
        x.gauge((1 << 20) - 1, 6);
        explains(x, 63 << 8, 924);
        x.gauge((1 << 20) - 1, 7);
        explains(x, NONE, 0);
    }

    private void planned(int b, int c, int l, int v, int d, String want) {
        WaterTown x = new WaterTown();
        int cleanings = 0;
        for (int i = 0; i <= d; i++) {
            int bed = want.charAt(i) == '.' ? NONE : want.charAt(i) - '0';
            cleanings += bed == NONE ? 0 : 1;
            page.is("day " + i + " of " + want, x.beds(b, c, l, v, d, i), bed);
        }
        page.is("cleanings of " + want, x.beds(b, c, l, v, d, NONE), cleanings);
    }

    private void impossible(int b, int c, int l, int v, int d) {
        WaterTown x = new WaterTown();
        page.is("it cannot be", x.beds(b, c, l, v, d, NONE), NONE);
        for (int i = 0; i <= d; i++) {
            page.is("nothing is cleaned", x.beds(b, c, l, v, d, i), NONE);
        }
    }

    private void bedsGive() {
        page.says("BEDS (1 to 3) give c (1 .. 99) an hour when clean,");
        for (int b = 1; b <= 3; b++) {
            planned(b, 1, 0, b, 20, ".".repeat(21));
            planned(b, 99, 0, 99 * b, 20, ".".repeat(21));
            impossible(b, 1, 0, b + 1, 0);
            impossible(b, 98, 0, 98 * b + 1, 0);
        }
        WaterTown x = new WaterTown();
        page.is("no BEDS", x.beds(0, 1, 0, 0, 0, NONE), OUTSIDE);
        page.is("4 BEDS", x.beds(4, 1, 0, 0, 0, NONE), OUTSIDE);
        page.is("c 0", x.beds(1, 0, 0, 0, 0, NONE), OUTSIDE);
        page.is("c 100", x.beds(1, 100, 0, 0, 0, NONE), OUTSIDE);
    }

    private void bedsAge() {
        page.says("l (0 .. 30) less for each DAY since they were cleaned (0 at least);");
        WaterTown x = new WaterTown();
        page.is("l -1", x.beds(1, 1, -1, 0, 0, NONE), OUTSIDE);
        page.is("l 31", x.beds(1, 1, 31, 0, 0, NONE), OUTSIDE);
        planned(1, 10, 3, 1, 3, "....");
        impossible(1, 10, 3, 2, 3);
        impossible(1, 10, 3, 1, 4);
        planned(1, 99, 30, 9, 3, "....");
        impossible(1, 99, 30, 10, 3);
        planned(1, 1, 30, 0, 20, ".".repeat(21));
        planned(3, 1, 30, 0, 20, ".".repeat(21));
        // It gives 10, then 3, then nothing, but never less: bed 2 takes nothing from the others.
        planned(3, 10, 7, 10, 4, "0101.");
        planned(1, 21, 1, 1, 20, ".".repeat(21));
        planned(3, 99, 1, 3 * 79, 20, ".".repeat(21));
        impossible(1, 20, 1, 1, 20);
        page.says("all are clean on DAY 0.");
        planned(3, 99, 30, 297, 0, ".");
        impossible(3, 99, 1, 297, 1);
        planned(2, 10, 1, 18, 1, "..");
        impossible(2, 10, 1, 19, 1);
    }

    private void bedsCleaned() {
        page.says("On each DAY one at most may be cleaned: it gives nothing on it, and is clean on the next one.");
        planned(2, 10, 10, 10, 1, "0.");
        planned(2, 10, 10, 10, 2, "01.");
        impossible(2, 10, 10, 11, 1);
        impossible(3, 10, 10, 20, 1);
        planned(3, 10, 5, 15, 1, "..");
        planned(3, 10, 5, 15, 2, "01.");
        impossible(3, 10, 5, 21, 2);
        impossible(1, 10, 1, 10, 1);
        planned(1, 10, 1, 9, 1, "..");
    }

    private void bedsFewest() {
        page.says("CLEANED are they so that on each DAY 0 to d (d 0 .. 20) all give NEED or more: the fewest cleanings;");
        planned(2, 10, 10, 10, 20, "01010101010101010101.");
        planned(2, 10, 5, 10, 1, "..");
        planned(2, 10, 5, 10, 2, "01.");
        WaterTown x = new WaterTown();
        page.is("d -1", x.beds(1, 1, 0, 0, -1, NONE), OUTSIDE);
        page.is("d 21", x.beds(1, 1, 0, 0, 21, NONE), OUTSIDE);
        planned(2, 10, 1, 10, 5, "......");
        // One cleaning, on day 0, would leave 5 and 4 on day 6.
        planned(2, 10, 1, 10, 6, "01.....");
        page.says("of several the first by DAYS (none ahead of BED 0 and so on).");
        planned(2, 10, 4, 6, 3, ".0..");
        planned(3, 10, 2, 16, 4, ".01..");
        planned(3, 9, 3, 12, 12, ".01201020102.");
    }

    /** Plans of many towns, against plans as whole texts of which the best is kept. */
    private void bedsAgainstPlain() {
        page.says("the fewest cleanings; of several the first by DAYS (none ahead of BED 0 and so on).");
        PlainTown plain = new PlainTown();
        for (int b = 1; b <= 3; b++) {
            for (int c : new int[] {10, 33, 99}) {
                for (int l : new int[] {1, 3, 4, 10}) {
                    for (int eighths = 3; eighths <= 7; eighths++) {
                        int v = b * c * eighths / 8;
                        samePlan(plain, b, c, l, v, 3);
                        samePlan(plain, b, c, l, v, 20);
                    }
                }
            }
        }
    }

    private void samePlan(PlainTown plain, int b, int c, int l, int v, int d) {
        WaterTown x = new WaterTown();
        String plan = plain.bedPlan(b, c, l, v, d);
        for (int i = NONE; i <= d + 1; i++) {
            page.is("beds(" + b + ", " + c + ", " + l + ", " + v + ", " + d + ", " + i + ")",
                    x.beds(b, c, l, v, d, i), PlainTown.ofPlan(plan, i));
        }
    }

    private void rivers() {
        page.says("RIVER: for each DAY (0 .. 30) what it has (0 .. 9999): first the mill m, then the town t, as far as there is:");
        WaterTown x = new WaterTown();
        page.is("DAY -1", x.river(-1, 0), OUTSIDE);
        page.is("DAY 31", x.river(31, 0), OUTSIDE);
        page.is("-1", x.river(0, -1), OUTSIDE);
        page.is("10000", x.river(0, 10000), OUTSIDE);
        page.is("9999 on DAY 0", x.river(0, 9999), 0);
        page.is("1 on DAY 30", x.river(30, 1), 0);
        page.is("the mill has all", x.share(9999, 9999, 0, 1), 9999);
        page.is("the town none", x.share(9999, 9999, 0, 2), 0);
        page.is("the mill has all but 1", x.share(9998, 9999, 0, 1), 9998);
        page.is("the town 1", x.share(9998, 9999, 0, 2), 1);
        page.is("the mill has none", x.share(0, 9999, 0, 1), 0);
        page.is("the town all", x.share(0, 9999, 0, 2), 9999);
        page.says("the first DAY on which the town has not all;");
        for (int day = 1; day < 30; day++) {
            x.river(day, 10);
        }
        page.is("5 and 5 until DAY 29", x.share(5, 5, 29, 0), NONE);
        page.is("1 on DAY 30", x.share(5, 5, 30, 0), 30);
        page.is("6 and 5 on DAY 1", x.share(6, 5, 30, 0), 1);
        page.is("on DAY 0", x.share(9999, 1, 30, 0), 0);
        page.is("a town without want", x.share(9999, 0, 30, 0), NONE);
        page.says("SHARES in all.");
        page.is("mill", x.share(6, 5, 30, 1), 30 * 6 + 1);
        page.is("town", x.share(6, 5, 30, 2), 5 + 29 * 4);
        page.is("left over", x.share(6, 5, 30, 3), 9999 - 11);
    }

    private void rates() {
        page.says("RATES by rooms: rate times rooms (0 .. 99) of a STREET a house;");
        WaterTown x = new WaterTown();
        x.pump(0, 23, 9999);
        x.street(0, 99, 9, 99, 999, 1);
        page.is("no rooms", x.told(0, 7), 0);
        page.is("100 rooms", x.rooms(0, 100), OUTSIDE);
        page.is("-1 rooms", x.rooms(0, -1), OUTSIDE);
        x.rooms(0, 99);
        page.is("rate 2", x.told(0, 7), 2 * 99 * 99);
        Due.rule(x, "rate 99; meter 99;", 1);
        Due.rule(x, "rate 0; meter 0;", 2);
        x.go(24);
        page.is("rate 99", x.told(0, 7), 99 * 99 * 99);
        page.says("by meters: meter times what it has GOT in all, / 10.");
        page.is("GOT", x.told(0, 3), 24 * 990);
        page.is("meter 99", x.told(0, 8), 99 * 24 * 990 / 10);
        x.go(24);
        page.is("meter 0", x.told(0, 8), 0);
        page.is("rate 0", x.told(0, 7), 0);
        WaterTown y = new WaterTown();
        y.pump(0, 23, 9999);
        y.street(0, 99, 9, 99, 999, 1);
        Due.rule(y, "meter 99;", 199);
        for (int k = 0; k < 24; k++) {
            y.go(200);
        }
        page.is("of all hours, the most by meter", y.told(0, 8), 99 * 4800L * 990 / 10);
    }

    private void gainers() {
        page.says("GAINS by meters: STREETS that pay less so.");
        WaterTown x = new WaterTown();
        x.street(0, 1, 1, 0, 0, 1);
        x.rooms(0, 1);
        x.go(19);
        page.is("1 by meters, 2 by rooms", x.gains(), 1);
        x.go(1);
        page.is("2 by both", x.gains(), 0);
        x.go(20);
        page.is("4 by meters", x.gains(), 0);
        x.street(9, 1, 1, 0, 0, 1);
        page.is("nothing by both", x.gains(), 0);
        x.rooms(1, 1);
        page.is("nothing by meters, 2 by rooms", x.gains(), 1);
    }

    private void hoursAgain() {
        page.says("BESIDE: the HOURS 0 to NOW again,");
        for (int hours : new int[] {0, 1, 6, 7, 9, 23, 24, 25, 47, 48, 49, 71, 72, 199, 200}) {
            WaterTown x = new WaterTown();
            x.pump(0, 23, 12);
            x.pipe(0, 1, 9, 1);
            x.pipe(1, 2, 5, 1);
            x.street(1, 2, 1, 1, 60, 0);
            x.street(2, 1, 1, 0, 7, 0);
            x.street(0, 3, 1, 0, 0, 1);
            Due.rule(x, "hours 0 to 20; first turn;", 2);
            Due.rule(x, "strike 0; first small;", 6);
            int dry = x.go(hours);
            page.is("as they were, " + hours, x.beside(0, 0), dry);
            page.is("NOW", x.count(0), hours);
        }
        WaterTown y = new WaterTown();
        y.street(0, 1, 1, 0, 50, 0);
        int dry = 0;
        for (int k = 0; k < 24; k++) {
            dry += y.go(200);
        }
        page.is("dry until its first hour of water", dry, 6);
        page.is("all 4800", y.beside(0, 0), 6);
        page.is("its cistern is as it was", y.told(0, 2), 50 - 15);
    }

    /** Days that begin alike go alike, those that do not, do not. */
    private void daysAgain() {
        page.says("the HOURS 0 to NOW again,");
        WaterTown x = new WaterTown();
        x.street(0, 1, 1, 0, 0, 0);
        Due.rule(x, "hours 0 to 11;", 2);
        page.is("21, 21, 12, 12", x.go(96), 66);
        page.is("a RULE begins, cisterns are empty", x.beside(0, 0), 66);
        WaterTown y = new WaterTown();
        y.pump(0, 0, 0);
        y.street(0, 1, 1, 0, 50, 0);
        Due.rule(y, "hours 0 to 0;", 1);
        // 6 dry hours on day 0; 50 less 15 are left, which last until hour 10 of day 2.
        page.is("6, 0, 13, 24, 24", y.go(120), 67);
        page.is("days begin with 35, 11 and nothing", y.beside(0, 0), 67);
        page.is("with a spring it is filled each day; day 0 is dry until hour 6", y.beside(0, 60), 6);
    }

    private void asTheyAre() {
        page.says("with STREETS of the KINDS that they are now, VALVES, PIPES, PUMP as they are,");
        WaterTown x = new WaterTown();
        x.street(0, 5, 1, 0, 0, 0);
        page.is("TURN", x.go(48), 42);
        x.over(0);
        page.is("ALWAYS now", x.beside(0, 0), 0);
        x.pump(5, 5, 4);
        page.is("PUMP", x.beside(0, 0), 2);
        x.street(1, 5, 1, 0, 0, 1);
        page.is("a STREET that came later", x.beside(0, 0), 48);
        x.pipe(0, 1, 5, 0);
        page.is("a PIPE that came later", x.beside(0, 0), 2);
        x.shut(0, true);
        page.is("VALVES", x.beside(0, 0), 48);
        x.shut(0, false);
        x.leak(0, 91);
        page.is("LEAKS", x.beside(0, 0), 48);
        x.leak(0, 90);
        page.is("LEAKS", x.beside(0, 0), 2);
        Due.rule(x, "hours 0 to 0;", 0);
        x.street(0, 1, 1, 0, 22, 0);
        x.leak(0, 0);
        // Hour 5 of each day for the pump, hour 23 for the cistern of 22.
        page.is("RULES of DAYS, CISTERNS empty at first", x.beside(0, 0), 4);
        page.is("KINDS are as they are", x.count(3), 2);
    }

    private void spring() {
        page.says("and a SPRING of up to s (0 .. 999) in each hour at a NODE besides: hours in which some STREET was DRY.");
        WaterTown x = new WaterTown();
        x.pump(0, 23, 0);
        x.pump(4, 4, 3);
        x.pipe(0, 1, 6, 0);
        x.street(1, 99, 9, 99, 0, 1);
        x.go(10);
        page.is("990 are asked, 891 are used", x.beside(1, 990), 0);
        page.is("in hour 4 there are 3 more", x.beside(1, 989), 9);
        page.is("999", x.beside(1, 999), 0);
        page.is("up to bore", x.beside(0, 999), 10);
        page.is("at a NODE that is not joined", x.beside(2, 999), 10);
        page.is("1000", x.beside(1, 1000), OUTSIDE);
        page.is("-1", x.beside(1, -1), OUTSIDE);
        WaterTown y = new WaterTown();
        y.pump(0, 23, 5);
        y.pipe(1, 0, 9, 4);
        y.street(0, 3, 1, 0, 0, 1);
        y.street(5, 2, 1, 0, 0, 1);
        y.pipe(5, 1, 9, 0);
        y.go(5);
        page.is("5 for LEAK, 3 and 2", y.beside(0, 0), 5);
        page.is("3 more", y.beside(9, 3), 5);
        page.is("3 more at node 5", y.beside(5, 3), 5);
        page.is("4 more at node 5", y.beside(5, 4), 0);
        page.is("4 more at node 0", y.beside(0, 4), 0);
    }

    private void gauge() {
        page.in("promise 23");
        page.says("A GAUGE: how many there are.");
        WaterTown x = pipes(20);
        page.is("the first", x.gauge((1 << 20) - 1, 0), 1);
        page.is("the same", x.gauge((1 << 20) - 1, 0), 2);
        page.is("of no PIPES", x.gauge(0, 9999), 3);
        page.is("count", x.count(7), 3);
        page.says("UNKNOWN (bits), OUTSIDE, FULL.");
        for (int set : new int[] {1 << 20, 1 << 20 | 1, LOW, -1, HIGH}) {
            page.is("set " + set, x.gauge(set, 0), UNKNOWN);
        }
        for (int v : new int[] {-1, 10000, LOW, HIGH}) {
            page.is("v " + v, x.gauge(1, v), OUTSIDE);
        }
        page.is("no PIPES at all", new WaterTown().gauge(1, 0), UNKNOWN);
        page.is("no PIPES at all, the empty set", new WaterTown().gauge(0, 0), 1);
        for (int g = 4; g <= 6; g++) {
            page.is("gauge", x.gauge(1, 1), g);
        }
        page.is("full", x.gauge(1, 1), FULL);
    }

    private void guess() {
        page.in("promise 24");
        page.says("GUESS of a PIPE becomes v (NONE: none): 1.");
        WaterTown x = pipes(20);
        page.is("none yet, none", x.guess(19, NONE), 1);
        page.is("1", x.guess(19, 1), 1);
        page.is("999", x.guess(19, 999), 1);
        page.is("one PIPE", x.count(8), 1);
        page.is("none", x.guess(19, NONE), 1);
        page.is("no PIPE", x.count(8), 0);
        page.says("UNKNOWN, OUTSIDE, FULL: 12 others have one.");
        for (int p : new int[] {-1, 20, 32, LOW, HIGH}) {
            page.is("pipe " + p, x.guess(p, 1), UNKNOWN);
            page.is("pipe " + p, x.guess(p, NONE), UNKNOWN);
            page.is("pipe " + p + ", v 0", x.guess(p, 0), UNKNOWN);
        }
        for (int v : new int[] {0, -2, 1000, LOW, HIGH}) {
            page.is("v " + v, x.guess(0, v), OUTSIDE);
        }
        for (int p = 0; p < 12; p++) {
            page.is("11 others at most", x.guess(p, 1), 1);
        }
        page.is("12 others", x.guess(12, 1), FULL);
        page.is("12 others", x.guess(19, 999), FULL);
        page.is("11 others: one of the twelve", x.guess(11, 5), 1);
        page.is("none for one that has none", x.guess(12, NONE), 1);
        page.is("none for one of the twelve", x.guess(0, NONE), 1);
        page.is("11 others", x.guess(12, 1), 1);
        page.is("12 others", x.guess(0, 1), FULL);
        page.is("twelve", x.count(8), 12);
    }

    private void explain() {
        page.in("promise 25");
        page.says("THE FEWEST (what = 0; NONE: no SET explains), RIVALS (1).");
        WaterTown x = pipes(2);
        x.guess(0, 3);
        x.guess(1, 3);
        x.gauge(3, 3);
        explains(x, 1, 2);
        x.gauge(1, 0);
        explains(x, 2, 1);
        x.gauge(2, 0);
        explains(x, NONE, 0);
        page.says("OUTSIDE; NOT: there are no GAUGES.");
        WaterTown y = pipes(2);
        y.guess(0, 1);
        page.is("no GAUGES", y.explain(0), NOT);
        page.is("no GAUGES", y.explain(1), NOT);
        for (int what : new int[] {-1, 2, LOW, HIGH}) {
            page.is("what " + what + ", no GAUGES", y.explain(what), OUTSIDE);
            page.is("what " + what, x.explain(what), OUTSIDE);
        }
        y.gauge(0, 0);
        page.is("a GAUGE of no PIPES", y.explain(0), 0);
    }

    private void beds() {
        page.in("promise 26");
        page.says("CLEANED: b BEDS, c, l, NEED v (0 .. 297), DAYS 0 to d: i = NONE the fewest cleanings (NONE: it cannot be), else the BED "
                + "that is cleaned on DAY i; NONE: there is none.");
        planned(1, 1, 30, 0, 20, ".".repeat(21));
        planned(3, 99, 0, 297, 20, ".".repeat(21));
        planned(2, 10, 10, 10, 3, "010.");
        WaterTown x = new WaterTown();
        page.is("it cannot be", x.beds(3, 99, 1, 297, 1, NONE), NONE);
        page.is("it can on DAY 0 alone", x.beds(3, 99, 1, 297, 0, NONE), 0);
        page.is("a DAY behind d", x.beds(2, 10, 10, 10, 3, 4), NONE);
        for (int i : new int[] {-2, 21, LOW, HIGH}) {
            page.is("no such DAY: " + i, x.beds(2, 10, 10, 10, 3, i), NONE);
        }
        page.is("a plan of more DAYS", x.beds(2, 10, 10, 10, 4, 3), 1);
        page.is("the one of fewer again", x.beds(2, 10, 10, 10, 3, 3), NONE);
        page.is("it has no effect on the town", x.count(0), 0);
        eachNumberMatters();
    }

    /** 12 on DAY 1 are just enough; with one number of the five another it cannot be. */
    private void eachNumberMatters() {
        int[][] others = {{1, 10, 4, 12, 1}, {2, 9, 4, 12, 1}, {2, 10, 5, 12, 1}, {2, 10, 4, 13, 1}, {2, 10, 4, 12, 2}};
        WaterTown x = new WaterTown();
        for (int[] o : others) {
            page.is("just enough", x.beds(2, 10, 4, 12, 1, NONE), 0);
            page.is("once more", x.beds(2, 10, 4, 12, 1, NONE), 0);
            page.is("not enough", x.beds(o[0], o[1], o[2], o[3], o[4], NONE), NONE);
        }
    }

    private void bedsRefused() {
        page.says("OUTSIDE.");
        WaterTown x = new WaterTown();
        int[] least = {1, 1, 0, 0, 0};
        int[] most = {3, 99, 30, 297, 20};
        for (int k = 0; k < 5; k++) {
            for (int bad : new int[] {least[k] - 1, most[k] + 1, LOW, HIGH}) {
                int[] b = {1, 10, 1, 5, 3};
                b[k] = bad;
                page.is(bad + " at " + k, x.beds(b[0], b[1], b[2], b[3], b[4], NONE), OUTSIDE);
                page.is(bad + " at " + k, x.beds(b[0], b[1], b[2], b[3], b[4], 0), OUTSIDE);
                page.is(bad + " at " + k + ", no such DAY", x.beds(b[0], b[1], b[2], b[3], b[4], 99), OUTSIDE);
            }
        }
        page.is("all at their least", x.beds(1, 1, 0, 0, 0, NONE), 0);
        page.is("all at their most", x.beds(3, 99, 30, 297, 20, NONE), NONE);
    }

    private void river() {
        page.in("promise 27");
        page.says("RIVER of a DAY becomes v: what it was (0 at first).");
        WaterTown x = new WaterTown();
        for (int day = 0; day <= 30; day++) {
            page.is("0 at first", x.river(day, 9999 - day), 0);
        }
        for (int day = 0; day <= 30; day++) {
            page.is("DAY " + day, x.river(day, 0), 9999 - day);
            page.is("0", x.river(day, 7), 0);
        }
        page.says("OUTSIDE.");
        for (int day : new int[] {-1, 31, LOW, HIGH}) {
            page.is("DAY " + day, x.river(day, 5), OUTSIDE);
        }
        for (int v : new int[] {-1, 10000, LOW, HIGH}) {
            page.is("v " + v, x.river(3, v), OUTSIDE);
        }
        page.is("it is what it was", x.river(3, 7), 7);
    }

    private void share() {
        page.in("promise 28");
        page.says("The mill has m, the town t (0 .. 9999) each DAY 0 to d (0 .. 30): what = 0 the first DAY on which the town has not all "
                + "(NONE), 1 what the mill has in all, 2 the town, 3 what is left over.");
        WaterTown x = new WaterTown();
        page.is("a dry river, no want", x.share(0, 0, 30, 0), NONE);
        page.is("a dry river", x.share(9999, 9999, 30, 0), 0);
        page.is("a dry river", x.share(9999, 9999, 30, 1) + x.share(9999, 9999, 30, 2) + x.share(9999, 9999, 30, 3), 0);
        for (int day = 0; day <= 30; day++) {
            x.river(day, day == 30 ? 8 : 9);
        }
        page.is("9 on each: all", x.share(4, 5, 29, 0), NONE);
        page.is("8 on the last", x.share(4, 5, 30, 0), 30);
        page.is("mill", x.share(4, 5, 30, 1), 31 * 4);
        page.is("town", x.share(4, 5, 30, 2), 30 * 5 + 4);
        page.is("left over", x.share(4, 5, 30, 3), 0);
        page.is("left over", x.share(4, 4, 30, 3), 30);
        page.is("DAY 0 alone", x.share(4, 4, 0, 3), 1);
        page.is("nobody wants any", x.share(0, 0, 30, 3), 30 * 9 + 8);
        page.is("the mill takes all", x.share(9999, 9999, 30, 1), 30 * 9 + 8);
        page.says("OUTSIDE.");
        int[] most = {9999, 9999, 30, 3};
        for (int k = 0; k < 4; k++) {
            for (int bad : new int[] {-1, most[k] + 1, LOW, HIGH}) {
                int[] s = {1, 1, 1, 1};
                s[k] = bad;
                page.is(bad + " at " + k, x.share(s[0], s[1], s[2], s[3]), OUTSIDE);
            }
        }
    }

    private void gains() {
        page.in("promise 29");
        page.says("How many STREETS gain by meters.");
        WaterTown x = new WaterTown();
        page.is("no STREETS", x.gains(), 0);
        for (int s = 0; s < 10; s++) {
            x.street(0, 1, 1, 0, 0, 1);
        }
        page.is("no rooms", x.gains(), 0);
        for (int s = 0; s < 10; s++) {
            x.rooms(s, s + 1);
        }
        page.is("all ten", x.gains(), 10);
        x.go(60);
        page.is("6 by meters: not those of one to three rooms", x.gains(), 7);
        Due.rule(x, "rate 1;", 2);
        page.is("rate 1 from DAY 2 on: not those of up to six", x.gains(), 4);
        Due.rule(x, "meter 0;", 3);
        page.is("DAY 2 still", x.gains(), 4);
        x.go(12);
        page.is("DAY 3", x.gains(), 10);
    }

    private void beside() {
        page.in("promise 30");
        page.says("BESIDE.");
        WaterTown x = new WaterTown();
        page.is("no hours", x.beside(0, 999), 0);
        x.street(9, 1, 1, 0, 0, 1);
        page.is("no hours still", x.beside(9, 0), 0);
        x.go(3);
        page.is("none", x.beside(9, 0), 3);
        page.is("one", x.beside(9, 1), 0);
        page.is("elsewhere", x.beside(8, 1), 3);
        page.is("NOW", x.count(0), 3);
        page.is("hours that were dry", x.count(9), 3);
        page.says("UNKNOWN (NODE), OUTSIDE.");
        for (int node : new int[] {-1, 10, LOW, HIGH}) {
            page.is("node " + node, x.beside(node, 0), UNKNOWN);
            page.is("node " + node + " and s 1000", x.beside(node, 1000), UNKNOWN);
        }
        for (int s : new int[] {-1, 1000, LOW, HIGH}) {
            page.is("s " + s, x.beside(0, s), OUTSIDE);
        }
    }
}
