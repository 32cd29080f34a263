/** Promises 23 to 30: leaks, beds, river, rates, beside. */
public final class RestTest {
    private static final int UNKNOWN = -1001, OUTSIDE = -1002, NOT = -1003, FULL = -1004;
    private static final int LOW = Integer.MIN_VALUE, HIGH = Integer.MAX_VALUE;
    private static final Due due = new Due();

    public static void main(String[] args) {
        gauge();
        guess();
        explain();
        beds();
        river();
        share();
        gains();
        beside();
        besideWithRules();
        due.end();
    }

    private static WaterTown pipes(int n) {
        WaterTown x = new WaterTown();
        for (int p = 0; p < n; p++) {
            x.pipe(p % 10, (p + 1) % 10, 9, 0);
        }
        return x;
    }

    private static void gauge() {
        due.part("promise 23");
        WaterTown x = pipes(2);
        due.is("bits", x.gauge(4, 0), UNKNOWN);
        due.is("bits ahead", x.gauge(-1, 10000), UNKNOWN);
        due.is("v", x.gauge(1, -1), OUTSIDE);
        due.is("v", x.gauge(1, 10000), OUTSIDE);
        due.is("1", x.gauge(0, 0), 1);
        for (int k = 2; k <= 6; k++) {
            due.is("more", x.gauge(3, 9999), k);
        }
        due.is("full", x.gauge(3, 0), FULL);
        due.is("outside ahead of full", x.gauge(3, 10000), OUTSIDE);
        due.is("gauges", x.count(7), 6);
        WaterTown y = pipes(20);
        due.is("all twenty", y.gauge((1 << 20) - 1, 1), 1);
        due.is("one more", y.gauge(1 << 20, 1), UNKNOWN);
    }

    private static void guess() {
        due.part("promise 24");
        WaterTown x = pipes(14);
        due.is("pipe", x.guess(14, 1), UNKNOWN);
        due.is("pipe ahead", x.guess(-1, 0), UNKNOWN);
        due.is("v", x.guess(0, 0), OUTSIDE);
        due.is("v", x.guess(0, 1000), OUTSIDE);
        due.is("v", x.guess(0, -2), OUTSIDE);
        due.is("none to none", x.guess(0, -1), 1);
        for (int p = 0; p < 12; p++) {
            due.is("guess", x.guess(p, p == 0 ? 999 : 1), 1);
        }
        due.is("guesses", x.count(8), 12);
        due.is("12 others", x.guess(12, 1), FULL);
        due.is("outside ahead of full", x.guess(12, 0), OUTSIDE);
        due.is("11 others", x.guess(3, 5), 1);
        due.is("none takes no place", x.guess(13, -1), 1);
        due.is("none", x.guess(4, -1), 1);
        due.is("guesses", x.count(8), 11);
        due.is("now it has place", x.guess(12, 1), 1);
        due.is("guesses", x.count(8), 12);
        due.is("its place is taken", x.guess(4, 1), FULL);
    }

    private static void explain() {
        due.part("promise 25");
        WaterTown x = pipes(20);
        due.is("what ahead of not", x.explain(2), OUTSIDE);
        due.is("what", x.explain(-1), OUTSIDE);
        due.is("no gauges", x.explain(1), NOT);
        x.gauge(1 << 19, 0);
        due.is("no guesses: the empty set", x.explain(0), 0);
        due.is("one", x.explain(1), 1);
        x.guess(19, 7);
        x.guess(2, 4);
        x.guess(5, 3);
        x.guess(11, 7);
        x.guess(17, 7);
        due.is("the empty set is fewest", x.explain(0), 0);
        due.is("all sets without 19", x.explain(1), 16);
        x.gauge(1 << 2 | 1 << 5 | 1 << 11 | 1 << 17 | 1, 7);
        due.is("of 11 and 17 the lesser, ahead of 2 with 5", x.explain(0), 1 << 11);
        due.is("three", x.explain(1), 3);
        x.gauge(1 << 5, 3);
        due.is("5 must be", x.explain(0), 1 << 2 | 1 << 5);
        due.is("one", x.explain(1), 1);
        x.guess(2, -1);
        due.is("none", x.explain(0), -1);
        due.is("no rivals", x.explain(1), 0);
        WaterTown y = pipes(12);
        for (int p = 0; p < 12; p++) {
            y.guess(p, 1);
        }
        y.gauge(4095, 6);
        due.is("six of twelve", y.explain(1), 924);
        due.is("the least number", y.explain(0), 63);
    }

    private static void bedDays(int b, int c, int l, int v, int d, String want) {
        WaterTown x = new WaterTown();
        int cleanings = 0;
        for (int i = 0; i <= d; i++) {
            int bed = want.charAt(i) == '.' ? -1 : want.charAt(i) - '0';
            cleanings += bed == -1 ? 0 : 1;
            due.is("day " + i + " of " + want, x.beds(b, c, l, v, d, i), bed);
        }
        due.is("cleanings of " + want, x.beds(b, c, l, v, d, -1), cleanings);
        due.is("a day behind", x.beds(b, c, l, v, d, d + 1), -1);
    }

    private static void beds() {
        due.part("promise 26");
        bedDays(1, 1, 0, 1, 0, ".");
        bedDays(1, 5, 2, 0, 20, ".....................");
        bedDays(1, 5, 2, 1, 2, "...");
        bedDays(2, 10, 5, 10, 6, "010101.");
        bedDays(2, 10, 4, 10, 2, "01.");
        bedDays(2, 10, 4, 6, 3, ".0..");
        bedDays(3, 99, 30, 198, 1, "..");
        bedDays(3, 9, 3, 12, 12, ".01201020102.");
        bedDays(2, 30, 2, 25, 15, "..0..1..0.......");
        bedDays(3, 20, 1, 25, 20, ".......0...1.....2...");
        bedDays(3, 50, 4, 90, 18, ".0120102010201.....");
        WaterTown x = new WaterTown();
        due.is("cannot be: two would have to be cleaned", x.beds(3, 99, 30, 198, 2, -1), -1);
        due.is("cannot be", x.beds(1, 10, 1, 10, 1, -1), -1);
        due.is("cannot be: no day", x.beds(1, 10, 1, 10, 1, 0), -1);
        due.is("again", x.beds(1, 10, 1, 9, 1, -1), 0);
        due.is("other beds", x.beds(2, 10, 1, 9, 1, -1), 0);
        due.is("other c", x.beds(2, 4, 1, 9, 1, -1), -1);
        due.is("other l", x.beds(1, 10, 2, 9, 1, -1), -1);
        due.is("other v", x.beds(1, 10, 2, 8, 1, -1), 0);
        due.is("other d", x.beds(1, 10, 2, 8, 2, -1), -1);
        due.is("b", x.beds(0, 1, 0, 0, 0, -1), OUTSIDE);
        due.is("b", x.beds(4, 1, 0, 0, 0, -1), OUTSIDE);
        due.is("c", x.beds(1, 0, 0, 0, 0, -1), OUTSIDE);
        due.is("c", x.beds(1, 100, 0, 0, 0, -1), OUTSIDE);
        due.is("l", x.beds(1, 1, -1, 0, 0, -1), OUTSIDE);
        due.is("l", x.beds(1, 1, 31, 0, 0, -1), OUTSIDE);
        due.is("v", x.beds(1, 1, 0, -1, 0, -1), OUTSIDE);
        due.is("v", x.beds(1, 1, 0, 298, 0, -1), OUTSIDE);
        due.is("d", x.beds(1, 1, 0, 0, -1, -1), OUTSIDE);
        due.is("d", x.beds(1, 1, 0, 0, 21, -1), OUTSIDE);
        due.is("no such day", x.beds(1, 1, 0, 0, 0, LOW), -1);
        due.is("no such day", x.beds(1, 1, 0, 0, 0, HIGH), -1);
        due.is("the most of all", x.beds(3, 99, 0, 297, 20, -1), 0);
        due.is("one more than there is", x.beds(3, 98, 0, 297, 20, -1), -1);
    }

    private static void river() {
        due.part("promise 27");
        WaterTown x = new WaterTown();
        due.is("day", x.river(-1, 0), OUTSIDE);
        due.is("day", x.river(31, 0), OUTSIDE);
        due.is("v", x.river(0, -1), OUTSIDE);
        due.is("v", x.river(0, 10000), OUTSIDE);
        for (int day = 0; day <= 30; day++) {
            due.is("0 at first", x.river(day, 9999 - day), 0);
        }
        for (int day = 0; day <= 30; day++) {
            due.is("what it was", x.river(day, 0), 9999 - day);
        }
    }

    private static void share() {
        due.part("promise 28");
        WaterTown x = new WaterTown();
        x.river(0, 50);
        x.river(1, 30);
        x.river(2, 10);
        x.river(3, 99);
        due.is("first day", x.share(20, 10, 3, 0), 2);
        due.is("mill", x.share(20, 10, 3, 1), 70);
        due.is("town", x.share(20, 10, 3, 2), 30);
        due.is("left", x.share(20, 10, 3, 3), 20 + 69);
        due.is("to day 1 it has all", x.share(20, 10, 1, 0), -1);
        due.is("to day 1", x.share(20, 10, 1, 3), 20);
        due.is("mill first", x.share(9999, 1, 3, 1), 189);
        due.is("nothing for the town", x.share(9999, 1, 3, 2), 0);
        due.is("on the first day", x.share(9999, 1, 3, 0), 0);
        due.is("a town that wants nothing", x.share(9999, 0, 30, 0), -1);
        due.is("a dry river", x.share(0, 1, 30, 0), 4);
        due.is("m", x.share(-1, 0, 0, 0), OUTSIDE);
        due.is("m", x.share(10000, 0, 0, 0), OUTSIDE);
        due.is("t", x.share(0, -1, 0, 0), OUTSIDE);
        due.is("t", x.share(0, 10000, 0, 0), OUTSIDE);
        due.is("d", x.share(0, 0, -1, 0), OUTSIDE);
        due.is("d", x.share(0, 0, 31, 0), OUTSIDE);
        due.is("what", x.share(0, 0, 0, -1), OUTSIDE);
        due.is("what", x.share(0, 0, 0, 4), OUTSIDE);
    }

    private static void gains() {
        due.part("promise 29");
        WaterTown x = new WaterTown();
        x.street(0, 2, 5, 0, 0, 1);
        x.street(0, 2, 5, 0, 0, 1);
        x.street(0, 2, 5, 0, 0, 1);
        x.rooms(0, 1);
        x.rooms(1, 2);
        due.is("nothing used yet", x.gains(), 2);
        x.go(4);
        due.is("4 by meters: not less than 4 by rooms", x.gains(), 1);
        due.is("by rooms", x.told(0, 7), 4);
        due.is("by meters", x.told(0, 8), 4);
        x.go(4);
        due.is("8 by meters", x.gains(), 0);
        Due.rule(x, "meter 0;", 0);
        due.is("for nothing", x.gains(), 2);
    }

    private static void beside() {
        due.part("promise 30");
        WaterTown x = new WaterTown();
        x.pump(0, 23, 10);
        x.pipe(0, 1, 5, 0);
        x.street(1, 8, 1, 0, 0, 1);
        due.is("hour 0", x.beside(1, 9), 0);
        due.is("go", x.go(30), 30);
        due.is("as it was", x.beside(0, 0), 30);
        due.is("at the pump the bore is too small", x.beside(0, 999), 30);
        due.is("two are not enough", x.beside(1, 2), 30);
        due.is("three are", x.beside(1, 3), 0);
        due.is("beyond reach", x.beside(2, 999), 30);
        x.pipe(1, 2, 3, 0);
        due.is("in reach", x.beside(2, 999), 0);
        x.shut(1, true);
        due.is("valves as they are", x.beside(2, 999), 30);
        x.pump(0, 11, 0);
        due.is("pump as it is, the spring by itself", x.beside(1, 3), 12 + 6);
        due.is("enough alone", x.beside(1, 8), 0);
        x.leak(0, 2);
        due.is("while the pump rests, the leak at node 0 takes from the spring", x.beside(1, 8), 12 + 6);
        due.is("enough for both", x.beside(1, 10), 0);
        due.is("a leak comes first", x.beside(0, 4), 30);
        due.is("nothing is stepped", x.count(0), 30);
        due.is("nothing is dry by it", x.count(9), 30);
        due.is("node", x.beside(10, 0), UNKNOWN);
        due.is("node ahead", x.beside(-1, 1000), UNKNOWN);
        due.is("s", x.beside(0, 1000), OUTSIDE);
        due.is("s", x.beside(0, -1), OUTSIDE);
    }

    private static void besideWithRules() {
        due.part("promise 30, rules, kinds and cisterns");
        WaterTown x = new WaterTown();
        x.street(0, 1, 1, 0, 5, 0);
        Due.rule(x, "hours 0 to 3;", 3);
        due.is("days 0 to 4", x.go(120), 3 * 16 + 2 * 15);
        due.is("again", x.beside(0, 0), 3 * 16 + 2 * 15);
        due.is("cistern is as it was", x.told(0, 2), 0);
        x.over(0);
        due.is("of the kind that it is now", x.beside(0, 0), 0);
        x.pump(20, 20, 0);
        due.is("an always one has its cistern empty", x.beside(5, 9), 5);
        x.street(7, 1, 1, 0, 0, 1);
        due.is("streets that came later, too", x.beside(5, 9), 120);
    }
}
