/** Promises 12 to 15: rules as texts. */
public final class RulesTest {
    private static final int OUTSIDE = -1002, FULL = -1004;
    private static final Due due = new Due();

    public static void main(String[] args) {
        feed();
        rule();
        faults();
        faultStays();
        force();
        strikes();
        due.end();
    }

    private static void feed() {
        due.part("promise 12");
        WaterTown x = new WaterTown();
        due.is("n 0", x.feed(0, 1), OUTSIDE);
        due.is("n 9", x.feed(9, 1), OUTSIDE);
        due.is("n wild", x.feed(Integer.MIN_VALUE, 1), OUTSIDE);
        due.is("lower bytes alone", x.feed(4, 0x7777777772617465L), 4);
        due.is("the highest first", x.feed(3, 0x20373bL), 7);
        due.is("rate 7;", x.rule(0), 0);
        due.is("it is that", x.force(2, 0), 7);
        due.is("empty then", x.count(6), 0);
        for (int k = 1; k <= 19; k++) {
            due.is("eight more", x.feed(8, -1L), 8 * k);
        }
        due.is("159", x.feed(7, 0), 159);
        due.is("two too many", x.feed(2, 0), FULL);
        due.is("nothing came", x.count(6), 159);
        due.is("outside ahead of full", x.feed(9, 0), OUTSIDE);
        due.is("160", x.feed(1, 0), 160);
        due.is("full", x.feed(1, 0), FULL);
        due.is("byte 255 cannot stand", x.rule(0), -11);
        due.is("at its first", x.fault(), 0);
        due.is("empty again", x.count(6), 0);
    }

    private static void rule() {
        due.part("promise 13");
        WaterTown x = new WaterTown();
        Due.feed(x, "rate 5;");
        due.is("day", x.rule(-1), OUTSIDE);
        due.is("day", x.rule(200), OUTSIDE);
        due.is("the text stays", x.count(6), 7);
        due.is("rule 0", x.rule(199), 0);
        due.is("an empty text has no fault", x.rule(0), 1);
        due.is("blanks alone", Due.rule(x, "   ", 0), 2);
        due.is("eight clauses", Due.rule(x, "rate 1;rate 2;rate 3;rate 4;rate 5;rate 6;rate 7;rate 8;", 0), 3);
        due.is("the last rules", x.force(2, 0), 8);
        due.is("as long as can be", Due.rule(x, "rate 9;" + " ".repeat(153), 1), 4);
        due.is("no blanks but where they are needed", Due.rule(x, "first far,small;hours0to23;rate10;", 2), 5);
        due.is("keys", x.force(4, 2), 2);
        due.is("hours", x.force(1, 2), 23);
        due.is("figures with 0 ahead", Due.rule(x, "rate 007;hours 00 to 023;", 3), 6);
        due.is("rate", x.force(2, 3), 7);
        due.is("many blanks", Due.rule(x, "  first   always  ,  far  ;  hours 1 to 1 ; ", 3), 7);
        due.is("rules", x.count(4), 8);
        due.is("the eighth holds", x.force(6, 3), 3);
        due.is("the seventh holds with it", x.force(2, 3), 7);
        Due.feed(x, "rate");
        due.is("full ahead of a fault", x.rule(0), FULL);
        due.is("the text stays", x.count(6), 4);
        due.is("outside ahead of full", x.rule(200), OUTSIDE);
        due.is("no fault of that", x.fault(), -1);
    }

    private static void faulty(String text, int fault, int at) {
        WaterTown x = new WaterTown();
        Due.rule(x, "rate 3;", 5);
        due.is("rule '" + text + "'", Due.rule(x, text, 0), -10 - fault);
        due.is("fault of '" + text + "'", x.fault(), at);
        due.is("rules", x.count(4), 1);
        due.is("the text is empty", x.count(6), 0);
        due.is("nothing of it holds", x.force(2, 0), 2);
        due.is("nothing of it holds", x.force(0, 0), 6);
    }

    private static void faults() {
        due.part("promises 13, 14: fault 1");
        faulty("x", 1, 0);
        faulty("  rates 5;", 1, 2);
        faulty("Rate 5;", 1, 0);
        faulty("rat", 1, 0);
        faulty("xate 5;", 1, 0);
        faulty("ratx 5;", 1, 0);
        faulty("zrate 5;", 1, 0);
        faulty("ratez 5;", 1, 0);
        faulty("firstz far;", 1, 0);
        faulty("first far`;", 1, 9);
        faulty("first far{;", 1, 9);
        faulty("rate 5/;", 1, 6);
        faulty("rate 5:;", 1, 6);
        faulty("rate", 1, 4);
        faulty("rate  ", 1, 6);
        faulty("rate 5", 1, 6);
        faulty("rate 5;;", 1, 7);
        faulty("rate 5 5;", 1, 7);
        faulty("rate 5a;", 1, 6);
        faulty("rate five;", 1, 5);
        faulty("rate ,5;", 1, 5);
        faulty("rate -5;", 1, 5);
        faulty("rate5;hours 4 till 5;", 1, 14);
        faulty("hours 4to;", 1, 9);
        faulty("hours 4, 5;", 1, 7);
        faulty("hours to 5;", 1, 6);
        faulty("hours 4 to 5,", 1, 12);
        faulty("first;", 1, 5);
        faulty("first far small;", 1, 10);
        faulty("first far far;", 1, 10);
        faulty("first far,;", 1, 10);
        faulty("first far,", 1, 10);
        faulty("first farsmall;", 1, 6);
        faulty("firstfar;", 1, 0);
        faulty("first rate 5;", 1, 6);
        faulty("first 5;", 1, 6);
        faulty("first 1234;", 1, 6);
        faulty("far;", 1, 0);
        faulty("to;", 1, 0);
        faulty("5;", 1, 0);
        faulty("12345;", 1, 0);
        faulty("strike;", 1, 6);
        faulty("strike 0", 1, 8);
        faulty("meter 1;\n", 1, 8);
        faulty("meter 1;\u00e9", 1, 8);
        due.part("promises 13, 14: fault 2");
        faulty("rate 100;", 2, 5);
        faulty("rate 0005;", 2, 5);
        faulty("rate 99999999999999999999;", 2, 5);
        faulty("meter 100;", 2, 6);
        faulty("meter  1000", 2, 7);
        faulty("hours 24 to 24;", 2, 6);
        faulty("hours 5 to 24;", 2, 11);
        faulty("hours 5 to 4;", 2, 11);
        faulty("hours 5 to 0006;", 2, 11);
        faulty("strike 0000;", 2, 7);
        faulty("rate 100x", 2, 5);
        due.part("promises 13, 14: fault 3");
        faulty("strike 1;", 3, 7);
        faulty("rate 5; strike  999;", 3, 16);
        faulty("strike 0; strike 7;", 3, 17);
        due.part("promises 13, 14: fault 4");
        faulty("first far, far;", 4, 11);
        faulty("first always,turn,small,far,turn;", 4, 28);
        faulty("first far; first small,far,small", 4, 27);
        due.part("promises 13, 14: fault 5");
        String eight = "rate 1;rate 2;rate 3;rate 4;rate 5;rate 6;rate 7;rate 8;";
        faulty(eight + "rate 9;", 5, 56);
        faulty(eight + " first", 5, 57);
        faulty(eight + " strike 9;", 5, 57);
        faulty(eight + "rat 9;", 1, 56);
        faulty(eight + ";", 1, 56);
        faulty(eight + "9", 1, 56);
    }

    private static void faultStays() {
        due.part("promise 14");
        WaterTown x = new WaterTown();
        due.is("none yet", x.fault(), -1);
        Due.rule(x, "rate 5", 0);
        due.is("of the latest", x.fault(), 6);
        x.rule(200);
        due.is("refused otherwise: stays", x.fault(), 6);
        Due.rule(x, "rate 5;", 0);
        due.is("none", x.fault(), -1);
        Due.rule(x, " ;", 0);
        due.is("of the latest", x.fault(), 1);
        for (int k = 0; k < 7; k++) {
            x.rule(0);
        }
        due.is("none", x.fault(), -1);
        due.is("full", x.rule(0), FULL);
        due.is("stays", x.fault(), -1);
    }

    private static void force() {
        due.part("promise 15");
        WaterTown x = new WaterTown();
        int[] first = {6, 8, 2, 1, 2, 0, 1, -1, -1};
        for (int what = 0; what <= 8; what++) {
            due.is("at first " + what, x.force(what, 0), first[what]);
            due.is("at first, on the last day " + what, x.force(what, 199), first[what]);
        }
        due.is("what", x.force(-1, 0), OUTSIDE);
        due.is("what", x.force(9, 0), OUTSIDE);
        due.is("day", x.force(0, -1), OUTSIDE);
        due.is("day", x.force(0, 200), OUTSIDE);
        Due.rule(x, "first far, small, turn, always; meter 99; hours 0 to 23;", 10);
        Due.rule(x, "rate 5; hours 4 to 5; rate 6;", 5);
        Due.rule(x, "rate 7;", 10);
        int[] on9 = {4, 5, 6, 1, 2, 0, 1, -1, -1};
        int[] on10 = {0, 23, 7, 99, 4, 3, 2, 1, 0};
        for (int what = 0; what <= 8; what++) {
            due.is("day 4 " + what, x.force(what, 4), first[what]);
            due.is("day 5 " + what, x.force(what, 5), on9[what]);
            due.is("day 9 " + what, x.force(what, 9), on9[what]);
            due.is("day 10 " + what, x.force(what, 10), on10[what]);
            due.is("day 199 " + what, x.force(what, 199), on10[what]);
        }
        Due.rule(x, "first turn;", 11);
        due.is("keys are put anew", x.force(4, 11), 1);
        due.is("turn", x.force(5, 11), 1);
        due.is("no more", x.force(6, 11), -1);
    }

    private static void strikes() {
        due.part("promise 15, strikes");
        WaterTown x = new WaterTown();
        due.is("0", Due.rule(x, "rate 10;", 0), 0);
        due.is("1", Due.rule(x, "strike 0; rate 11;", 20), 1);
        due.is("2", Due.rule(x, "strike 1; meter 5;", 30), 2);
        due.is("rule 0", x.force(2, 19), 10);
        due.is("rule 1 strikes it", x.force(2, 20), 11);
        due.is("struck by 2, 1 does not count: 0 does", x.force(2, 30), 10);
        due.is("2 counts", x.force(3, 30), 5);
        due.is("3", Due.rule(x, "strike 2;", 25), 3);
        due.is("3 strikes 2, so 1 counts, and 0 does not", x.force(2, 30), 11);
        due.is("2 does not count", x.force(3, 30), 1);
        due.is("one that comes later is struck too", x.force(3, 199), 1);
        due.is("4", Due.rule(x, "strike 0; strike 1; strike 2; strike 3;", 100), 4);
        due.is("all are struck", x.force(2, 100), 2);
        due.is("not a day before", x.force(2, 99), 11);
        due.is("5 begins earlier, and comes later", Due.rule(x, "rate 77;", 1), 5);
        due.is("by days: 5 ahead of 1", x.force(2, 50), 11);
        due.is("5 alone", x.force(2, 100), 77);
        due.is("6", Due.rule(x, "strike 4; rate 78;", 1), 6);
        due.is("like days by numbers", x.force(2, 1), 78);
        due.is("4 is struck from its first day", x.force(2, 100), 11);
    }
}
