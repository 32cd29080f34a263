/** The second part of the terms, and promises 12 to 15: rules as texts, their faults, what holds on a day. */
final class RuleSentences {
    private static final int NONE = Page.NONE, OUTSIDE = Page.OUTSIDE, FULL = Page.FULL;
    private static final int LOW = Page.LOW, HIGH = Page.HIGH;
    private static final String EIGHT = "rate 1;".repeat(8);
    private static final String[][] CLAUSES = {
        {"first", "far", ";"}, {"first", "always", ",", "turn", ",", "small", ",", "far", ";"},
        {"hours", "6", "to", "8", ";"}, {"rate", "5", ";"}, {"meter", "5", ";"}, {"strike", "0", ";"}};

    private final Page page;

    RuleSentences(Page page) {
        this.page = page;
    }

    void all() {
        page.in("2");
        rules();
        grammar();
        keys();
        atFirst();
        hours();
        prices();
        figures();
        words();
        blanks();
        sideBySide();
        strike();
        counting();
        lastRules();
        firstFault();
        fault1();
        fault2();
        fault3();
        fault4();
        fault5();
        feed();
        rule();
        ruleRefused();
        fault();
        force();
    }

    /** A town that has RULE 0 alone: rate 3, from DAY 5 on. */
    private static WaterTown one() {
        WaterTown x = new WaterTown();
        Due.rule(x, "rate 3;", 5);
        return x;
    }

    private WaterTown stands(String text) {
        WaterTown x = one();
        page.is("rule '" + text + "'", Due.rule(x, text, 0), 1);
        page.is("no fault of '" + text + "'", x.fault(), NONE);
        return x;
    }

    private void faulty(String text, int fault, int at) {
        WaterTown x = one();
        page.is("rule '" + text + "'", Due.rule(x, text, 0), -10 - fault);
        page.is("fault of '" + text + "'", x.fault(), at);
        page.is("RULES behind '" + text + "'", x.count(4), 1);
        page.is("nothing of '" + text + "' holds", x.force(2, 0) * 100 + x.force(0, 0) * 10 + x.force(3, 0), 261);
    }

    private void holds(WaterTown x, int day, int from, int to, int rate, int meter, int... keys) {
        int[] want = {from, to, rate, meter, keys.length, NONE, NONE, NONE, NONE};
        System.arraycopy(keys, 0, want, 5, keys.length);
        for (int what = 0; what <= 8; what++) {
            page.is("force " + what + " on " + day, x.force(what, day), want[what]);
        }
    }

    private void rules() {
        page.says("RULES (8 at most) are texts (160 bytes at most each), in force from a DAY (0 .. 199) on:");
        WaterTown x = new WaterTown();
        page.is("of 160 bytes", Due.rule(x, "rate 40;" + " ".repeat(152), 0), 0);
        page.is("161 bytes do not come to be", Due.feed(x, "rate 41;" + " ".repeat(153)), FULL);
        page.is("160 of them did", x.rule(199), 1);
        for (int r = 2; r < 8; r++) {
            page.is("rule " + r, Due.rule(x, "rate 4" + r + ";", 100), r);
        }
        Due.feed(x, "rate 50;");
        page.is("a ninth", x.rule(0), FULL);
        page.is("DAY 0", x.force(2, 0), 40);
        page.is("DAY 99", x.force(2, 99), 40);
        page.is("DAY 100", x.force(2, 100), 47);
        page.is("DAY 198", x.force(2, 198), 47);
        page.is("DAY 199", x.force(2, 199), 41);
        page.is("DAY -1", x.rule(-1), OUTSIDE);
        page.is("DAY 200", x.rule(200), OUTSIDE);
    }

    private static String join(String[] tokens, int count, String between) {
        StringBuilder text = new StringBuilder();
        for (int k = 0; k < count; k++) {
            text.append(k == 0 ? "" : between).append(tokens[k]);
        }
        return text.toString();
    }

    private void grammar() {
        page.says("clause = 'first' key {',' key} ';' 'hours' N 'to' N ';' 'rate' N ';' 'meter' N ';' 'strike' N ';'.");
        String[] others = {"far", "first", "to", "hours", "rate", "x", ",", ";", "7", "(", ""};
        for (String[] clause : CLAUSES) {
            String whole = join(clause, clause.length, " ");
            stands(whole);
            stands(whole + whole);
            for (int k = 1; k < clause.length; k++) {
                String part = join(clause, k, " ");
                faulty(part, 1, part.length());
                for (String other : others) {
                    boolean number = clause[k].matches("[0-9]+") && other.equals("7");
                    boolean comma = clause[0].equals("first") && k % 2 == 0 && (other.equals(",") || other.equals(";"));
                    boolean key = clause[0].equals("first") && k % 2 == 1 && other.equals("far");
                    if (!number && !comma && !key && !other.equals(clause[k])) {
                        faulty(part + " " + other, 1, part.length() + 1);
                    }
                }
            }
        }
        for (String other : new String[] {"far", "to", "x", ",", ";", "7", "("}) {
            faulty(other, 1, 0);
            faulty("rate 5;" + other, 1, 7);
        }
    }

    private void keys() {
        page.says("key = 'always' | 'turn' | 'small' | 'far'.");
        String[] names = {"always", "turn", "small", "far"};
        for (int a = 0; a < 4; a++) {
            holds(stands("first " + names[a] + ";"), 0, 6, 8, 2, 1, a);
            for (int b = 0; b < 4; b++) {
                if (a != b) holds(stands("first " + names[a] + "," + names[b] + ";"), 0, 6, 8, 2, 1, a, b);
            }
        }
        holds(stands("first far,small,turn,always;"), 0, 6, 8, 2, 1, 3, 2, 1, 0);
        faulty("first alway;", 1, 6);
        faulty("first farr;", 1, 6);
        faulty("first first;", 1, 6);
    }

    private void atFirst() {
        page.says("With what holds at first: first always, turn;");
        WaterTown x = new WaterTown();
        holds(x, 0, 6, 8, 2, 1, 0, 1);
        holds(x, 199, 6, 8, 2, 1, 0, 1);
        WaterTown y = one();
        holds(y, 4, 6, 8, 2, 1, 0, 1);
        holds(y, 5, 6, 8, 3, 1, 0, 1);
    }

    private void hours() {
        page.says("hours 6 to 8 (0 .. 23, the latter not below; both with it);");
        WaterTown x = new WaterTown();
        x.street(0, 1, 1, 0, 0, 0);
        for (int hour = 0; hour < 24; hour++) {
            page.is("water in hour " + hour, x.flow(hour, 0, 0), hour >= 6 && hour <= 8 ? 1 : 0);
        }
        int[][] good = {{0, 0}, {0, 23}, {23, 23}, {5, 5}, {5, 6}};
        for (int[] g : good) {
            holds(stands("hours " + g[0] + " to " + g[1] + ";"), 0, g[0], g[1], 2, 1, 0, 1);
        }
        faulty("hours 24 to 24;", 2, 6);
        faulty("hours 0 to 24;", 2, 11);
        faulty("hours 5 to 4;", 2, 11);
        faulty("hours 23 to 0;", 2, 12);
        Due.rule(x, "hours 0 to 23;", 0);
        for (int hour = 0; hour < 24; hour++) {
            page.is("water in all hours", x.flow(hour, 0, 0), 1);
        }
    }

    private void prices() {
        page.says("rate 2, meter 1 (0 .. 99).");
        page.is("rate at first", new WaterTown().force(2, 0), 2);
        page.is("meter at first", new WaterTown().force(3, 0), 1);
        holds(stands("rate 0;"), 0, 6, 8, 0, 1, 0, 1);
        holds(stands("rate 99;"), 0, 6, 8, 99, 1, 0, 1);
        holds(stands("meter 0;"), 0, 6, 8, 2, 0, 0, 1);
        holds(stands("meter 99;"), 0, 6, 8, 2, 99, 0, 1);
        faulty("rate 100;", 2, 5);
        faulty("meter 100;", 2, 6);
    }

    private void figures() {
        page.says("NUMBERS have one to three figures;");
        holds(stands("rate 7;"), 0, 6, 8, 7, 1, 0, 1);
        holds(stands("rate 07;"), 0, 6, 8, 7, 1, 0, 1);
        holds(stands("rate 007;"), 0, 6, 8, 7, 1, 0, 1);
        holds(stands("hours 000 to 023; meter 000;"), 0, 0, 23, 2, 0, 0, 1);
        stands("strike 000;");
        faulty("rate 0007;", 2, 5);
        faulty("rate ;", 1, 5);
    }

    private void words() {
        page.says("words are letters a .. z side by side;");
        for (int c = 0; c < 256; c++) {
            boolean letter = c >= 'a' && c <= 'z';
            boolean figure = c >= '0' && c <= '9';
            String text = "rate" + (char) c + "5;";
            if (c == ' ' || figure) {
                stands(text);
            } else {
                faulty(text, 1, letter ? 0 : 4);
            }
        }
        faulty("RATE 5;", 1, 0);
        faulty("ratE 5;", 1, 0);
    }

    private void blanks() {
        page.says("blanks (32) may stand anywhere but within words and NUMBERS;");
        for (String[] clause : CLAUSES) {
            stands("   " + join(clause, clause.length, "    ") + "  ");
        }
        stands("first always,turn,small,far;hours6to8;rate2;meter1;strike0;");
        faulty("ra te 5;", 1, 0);
        faulty("hours 6 t o 8;", 1, 8);
        faulty("first fa r;", 1, 6);
        faulty("rate 1 2;", 1, 7);
        for (int c : new int[] {0, 9, 10, 13, 31, 33, 160}) {
            faulty("rate 5; " + (char) c + "rate 6;", 1, 8);
        }
    }

    private void sideBySide() {
        page.says("two words or two NUMBERS side by side need one.");
        faulty("firstfar;", 1, 0);
        faulty("hours 6to 24;", 2, 10);
        stands("hours6to 8;");
        stands("rate5;rate6;");
        faulty("hours 6 to8 8;", 1, 12);
        faulty("rate 51 51;", 1, 8);
        faulty("rate 5151;", 2, 5);
    }

    private void strike() {
        page.says("'strike' k: no clause of RULE k (one that there is already) holds from the DAY of this one on.");
        WaterTown x = new WaterTown();
        Due.rule(x, "first far; hours 1 to 2; rate 3; meter 4;", 0);
        page.is("a RULE that there is already", Due.rule(x, "strike 0;", 10), 1);
        holds(x, 9, 1, 2, 3, 4, 3);
        holds(x, 10, 6, 8, 2, 1, 0, 1);
        holds(x, 199, 6, 8, 2, 1, 0, 1);
        page.is("not itself", Due.rule(x, "strike 2;", 0), -13);
        page.is("one that is struck already", Due.rule(x, "strike 0; rate 5;", 20), 2);
        page.is("struck still", x.force(0, 20), 6);
        page.is("its strike is no clause that holds", Due.rule(x, "strike 1; strike 2;", 30), 3);
        holds(x, 29, 6, 8, 5, 1, 0, 1);
        holds(x, 30, 1, 2, 3, 4, 3);
        WaterTown y = new WaterTown();
        Due.rule(y, "rate 50;", 40);
        Due.rule(y, "strike 0;", 30);
        page.is("struck ahead of its own DAY", y.force(2, 40), 2);
        WaterTown z = new WaterTown();
        Due.rule(z, "rate 50;", 40);
        Due.rule(z, "strike 0; strike 0;", 40);
        page.is("struck on its own DAY", z.force(2, 40), 2);
    }

    private void counting() {
        page.says("On a DAY: of RULES whose DAY is not after it, from the last number down, one that is not struck by one that counts, "
                + "counts.");
        WaterTown x = new WaterTown();
        Due.rule(x, "rate 10;", 0);
        for (int r = 1; r < 8; r++) {
            Due.rule(x, "strike " + (r - 1) + "; rate 1" + r + ";", r);
        }
        int[] want = {10, 11, 12, 13, 14, 15, 16, 17};
        for (int day = 0; day < 8; day++) {
            page.is("DAY " + day, x.force(2, day), want[day]);
        }
        WaterTown y = new WaterTown();
        Due.rule(y, "meter 10;", 0);
        Due.rule(y, "strike 0; rate 11;", 0);
        page.is("0 is struck by 1", y.force(3, 8), 1);
        Due.rule(y, "strike 1;", 9);
        page.is("its DAY is after it", y.force(3, 8), 1);
        page.is("1 is struck, 0 counts", y.force(3, 9), 10);
        page.is("1 does not", y.force(2, 9), 2);
        Due.rule(y, "strike 2;", 10);
        page.is("2 is struck, 1 counts", y.force(2, 10), 11);
        page.is("and strikes 0", y.force(3, 10), 1);
        page.is("the DAY before", y.force(3, 9), 10);
        Due.rule(y, "strike 2; strike 3;", 10);
        page.is("3 is struck, and 2 with it", y.force(2, 10), 11);
        WaterTown z = new WaterTown();
        Due.rule(z, "rate 10;", 0);
        Due.rule(z, "meter 20;", 0);
        Due.rule(z, "strike 0;", 0);
        Due.rule(z, "strike 1;", 0);
        Due.rule(z, "hours 1 to 1;", 0);
        page.is("0 is struck by 2, which 3 does not", z.force(2, 0), 2);
        page.is("1 is struck by 3", z.force(3, 0), 1);
        page.is("4 strikes none", z.force(0, 0), 1);
    }

    private void lastRules() {
        page.says("They follow one another by DAYS, then numbers; the last rules.");
        WaterTown x = new WaterTown();
        Due.rule(x, "rate 20; hours 3 to 3;", 50);
        Due.rule(x, "rate 21; meter 31;", 10);
        Due.rule(x, "rate 22;", 50);
        Due.rule(x, "rate 23; first far, turn;", 10);
        Due.rule(x, "rate 24;", 199);
        holds(x, 9, 6, 8, 2, 1, 0, 1);
        holds(x, 10, 6, 8, 23, 31, 3, 1);
        holds(x, 49, 6, 8, 23, 31, 3, 1);
        holds(x, 50, 3, 3, 22, 31, 3, 1);
        holds(x, 198, 3, 3, 22, 31, 3, 1);
        holds(x, 199, 3, 3, 24, 31, 3, 1);
        WaterTown y = new WaterTown();
        Due.rule(y, "rate 20;", 50);
        Due.rule(y, "rate 21; meter 31;", 10);
        page.is("one that came first, of a later DAY", y.force(2, 50), 20);
        Due.rule(y, "rate 22; meter 32;", 9);
        page.is("still", y.force(2, 50), 20);
        page.is("DAY 49", y.force(2, 49) * 100 + y.force(3, 49), 2131);
        page.is("DAY 9", y.force(2, 9) * 100 + y.force(3, 9), 2232);
        holds(stands("rate 5; rate 6; first far; first small, turn; hours 9 to 9; hours 1 to 2;"), 0, 1, 2, 6, 1, 2, 1);
    }

    private void firstFault() {
        page.says("FAULTS, at the first byte that has one (the end at the text's length), of these the least:");
        faulty("rate 100; strike 9;", 2, 5);
        faulty("strike 9; rate 100;", 3, 7);
        faulty("first far,far; strike 9;", 4, 10);
        faulty("rate 100", 2, 5);
        faulty("rate 100 x", 2, 5);
        faulty("strike 9", 3, 7);
        faulty("first far,far", 4, 10);
        faulty("rate 5", 1, 6);
        faulty("rate 5   ", 1, 9);
        faulty("rate 5" + " ".repeat(154), 1, 160);
        faulty("rate", 1, 4);
        faulty("first far far;", 1, 10);
        faulty("first 1000;", 1, 6);
        faulty("1000;", 1, 0);
        faulty("rate 5 1000;", 1, 7);
        faulty("strike 1000;", 2, 7);
        faulty(EIGHT + "far", 1, 56);
        faulty(EIGHT + "strike 1000;", 5, 56);
    }

    private void fault1() {
        page.says("1 it cannot stand there (a word that cannot: at its first letter).");
        faulty("ratefirst 5;", 1, 0);
        faulty("   rat 5;", 1, 3);
        faulty("hours 6 too 8;", 1, 8);
        faulty("hours 6 t 8;", 1, 8);
        faulty("first far, near;", 1, 11);
        faulty("first to;", 1, 6);
        faulty("rate far;", 1, 5);
        faulty("rate 5far;", 1, 6);
        faulty(";", 1, 0);
        faulty("rate 5;;", 1, 7);
        faulty("rate 5.;", 1, 6);
        faulty("rate -5;", 1, 5);
        faulty("rate +5;", 1, 5);
        faulty("far" + (char) 255, 1, 0);
        for (String[] clause : CLAUSES) {
            for (int k = 0; k < clause.length; k++) {
                if (clause[k].matches("[a-z]+")) spoil(clause, k);
            }
        }
    }

    /** A word of a clause with one letter another, less or more cannot stand there. */
    private void spoil(String[] clause, int k) {
        String before = k == 0 ? "" : join(clause, k, " ") + " ";
        String word = clause[k];
        faulty(before + word + "s ", 1, before.length());
        faulty(before + word.substring(1), 1, before.length());
        faulty(before + word.substring(0, word.length() - 1), 1, before.length());
        for (int at = 0; at < word.length(); at++) {
            faulty(before + word.substring(0, at) + "z" + word.substring(at + 1), 1, before.length());
        }
    }

    private void fault2() {
        page.says("2 a NUMBER of four figures or more, or out of its bounds (at its first).");
        faulty("rate 1000;", 2, 5);
        faulty("rate 0000;", 2, 5);
        faulty("meter 00000001;", 2, 6);
        faulty("rate 4294967301;", 2, 5);
        faulty("rate 18446744073709551621;", 2, 5);
        faulty("rate " + "0".repeat(154) + ";", 2, 5);
        faulty("rate " + "9".repeat(155), 2, 5);
        faulty("rate   999;", 2, 7);
        faulty("hours 0024 to 5;", 2, 6);
        faulty("hours 5 to 0005;", 2, 11);
        faulty("hours 8 to 7;", 2, 11);
        faulty("strike 0000;", 2, 7);
        faulty("strike 1000;", 2, 7);
    }

    private void fault3() {
        page.says("3 a strike of a RULE that there is not (at its first).");
        faulty("strike 1;", 3, 7);
        faulty("strike 999;", 3, 7);
        faulty("strike   001;", 3, 9);
        faulty("strike 0; strike 8;", 3, 17);
        faulty("strike 32;", 3, 7);
        WaterTown x = new WaterTown();
        page.is("there is none yet", Due.rule(x, "strike 0;", 0), -13);
        page.is("at its first figure", x.fault(), 7);
        for (int r = 0; r < 7; r++) {
            x.rule(199);
        }
        page.is("not itself", Due.rule(x, "strike 7;", 0), -13);
        page.is("the last of seven", Due.rule(x, "strike 6; strike 0;", 0), 7);
    }

    private void fault4() {
        page.says("4 a key again in its clause (at its first letter).");
        for (String key : new String[] {"always", "turn", "small", "far"}) {
            faulty("first " + key + "," + key + ";", 4, 7 + key.length());
        }
        faulty("first far, turn,  far", 4, 18);
        faulty("first always,turn,small,far,always;", 4, 28);
        stands("first far; first far;");
        stands("first far, turn; first turn, far;");
    }

    private void fault5() {
        page.says("5 a ninth clause (at its first letter).");
        stands(EIGHT);
        stands(EIGHT + "   ");
        faulty(EIGHT + "rate 1;", 5, 56);
        faulty(EIGHT + "  hours", 5, 58);
        faulty(EIGHT + "first", 5, 56);
        faulty(EIGHT + "meter 100;", 5, 56);
        faulty(EIGHT + "strike 9;", 5, 56);
        faulty("strike 0;".repeat(8) + "strike 0;", 5, 72);
        faulty(EIGHT + "5", 1, 56);
        faulty("rate 1;".repeat(7) + "rate 100;", 2, 54);
    }

    private void feed() {
        page.in("promise 12");
        page.says("Up to eight bytes (n 1 .. 8) of a long, the highest of these first, come behind THE TEXT: how many it has.");
        WaterTown x = new WaterTown();
        page.is("eight", x.feed(8, 0x7261746520313233L), 8);
        page.is("bytes above the first n do not come", x.feed(1, 0x7261746520313b3bL), 9);
        page.is("rate 123;", x.rule(0), -12);
        page.is("its NUMBER", x.fault(), 5);
        page.is("the highest of five", x.feed(5, 0x6d65746572L), 5);
        page.is("a negative long", x.feed(3, 0xffffffffff20373bL), 8);
        page.is("meter 7;", x.rule(0), 0);
        page.is("it is that", x.force(3, 0), 7);
        page.is("byte 255", x.feed(1, -1L), 1);
        page.is("cannot stand", x.rule(0), -11);
        page.is("eight bytes 255", x.feed(8, -1L), 8);
        page.is("byte 0 is a byte", x.feed(1, 0), 9);
        for (int n = 1; n <= 8; n++) {
            int before = x.count(6);
            page.is("n " + n, x.feed(n, 0), before + n);
        }
        page.says("OUTSIDE, FULL.");
        for (int n : new int[] {0, 9, -1, LOW, HIGH}) {
            page.is("n " + n, x.feed(n, 0), OUTSIDE);
        }
        for (int last = 153; last <= 160; last++) {
            fill(last);
        }
    }

    private void fill(int bytes) {
        WaterTown x = new WaterTown();
        Due.feed(x, " ".repeat(bytes));
        page.is("bytes", x.count(6), bytes);
        for (int n = 8; n > 160 - bytes; n--) {
            page.is(n + " behind " + bytes, x.feed(n, 0), FULL);
        }
        page.is("none of them came", x.count(6), bytes);
        page.is("n 9 ahead of that", x.feed(9, 0), OUTSIDE);
        if (bytes < 160) page.is("as many as there is room for", x.feed(160 - bytes, 0), 160);
    }

    private void rule() {
        page.in("promise 13");
        page.says("THE TEXT (it is empty then) becomes a RULE, in force from a DAY (0 .. 199) on: its number;");
        WaterTown x = new WaterTown();
        Due.feed(x, "rate 9;");
        page.is("from DAY 0", x.rule(0), 0);
        page.is("no bytes", x.count(6), 0);
        page.is("holds on 0", x.force(2, 0), 9);
        page.is("from DAY 199", Due.rule(x, "rate 8;", 199), 1);
        page.is("not on 198", x.force(2, 198), 9);
        page.is("holds on 199", x.force(2, 199), 8);
        page.is("THE TEXT is empty: a RULE without clauses", x.rule(0), 2);
        page.is("blanks alone", Due.rule(x, " ".repeat(160), 0), 3);
        page.is("nothing else holds by these", x.force(2, 0), 9);
        page.says("-10 less the number of its FAULT.");
        WaterTown y = new WaterTown();
        Due.rule(y, "meter 50;", 0);
        page.is("all sorts of clauses, then a FAULT", Due.rule(y, "strike 0; first far; hours 1 to 2; rate 3; meter 4; x", 0), -11);
        page.is("the next RULE", y.rule(0), 1);
        holds(y, 0, 6, 8, 2, 50, 0, 1);
        page.is("a FAULT within hours", Due.rule(y, "hours 1 to 0;", 0), -12);
        page.is("the next RULE", Due.rule(y, "rate 9;", 0), 2);
        holds(y, 0, 6, 8, 9, 50, 0, 1);
        String[] texts = {"x", "rate 100;", "strike 4;", "first far,far;", EIGHT + "rate 1;"};
        for (int k = 0; k < 5; k++) {
            page.is(texts[k], Due.rule(x, texts[k], 0), -11 - k);
            page.is("THE TEXT is empty then", x.count(6), 0);
            page.is("no RULE of it", x.count(4), 4);
        }
    }

    private void ruleRefused() {
        page.says("OUTSIDE, FULL (THE TEXT stays).");
        WaterTown x = new WaterTown();
        Due.feed(x, "rate 9;");
        for (int day : new int[] {-1, 200, LOW, HIGH}) {
            page.is("DAY " + day, x.rule(day), OUTSIDE);
            page.is("THE TEXT stays", x.count(6), 7);
        }
        page.is("as it was", x.rule(3), 0);
        page.is("it holds", x.force(2, 3), 9);
        for (int r = 1; r < 8; r++) {
            page.is("rule " + r, x.rule(0), r);
        }
        Due.feed(x, "rate 7;");
        page.is("full", x.rule(0), FULL);
        page.is("THE TEXT stays", x.count(6), 7);
        page.is("DAY ahead of full", x.rule(200), OUTSIDE);
        page.is("more comes behind it", x.feed(1, ' '), 8);
        page.is("nothing of it holds", x.force(2, 199), 9);
    }

    private void fault() {
        page.in("promise 14");
        page.says("The byte of the FAULT of the latest rule() that was not refused otherwise; NONE.");
        WaterTown x = new WaterTown();
        page.is("no rule() yet", x.fault(), NONE);
        x.rule(200);
        page.is("refused", x.fault(), NONE);
        Due.rule(x, "rate 5", 0);
        page.is("at the end", x.fault(), 6);
        x.rule(200);
        page.is("refused otherwise: the one before it", x.fault(), 6);
        page.is("it stays while none comes", x.fault(), 6);
        Due.feed(x, "x");
        page.is("nor by a text", x.fault(), 6);
        x.rule(0);
        page.is("the latest", x.fault(), 0);
        for (int r = 0; r < 8; r++) {
            x.rule(0);
            page.is("none", x.fault(), NONE);
        }
        Due.feed(x, "x");
        page.is("full", x.rule(0), FULL);
        page.is("refused otherwise", x.fault(), NONE);
        WaterTown y = new WaterTown();
        Due.rule(y, "rate 5" + " ".repeat(154), 0);
        page.is("at the end of the longest", y.fault(), 160);
    }

    private void force() {
        page.in("promise 15");
        page.says("What holds on a DAY: what = 0, 1 hours, 2 rate, 3 meter, 4 how many keys, 5 and k the k-th (0 always .. 3 far; NONE).");
        WaterTown x = new WaterTown();
        holds(x, 0, 6, 8, 2, 1, 0, 1);
        Due.rule(x, "first far;", 1);
        Due.rule(x, "first small,turn,always;", 2);
        Due.rule(x, "first turn,always,far,small;", 3);
        Due.rule(x, "hours 0 to 23; rate 99; meter 0;", 4);
        holds(x, 0, 6, 8, 2, 1, 0, 1);
        holds(x, 1, 6, 8, 2, 1, 3);
        holds(x, 2, 6, 8, 2, 1, 2, 1, 0);
        holds(x, 3, 6, 8, 2, 1, 1, 0, 3, 2);
        holds(x, 4, 0, 23, 99, 0, 1, 0, 3, 2);
        holds(x, 199, 0, 23, 99, 0, 1, 0, 3, 2);
        x.go(200);
        holds(x, 0, 6, 8, 2, 1, 0, 1);
        page.says("OUTSIDE (what 0 .. 8).");
        for (int bad : new int[] {-1, 9, LOW, HIGH}) {
            page.is("what " + bad, x.force(bad, 0), OUTSIDE);
        }
        for (int bad : new int[] {-1, 200, LOW, HIGH}) {
            page.is("DAY " + bad, x.force(0, bad), OUTSIDE);
        }
    }
}
