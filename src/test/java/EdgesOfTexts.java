/** Terms 1, promises 1 to 5 and 35 to 37, sentence by sentence: the tape, texts and their FAULTS, counts, images. */
final class EdgesOfTexts {
    private static final int NONE = QuotaParish.NONE;
    private static final int MIN = Integer.MIN_VALUE;
    private static final int MAX = Integer.MAX_VALUE;
    private static final int PARISH = Checks.PARISH;
    private static final int YEARS = Checks.YEARS;
    private static final int LOG = Checks.LOG;
    /** Seven, ten bytes each. */
    private static final String HOUSES = "house 1 1;".repeat(7);

    private final Edges e;

    EdgesOfTexts(Edges e) {
        this.e = e;
    }

    void run() {
        parishNumbers();
        rulesToldAtMost();
        deedsAndFacts();
        tokens();
        everyByte();
        parishGrammar();
        yearsGrammar();
        logGrammar();
        strikes();
        firstFault();
        faultOrder();
        badNumbers();
        tooMany();
        absentHouses();
        atMostTwo();
        newObject();
        feed();
        end();
        text();
        textRefused();
        fault();
        count();
        image();
        again();
        fiveHundredCalls();
    }

    // ---- Terms 1 ----

    private void parishNumbers() {
        e.says(Doc.TERMS, "A PARISH has a QUOTA, 0 .. 99 (10 at first), a PRICE of an OFFICE, 0 .. 99 (10 at first);");
        QuotaParish first = Checks.parish("");
        e.run("at first", w -> first.parish(0, w), 0, 10, 10);
        QuotaParish least = Checks.parish("quota 0;price 0;");
        e.run("the least", w -> least.parish(0, w), 0, 0, 0);
        QuotaParish most = Checks.parish("quota 99;price 99;");
        e.run("the most", w -> most.parish(0, w), 0, 99, 99);
        e.text(PARISH, "quota 100;", 1, 6);
        e.text(PARISH, "price 100;", 1, 6);
        Checks.tell(most, PARISH, 0, "");
        e.run("at first, in the place of another", w -> most.parish(0, w), 0, 10, 10);

        e.says(Doc.TERMS, "HOUSES, at most 7, from 0 on: GOODS, 0 .. 99, YIELD, 0 .. 9;");
        e.due("none", first.parish(0, 2), 0);
        QuotaParish x = Checks.parish("house 99 9;house 0 0;house 2 3;house 4 5;house 6 7;house 8 1;house 10 2;");
        e.due("seven", x.parish(0, 2), 7);
        e.run("GOODS", w -> x.parish(0, w), 10, 99, 0, 2, 4, 6, 8, 10, NONE);
        e.run("YIELD", w -> x.parish(0, w), 20, 9, 0, 3, 5, 7, 1, 2, NONE);
        e.text(PARISH, HOUSES + "house 1 1;", 3, 70);
        e.text(PARISH, "house 100 0;", 1, 6);
        e.text(PARISH, "house 99 10;", 2, 9);
        e.text(PARISH, "house 99 99;", 2, 9);

        e.says(Doc.TERMS, "HOUSES that hold an OFFICE (none at first);");
        e.due("none at first", Checks.parish(HOUSES).parish(0, 4), 0);
        e.due("the first and the last", Checks.parish(HOUSES + "office 6;office 0;").parish(0, 4), 65);
        e.due("all", Checks.parish(HOUSES + "office 0;office 1;office 2;office 3;office 4;office 5;office 6;").parish(0, 4), 127);
    }

    private void rulesToldAtMost() {
        e.says(Doc.TERMS, "RULES, at most 10, from 0 on: a tie, of a HOUSE to a PATRON, an unlike HOUSE, or a pact, of a HOUSE by two"
            + " PATRONS, unlike it and each other.");
        e.due("none", Checks.parish(HOUSES).parish(0, 3), 0);
        QuotaParish x = Checks.parish(HOUSES + "tie 0 6;pact 6 0 5;tie 1 0;tie 2 0;tie 3 0;tie 4 0;tie 5 0;tie 0 1;tie 0 2;pact 1 2 3;");
        e.due("ten", x.parish(0, 3), 10);
        e.rows("the first ones and the last", w -> x.parish(0, w), new int[][] {
            {40, 0}, {50, 6}, {60, NONE}, {41, 6}, {51, 0}, {61, 5}, {48, 0}, {58, 2}, {68, NONE}, {49, 1}, {59, 2}, {69, 3}});
        e.text(PARISH, HOUSES + "tie 0 1;".repeat(11), 3, 150);
        e.text(PARISH, HOUSES + "tie 3 3;", 2, 76);
        e.text(PARISH, HOUSES + "pact 3 3 1;", 2, 77);
        e.text(PARISH, HOUSES + "pact 3 1 3;", 2, 79);
        e.text(PARISH, HOUSES + "pact 3 1 1;", 2, 79);
    }

    private void deedsAndFacts() {
        e.says(Doc.TERMS, "YEARS have DEEDS, at most 40, from 0 on.");
        QuotaParish x = new QuotaParish();
        Checks.tell(x, YEARS, NONE, "buy 5;" + "year;".repeat(38) + "lose 6;");
        Checks.tell(x, YEARS, NONE, "");
        e.rows("how many", y -> x.deed(y, NONE, 0), new int[][] {{0, 40}, {1, 0}});
        e.rows("DEED", k -> x.deed(0, k, 0), new int[][] {{0, 1}, {1, 0}, {38, 0}, {39, 2}, {40, -2}});
        e.due("none is there", x.deed(1, 0, 0), -2);
        e.text(YEARS, "year;".repeat(41), 3, 200);

        e.says(Doc.TERMS, "A LOG has FACTS, at most 8, from 0 on: a HOUSE had so much TAX, 0 .. 99.");
        Checks.tell(x, LOG, NONE, "paid 1 0;" + "paid 0 1;".repeat(6) + "paid 2 99;");
        Checks.tell(x, LOG, NONE, "");
        e.rows("how many", l -> x.fact(l, NONE, 0), new int[][] {{0, 8}, {1, 0}});
        e.rows("TAX of FACT", k -> x.fact(0, k, 1), new int[][] {{0, 0}, {1, 1}, {6, 1}, {7, 99}, {8, -2}});
        e.due("none is there", x.fact(1, 0, 0), -2);
        e.text(LOG, "paid 0 1;".repeat(9), 3, 72);
        e.text(LOG, "paid 0 100;", 1, 7);

        e.says(Doc.TERMS, "THE TAPE has at most 600 bytes.");
        QuotaParish full = new QuotaParish();
        Checks.feed(full, " ".repeat(590) + "house 1 2;");
        e.due("full", full.end(600), 600);
        e.due("no more", full.feed(0, 0, 0, 0, 0), NONE);
        e.due("all of it is a text", full.text(PARISH, NONE), 0);
        e.due("to the last byte", full.parish(0, 20), 2);
        Checks.feed(full, " ".repeat(591) + "house 1 2");
        e.due("the end's place there", full.text(PARISH, 0), NONE);
        e.due("is 600", full.fault(1), 600);
    }

    private void tokens() {
        e.says(Doc.TERMS, "TOKENS, as long as they go, blanks (10, 32) between: words, rows of letters a .. z; NUMBERS, 1 or 2 digits;"
            + " ; one byte.");
        e.sound(PARISH, "quota5;", "quota\n5\n;\n", "  quota  5  ;  ", "\n\n", "quota 05;", "quota 00;price 9;");
        e.due("05 is 5", Checks.parish("quota 05;").parish(0, 0), 5);
        e.due("two digits", Checks.parish("quota 50;").parish(0, 0), 50);
        e.text(PARISH, "house 12;", 1, 8);
        e.text(PARISH, "quota 1 0;", 1, 8);
        e.text(PARISH, "quot a 1;", 1, 0);
        e.text(PARISH, "quotaquota 1;", 1, 0);
        e.text(PARISH, "quota 1;;", 1, 8);
        e.text(YEARS, "yearyear;", 1, 0);
        e.text(YEARS, "ye ar;", 1, 0);
        e.sound(YEARS, "year;year;", "year ;\nyear;", "cut1;");
        e.text(YEARS, "cut1 2;", 1, 5);
    }

    /** Every byte behind a whole line, behind a word, and behind a NUMBER, where only one byte makes the text sound. */
    private void everyByte() {
        for (int b = 0; b < 256; b++) {
            char c = (char) b;
            boolean blank = b == 10 || b == 32;
            boolean letter = b >= 97 && b <= 122;
            boolean digit = b >= 48 && b <= 57;
            e.text(PARISH, "quota 1;" + c, blank ? 0 : 1, blank ? NONE : 8);
            e.text(PARISH, "quota" + c + " 1;", blank ? 0 : 1, blank ? NONE : letter ? 0 : digit ? 7 : 5);
            e.text(PARISH, "quota 1" + c, c == ';' ? 0 : 1, c == ';' ? NONE : blank || digit ? 8 : 7);
        }
        otherWords();
    }

    /** Each word with another letter in each place, one letter more and one less. */
    private void otherWords() {
        String[][] lines = {{"quota 1;", "price 1;", "house 1 1;", "office 0;", "tie 0 1;", "pact 0 1 2;"},
            {"year;", "buy 0;", "lose 0;", "quota 1;", "price 1;", "cut 0;"}, {"paid 0 0;"}};
        for (int sort = 0; sort < 3; sort++) {
            for (String line : lines[sort]) {
                for (int i = 0; line.charAt(i) >= 'a'; i++) {
                    e.text(sort, line.substring(0, i) + "x" + line.substring(i + 1), 1, 0);
                    e.text(sort, line.substring(0, i) + line.substring(i + 1), 1, 0);
                    e.text(sort, line.substring(0, i) + "x" + line.substring(i), 1, 0);
                }
            }
        }
    }

    private void parishGrammar() {
        e.says(Doc.TERMS, "A PARISH's text: {(('quota' | 'price' | 'office') NUMBER | ('house' | 'tie') NUMBER NUMBER | 'pact' NUMBER"
            + " NUMBER NUMBER) ';'}");
        e.sound(PARISH, "", "quota 1;", "price 1;", "house 1 1;", "office 0;house 1 1;", HOUSES + "tie 0 1;pact 0 1 2;");
        Object[][] broken = {{"quota;", 5}, {"quota 1 1;", 8}, {"price;", 5}, {"price 1 1;", 8}, {"office;", 6}, {"office 0 1;", 9},
            {"house;", 5}, {"house 1;", 7}, {"house 1 1 1;", 10}, {"tie;", 3}, {"tie 0;", 5}, {"tie 0 1 2;", 8}, {"pact;", 4},
            {"pact 0;", 6}, {"pact 0 1;", 8}, {"pact 0 1 2 3;", 11}, {"quota 1 quota 2;", 8}, {"quota quota;", 6}, {";", 0}, {"5;", 0},
            {"year;", 0}, {"buy 0;", 0}, {"lose 0;", 0}, {"cut 0;", 0}, {"paid 0 0;", 0}, {"parish;", 0}};
        for (Object[] b : broken) {
            e.text(PARISH, (String) b[0], 1, (Integer) b[1]);
        }

        e.says(Doc.TERMS, "(office: a HOUSE; house: GOODS, YIELD; tie: a HOUSE, its PATRON; pact: a HOUSE, two PATRONS; HOUSES are 0 .. 6).");
        QuotaParish x = Checks.parish("house 12 3;house 4 5;house 6 7;tie 0 1;pact 2 0 1;office 1;");
        e.rows("which is which", w -> x.parish(0, w), new int[][] {{4, 2}, {10, 12}, {20, 3}, {40, 0}, {50, 1}, {41, 2}, {51, 0}, {61, 1}});
        e.sound(PARISH, HOUSES + "office 0;office 6;tie 6 0;tie 0 6;pact 6 0 1;pact 0 6 1;pact 0 1 6;");
        Object[][] sevens = {{"office 7;", 77}, {"office 99;", 77}, {"tie 7 0;", 74}, {"tie 0 7;", 76}, {"pact 7 0 1;", 75},
            {"pact 0 7 1;", 77}, {"pact 0 1 7;", 79}};
        for (Object[] s : sevens) {
            e.text(PARISH, HOUSES + s[0], 2, (Integer) s[1]);
        }
    }

    private void yearsGrammar() {
        e.says(Doc.TERMS, "A text of YEARS: {('year' | ('buy' | 'lose' | 'quota' | 'price' | 'cut') NUMBER) ';'} (buy, lose: a HOUSE;"
            + " cut: a RULE, 0 .. 9).");
        e.sound(YEARS, "", "year;buy 0;buy 6;lose 0;lose 6;quota 0;quota 99;price 0;price 99;cut 0;cut 9;");
        Object[][] broken = {{"year 1;", 5}, {"year", 4}, {"buy;", 3}, {"buy 0 1;", 6}, {"lose;", 4}, {"lose 0 1;", 7}, {"quota;", 5},
            {"quota 1 1;", 8}, {"quota 100;", 6}, {"price;", 5}, {"price 1 1;", 8}, {"price 100;", 6}, {"cut;", 3}, {"cut 0 1;", 6},
            {"cut 100;", 4}, {"house 1 1;", 0}, {"office 0;", 0}, {"tie 0 1;", 0}, {"pact 0 1 2;", 0}, {"paid 0 0;", 0}, {"years;", 0}};
        for (Object[] b : broken) {
            e.text(YEARS, (String) b[0], 1, (Integer) b[1]);
        }
        e.text(YEARS, "buy 7;", 2, 4);
        e.text(YEARS, "lose 7;", 2, 5);
        e.text(YEARS, "cut 10;", 2, 4);
    }

    private void logGrammar() {
        e.says(Doc.TERMS, "A LOG's text: {'paid' NUMBER NUMBER ';'} (a HOUSE, its TAX).");
        e.sound(LOG, "", "paid 0 0;", "paid 6 99;paid 0 99;");
        Object[][] broken = {{"paid;", 4}, {"paid 0;", 6}, {"paid 0 0 0;", 9}, {"paid 0 0", 8}, {"year;", 0}, {"quota 1;", 0},
            {"house 1 1;", 0}, {"pay 0 0;", 0}};
        for (Object[] b : broken) {
            e.text(LOG, (String) b[0], 1, (Integer) b[1]);
        }
        e.text(LOG, "paid 7 0;", 2, 5);
        QuotaParish x = new QuotaParish();
        Checks.tell(x, LOG, NONE, "paid 5 34;");
        e.run("which is which", w -> x.fact(0, 0, w), 0, 5, 34);
    }

    private void strikes() {
        e.says(Doc.TERMS, "Later ones strike (quota, price), but all others, which are further ones.");
        QuotaParish x = Checks.parish("quota 1;price 2;house 5 5;quota 3;house 5 5;price 4;office 1;tie 0 1;office 1;tie 0 1;office 0;");
        e.run("later ones", w -> x.parish(0, w), 0, 3, 4, 2, 2, 3);
        Checks.tell(x, YEARS, NONE, "quota 1;quota 2;quota 1;");
        e.due("DEEDS are further ones", x.deed(0, NONE, 0), 3);
        Checks.tell(x, LOG, NONE, "paid 0 1;paid 0 1;");
        e.due("FACTS are further ones", x.fact(0, NONE, 0), 2);
        // As many as one likes of what is not counted.
        e.sound(PARISH, "quota 1;".repeat(60), "price 1;".repeat(60), "house 1 1;" + "office 0;".repeat(60));
    }

    private void firstFault() {
        e.says(Doc.TERMS, "FAULTS of all, with places (a token's first byte; the end's):");
        e.text(PARISH, "  quota  xyz;", 1, 9);
        e.text(PARISH, "house 1 88;", 2, 8);
        e.text(PARISH, "quota 5", 1, 7);
        e.text(PARISH, "quota 5 \n", 1, 9);
        e.text(YEARS, " buy", 1, 4);
        e.text(YEARS, " buy 55;", 2, 5);
        e.text(LOG, "paid 0 ", 1, 7);
        e.text(LOG, "paid 55 0;", 2, 5);

        e.says(Doc.TERMS, "1 the first byte or token with which no text goes on (a longer row of digits is no token).");
        e.text(PARISH, "quota 123;", 1, 6);
        e.text(PARISH, "quota 0005;", 1, 6);
        e.text(PARISH, "house 1 100;", 1, 8);
        e.text(PARISH, "quota " + "1".repeat(500), 1, 6);
        e.text(YEARS, "year;999;", 1, 5);
        e.text(YEARS, "buy 000;", 1, 4);
        e.text(LOG, "paid 0 012;", 1, 7);
        e.text(PARISH, "quota 1;@;#", 1, 8);
        e.text(PARISH, "quota;quota;", 1, 5);
        // Before all others, wherever they stand.
        e.text(PARISH, "tie 1 1;quota 1x", 1, 15);
        e.text(PARISH, HOUSES + "house 1 1;quota", 1, 85);
        e.text(PARISH, "office 6;quota 5", 1, 16);
        e.text(YEARS, "year;".repeat(41) + "year", 1, 209);
        e.text(LOG, "paid 7 7;".repeat(9) + "!", 1, 81);
    }

    private void faultOrder() {
        e.says(Doc.TERMS, "If there is none, the first by place, of one place the least:");
        e.text(PARISH, "house 1 10;tie 1 1;", 2, 8);
        e.text(PARISH, "tie 1 1;house 1 10;", 2, 6);
        e.text(PARISH, "pact 7 7 7;", 2, 5);
        e.text(PARISH, HOUSES + "house 1 1;house 1 1;", 3, 70);
        e.text(PARISH, HOUSES + "house 1 10;", 3, 70);
        e.text(PARISH, HOUSES + "house 1 1;tie 0 0;", 3, 70);
        e.text(PARISH, HOUSES + "tie 0 0;house 1 1;", 2, 76);
        e.text(PARISH, HOUSES + "tie 0 1;".repeat(11) + "house 1 1;", 3, 150);
        e.text(PARISH, "office 0;tie 1 1;", 2, 15);
        e.text(YEARS, "year;".repeat(40) + "buy 7;", 3, 200);
        e.text(YEARS, "buy 7;" + "year;".repeat(40), 2, 4);
        e.text(LOG, "paid 0 0;".repeat(8) + "paid 7 0;", 3, 72);
    }

    private void badNumbers() {
        e.says(Doc.TERMS, "2 a NUMBER that can't be (as above; a PATRON that is the HOUSE, a second PATRON that is the first; a line with"
            + " such a NUMBER tells its HOUSE, RULE, DEED, FACT all the same);");
        e.text(PARISH, "tie 0 00;", 2, 6);
        e.text(PARISH, "tie 7 7;", 2, 4);
        e.text(PARISH, "pact 0 0 1;", 2, 7);
        e.text(PARISH, "pact 0 1 0;", 2, 9);
        e.text(PARISH, "pact 0 1 01;", 2, 9);
        e.sound(PARISH, HOUSES + "pact 0 1 2;pact 2 1 0;tie 1 2;tie 2 1;");
        // GOODS and YIELD, HOUSE and TAX may be alike.
        e.sound(PARISH, "house 5 5;");
        e.sound(LOG, "paid 5 5;");
        // The first of such lines is the first by place, however many follow.
        e.text(PARISH, "house 1 10;".repeat(9), 2, 8);
        e.text(PARISH, HOUSES + "tie 0 0;".repeat(12), 2, 76);
        e.text(YEARS, "cut 10;".repeat(45), 2, 4);
        e.text(LOG, "paid 7 0;".repeat(10), 2, 5);
    }

    private void tooMany() {
        e.says(Doc.TERMS, "3 an 8th HOUSE, an 11th RULE, a 41st DEED, a 9th FACT, at its first token.");
        String rules = "tie 0 1;".repeat(5) + "pact 0 1 2;".repeat(5);
        e.sound(PARISH, HOUSES + rules);
        e.text(PARISH, HOUSES + "\n  house 1 1;", 3, 73);
        e.text(PARISH, HOUSES + rules + "tie 1 0;", 3, 165);
        e.text(PARISH, HOUSES + rules + " pact 1 0 2;", 3, 166);
        e.sound(YEARS, "year;".repeat(40));
        for (String deed : new String[] {"year;", "buy 0;", "lose 0;", "quota 0;", "price 0;", "cut 0;"}) {
            e.text(YEARS, "year;".repeat(40) + " " + deed, 3, 201);
        }
        e.sound(LOG, "paid 0 0;".repeat(8));
        e.text(LOG, "paid 0 0;".repeat(8) + "  paid 0 0;", 3, 74);
    }

    private void absentHouses() {
        e.says(Doc.TERMS, "If there is none of these, at the end's place, of a PARISH: 4 a HOUSE that was told of and is not there.");
        e.text(PARISH, "office 0;", 4, 9);
        e.text(PARISH, "office 0; \n", 4, 11);
        e.text(PARISH, "house 1 1;tie 1 0;", 4, 18);
        e.text(PARISH, "house 1 1;tie 0 1;", 4, 18);
        e.text(PARISH, "pact 2 0 1;house 1 1;house 1 1;", 4, 31);
        e.text(PARISH, "pact 0 2 1;house 1 1;house 1 1;", 4, 31);
        e.text(PARISH, "pact 0 1 2;house 1 1;house 1 1;", 4, 31);
        e.text(PARISH, "house 1 1;".repeat(6) + "office 6;", 4, 69);
        // It may be told before it is there.
        e.sound(PARISH, "office 6;" + HOUSES, "tie 0 1;house 1 1;house 1 1;", "pact 0 1 2;house 1 1;house 1 1;house 1 1;");
        e.sound(YEARS, "buy 6;lose 6;cut 9;");
        e.sound(LOG, "paid 6 1;");
    }

    private void atMostTwo() {
        e.says(Doc.TERMS, "PARISHES, at most 2 (sort 0), texts of YEARS, at most 2 (1), LOGS, at most 2 (2), from 0 on.");
        QuotaParish x = new QuotaParish();
        for (int sort = 0; sort < 3; sort++) {
            e.due("the first of " + sort, x.text(sort, NONE), 0);
            e.due("the second of " + sort, x.text(sort, NONE), 1);
            e.due("a third of " + sort, x.text(sort, NONE), -2);
            e.due("two of " + sort, x.count(sort), 2);
        }

        e.says(Doc.TERMS, "The constants: `NONE = -1`: There is none.");
        e.due("NONE", QuotaParish.NONE, -1);
    }

    // ---- promises 1 to 5 ----

    private void newObject() {
        e.says(1, "No PARISHES, YEARS, LOGS; no images.");
        QuotaParish x = new QuotaParish();
        e.each("count", x::count, 0, 0, 1, 2);
        e.each("parish", p -> x.parish(p, 0), NONE, -1, 0, 1);
        e.each("deed", y -> x.deed(y, NONE, 0), -2, -1, 0, 1);
        e.each("fact", l -> x.fact(l, NONE, 0), -2, -1, 0, 1);
        e.each("stop", y -> x.stop(0, y), NONE, -1, 0, 1);
        e.each("fits", l -> x.fits(0, l, 0), -2, -1, 0, 1);
        e.each("again", k -> x.again(k) ? 1 : 0, 0, 0, 1, 2);
        e.rows("the tape is empty", x::end, new int[][] {{1, NONE}, {0, 0}});
        e.run("no FAULT", x::fault, 0, 0, NONE);
        QuotaParish other = Checks.parish("quota 5;");
        other.image(0);
        e.due("another object's is not its own", new QuotaParish().count(0), 0);
        e.due("nor its images", new QuotaParish().again(0), false);
    }

    private void feed() {
        e.says(2, "The tape: twenty bytes come behind it, of each number the highest first: how many it has.");
        QuotaParish x = new QuotaParish();
        e.due("twenty", x.feed(0x71756f74, 0x61203432, 0x3b707269, 0x63652039, 0x3b202068), 20);
        e.due("twenty more", x.feed(0x6f757365, 0x20312032, 0x3b686f75, 0x73652033, 0x20343b0a), 40);
        e.due("text", x.text(PARISH, NONE), 0);
        e.rows("parish", w -> x.parish(0, w), new int[][] {{0, 42}, {1, 9}, {2, 2}, {10, 1}, {20, 2}, {11, 3}, {21, 4}});
        // Bytes above 127 are what they are, not letters or blanks of another sign.
        e.due("high bytes", x.feed(0x8a8aa0a0, 0xe1e2e3e4, -1, MIN, MAX), 20);
        e.due("are no text", x.text(PARISH, 0), NONE);
        e.run("at the first of them", x::fault, 0, 1, 0);
        x.feed(0x20202020, 0x20202020, 0x20202020, 0x20202020, 0x2020200a);
        e.due("behind the end of another", x.end(19), 19);
        e.due("twenty more", x.feed(0xb1b2b3b4, 0, 0, 0, 0), 39);
        x.text(PARISH, 0);
        e.due("its first byte stands there", x.fault(1), 19);

        e.says(2, "NONE, and nothing comes, if there would be more than 600.");
        for (int n = 20; n <= 600; n += 20) {
            e.due("feed", x.feed(0x20202020, 0x20202020, 0x20202020, 0x20202020, 0x2020203b), n);
        }
        e.due("600 and 20", x.feed(0, 0, 0, 0, 0), NONE);
        e.due("600 still", x.end(600), 600);
        e.due("not 601", x.end(601), NONE);
        x.end(581);
        e.due("581 and 20", x.feed(0x71756f74, 0, 0, 0, 0), NONE);
        e.due("nothing came", x.end(582), NONE);
        e.due("581 still", x.end(581), 581);
        x.end(580);
        e.due("580 and 20", x.feed(0, 0, 0, 0, 0), 600);
        QuotaParish kept = new QuotaParish();
        Checks.feed(kept, " ".repeat(592) + "quota 7;");
        kept.feed(0x71756f74, 0x61203432, 0x3b707269, 0x63652039, 0x3b202068);
        e.due("what was there is as it was", kept.text(PARISH, NONE), 0);
        e.due("to its end", kept.parish(0, 0), 7);
    }

    private void end() {
        e.says(3, "The tape has its first n bytes alone: n.");
        QuotaParish x = new QuotaParish();
        Checks.feed(x, "quota 1;quota 2;quota 3;");
        e.due("all of it", x.end(24), 24);
        e.due("less", x.end(16), 16);
        e.due("the rest is gone", x.end(17), NONE);
        e.due("less again", x.end(8), 8);
        Checks.feed(x, "price 4;");
        e.due("text", x.text(PARISH, NONE), 0);
        e.run("the first bytes, and what came behind", w -> x.parish(0, w), 0, 1, 4);
        Checks.feed(x, "quota 1;");
        e.due("none of it", x.end(0), 0);
        e.due("empty then", x.feed(0, 0, 0, 0, 0), 20);

        e.says(3, "NONE if it has not so many, or n is below 0.");
        QuotaParish y = new QuotaParish();
        e.each("of an empty tape", y::end, NONE, 1, 20, -1, MIN, MAX);
        Checks.feed(y, "quota 6;");
        e.each("of eight", y::end, NONE, 9, 20, 600, 601, -1, -8, MIN, MAX);
        e.due("eight still", y.end(8), 8);
        e.due("text", y.text(PARISH, NONE), 0);
        e.due("as it was", y.parish(0, 0), 6);
    }

    private void text() {
        e.says(4, "The tape is taken (and is empty then) as a text of a sort, a further one (at NONE), or in the place of one: its number.");
        QuotaParish x = new QuotaParish();
        String[][] texts = {{"quota 1;", "quota 2;", "quota 3;"}, {"buy 1;", "buy 2;", "buy 3;"}, {"paid 0 1;", "paid 0 2;", "paid 0 3;"}};
        for (int sort = 0; sort < 3; sort++) {
            int[] told = {1, 2, 3};
            e.due("a further one", Checks.tell(x, sort, NONE, texts[sort][0]), 0);
            e.due("the tape is empty then", x.end(1), NONE);
            e.due("a further one", Checks.tell(x, sort, NONE, texts[sort][1]), 1);
            e.run("both", k -> number(x, k), sort * 2, told[0], told[1]);
            e.due("in the place of the first", Checks.tell(x, sort, 0, texts[sort][2]), 0);
            e.run("the first is another", k -> number(x, k), sort * 2, told[2], told[1]);
            e.due("in the place of the second", Checks.tell(x, sort, 1, texts[sort][0]), 1);
            e.run("the second is another", k -> number(x, k), sort * 2, told[2], told[0]);
            e.due("no more than these", x.count(sort), 2);
            e.due("the tape is empty then", x.end(1), NONE);
        }
        e.due("an empty tape is a text", x.text(PARISH, 0), 0);
        e.run("and tells nothing", w -> x.parish(0, w), 0, 10, 10, 0, 0, 0);
        // Nothing is left of what stood there, nor of a text with a FAULT.
        QuotaParish y = Checks.parish("quota 1;price 1;" + HOUSES + "office 0;office 6;" + "tie 0 1;".repeat(10));
        Checks.tell(y, PARISH, 0, "");
        e.run("all is at first", w -> y.parish(0, w), 0, 10, 10, 0, 0, 0, 0, 10);
        Checks.tell(y, PARISH, 0, "quota 1;price 1;office 0;tie 0 1;" + HOUSES + "office 7;");
        Checks.tell(y, PARISH, 0, "house 2 3;");
        e.run("but one HOUSE", w -> y.parish(0, w), 0, 10, 10, 1, 0, 0, 0, 0);
        Checks.tell(y, YEARS, NONE, "buy 1;".repeat(40));
        Checks.tell(y, YEARS, 0, "year;");
        e.rows("but one DEED", k -> y.deed(0, k, 0), new int[][] {{NONE, 1}, {0, 0}, {1, -2}});
        e.due("without a number", y.deed(0, 0, 1), NONE);
        Checks.tell(y, LOG, NONE, "paid 1 1;".repeat(8));
        Checks.tell(y, LOG, 0, "paid 1 1;paid 7 7;");
        Checks.tell(y, LOG, 0, "paid 2 3;");
        e.rows("but one FACT", k -> y.fact(0, k, 0), new int[][] {{NONE, 1}, {0, 2}, {1, -2}});

        e.says(4, "NONE: a FAULT.");
        e.due("a FAULT", Checks.tell(x, PARISH, 1, "quota 9;quota"), NONE);
        e.due("what stood there stands", x.parish(1, 0), 1);
        e.due("the tape is empty then", x.end(1), NONE);
        e.due("a FAULT of another sort", Checks.tell(x, YEARS, 0, "paid 0 1;"), NONE);
        e.due("its DEED stands", x.deed(0, 0, 1), 3);
        QuotaParish none = new QuotaParish();
        e.due("a FAULT of the first", Checks.tell(none, LOG, NONE, "paid 7 7;"), NONE);
        e.due("there is none", none.count(LOG), 0);
    }

    /** By sort and number, of two each: a PARISH's QUOTA, the number of the first DEED, the TAX of the first FACT. */
    private static int number(QuotaParish x, int k) {
        return k < 2 ? x.parish(k, 0) : k < 4 ? x.deed(k - 2, 0, 1) : x.fact(k - 4, 0, 1);
    }

    private void textRefused() {
        e.says(4, "-2: there is none such, there are as many as may be, or no such sort (no text is read then, FAULT 0).");
        QuotaParish x = new QuotaParish();
        int[][] absent = {{PARISH, 0}, {PARISH, 1}, {PARISH, -2}, {YEARS, 0}, {LOG, 0}, {LOG, MAX}, {YEARS, MIN}};
        int[][] sorts = {{-1, NONE}, {3, NONE}, {3, 0}, {-1, 0}, {MIN, NONE}, {MAX, NONE}};
        refused(x, absent);
        refused(x, sorts);
        e.each("no text was read", x::count, 0, 0, 1, 2);
        Checks.tell(x, PARISH, NONE, "quota 1;");
        refused(x, new int[][] {{PARISH, 1}, {PARISH, 2}, {YEARS, 0}});
        Checks.tell(x, PARISH, NONE, "quota 2;");
        refused(x, new int[][] {{PARISH, NONE}, {PARISH, 2}, {PARISH, -2}});
        e.run("both are as they were", k -> number(x, k), 0, 1, 2);
        e.due("another sort is not full", Checks.tell(x, YEARS, NONE, "year;"), 0);
    }

    /** A FAULT before, so that it is seen to go; the tape is taken all the same. */
    private void refused(QuotaParish x, int[][] calls) {
        for (int[] c : calls) {
            String call = "text(" + c[0] + ", " + c[1] + ")";
            int at = x.count(YEARS) > 0 ? 0 : NONE;
            Checks.tell(x, YEARS, at, "year");
            e.due("the FAULT before " + call, x.fault(0), 1);
            Checks.feed(x, "quota 5;");
            e.due(call, x.text(c[0], c[1]), -2);
            e.run("no FAULT behind " + call, x::fault, 0, 0, NONE);
            e.due("the tape is empty behind " + call, x.end(1), NONE);
        }
    }

    private void fault() {
        e.says(5, "Of the latest text(), what 0: the FAULT, 0 without, 1: its place, NONE without.");
        QuotaParish x = new QuotaParish();
        e.run("before any", x::fault, 0, 0, NONE);
        Checks.tell(x, PARISH, NONE, "quota;");
        e.run("of a FAULT", x::fault, 0, 1, 5);
        x.feed(0, 0, 0, 0, 0);
        x.end(0);
        x.parish(0, 0);
        e.run("of it still", x::fault, 0, 1, 5);
        Checks.tell(x, PARISH, NONE, "x");
        e.run("at place 0", x::fault, 0, 1, 0);
        Checks.tell(x, PARISH, NONE, "quota 1;");
        e.run("without", x::fault, 0, 0, NONE);

        e.says(5, "NONE for another what.");
        Checks.tell(x, PARISH, NONE, "tie 0 0;");
        e.each("fault", x::fault, NONE, -1, 2, 3, MIN, MAX);
    }

    // ---- promises 35 to 37 ----

    private void count() {
        e.says(35, "How many there are of a sort.");
        QuotaParish x = new QuotaParish();
        for (int sort = 2; sort >= 0; sort--) {
            e.due("none of " + sort, x.count(sort), 0);
            x.text(sort, NONE);
            e.due("one of " + sort, x.count(sort), 1);
            x.text(sort, 0);
            e.due("one still of " + sort, x.count(sort), 1);
            x.text(sort, NONE);
            e.due("two of " + sort, x.count(sort), 2);
        }
        e.says(35, "-2 for another one.");
        e.each("count", x::count, -2, -1, 3, 4, MIN, MAX);
    }

    private void image() {
        e.says(36, "Image k (0 .. 2) is all that is told (the tape, the FAULT, too), as it is now: true; false for another k.");
        QuotaParish x = new QuotaParish();
        e.each("no image", k -> x.image(k) ? 1 : 0, 0, -1, 3, 4, MIN, MAX);
        e.each("none was made", k -> x.again(k) ? 1 : 0, 0, -1, 0, 1, 2, 3);
        Checks.tell(x, PARISH, NONE, "quota 1;price 2;house 3 4;house 5 6;house 7 8;tie 0 1;pact 2 0 1;office 1;");
        Checks.tell(x, PARISH, NONE, "quota 11;");
        Checks.tell(x, YEARS, NONE, "buy 1;cut 2;");
        Checks.tell(x, LOG, NONE, "paid 3 4;");
        Checks.tell(x, LOG, NONE, "paid 5;");
        Checks.feed(x, "quota 21;");
        e.each("image", k -> x.image(k) ? 1 : 0, 1, 0, 1, 2);
        Checks.tell(x, PARISH, 0, "");
        Checks.tell(x, PARISH, 1, "quota 12;house 1 1;");
        Checks.tell(x, YEARS, 0, "year;");
        Checks.tell(x, YEARS, NONE, "year;");
        Checks.tell(x, LOG, 0, "paid 6 7;");
        Checks.tell(x, LOG, NONE, "paid 6 7;");
        Checks.feed(x, "quota 99;quota 98;");
        e.due("image 1 is another", x.image(1), true);
        for (int k = 0; k <= 2; k += 2) {
            e.due("again", x.again(k), true);
            e.rows("PARISH 0", w -> x.parish(0, w), new int[][] {{0, 1}, {1, 2}, {2, 3}, {3, 2}, {4, 2}, {5, 7}, {10, 3}, {20, 4},
                {12, 7}, {22, 8}, {40, 0}, {50, 1}, {60, NONE}, {41, 2}, {51, 0}, {61, 1}});
            e.run("PARISH 1", w -> x.parish(1, w), 0, 11, 10, 0);
            e.run("counts", x::count, 0, 2, 1, 1);
            e.run("DEED 1", w -> x.deed(0, 1, w), 0, 5, 2);
            e.run("FACT 0", w -> x.fact(0, 0, w), 0, 3, 4);
            e.run("the FAULT", x::fault, 0, 1, 6);
            e.due("the tape is no longer", x.end(10), NONE);
            e.due("the tape is as long", x.end(9), 9);
            x.text(PARISH, 0);
            e.due("and the same", x.parish(0, 0), 21);
        }
    }

    private void again() {
        e.says(37, "All that is as image k has it (other images stay): true; false if there is none such.");
        QuotaParish x = new QuotaParish();
        x.image(2);
        Checks.tell(x, PARISH, NONE, "quota 1;");
        x.image(0);
        Checks.tell(x, PARISH, 0, "quota 2;");
        e.each("none such", k -> x.again(k) ? 1 : 0, 0, 1, -1, 3, 4, MIN, MAX);
        e.due("all is as it was", x.parish(0, 0), 2);
        x.image(1);
        int[] turns = {0, 1, 2, 1, 0, 0, 2, 2, 1};
        int[] quotas = {1, 2, NONE};
        for (int k : turns) {
            e.due("again " + k, x.again(k), true);
            e.due("QUOTA by image " + k, x.parish(0, 0), quotas[k]);
            // What is told behind it is not the image's.
            Checks.tell(x, PARISH, x.count(PARISH) > 0 ? 0 : NONE, "quota 50;");
            e.due("QUOTA behind image " + k, x.parish(0, 0), 50);
        }
    }

    private void fiveHundredCalls() {
        e.says(Doc.WHAT_IT_IS, "An object is used for at most 512 calls after it has been made; what later calls answer is free.");
        QuotaParish x = new QuotaParish();
        int calls = 0;
        for (; calls < 504; calls += 4) {
            x.feed(0x71756f74, 0x61203432, 0x3b202020, 0x20202020, 0x20202020);
            x.text(PARISH, calls < 8 ? NONE : calls / 4 % 2);
            x.image(calls % 3);
            x.again(calls % 3);
        }
        for (; calls < 512; calls++) {
            e.due("call " + (calls + 1), x.parish(calls % 2, 0), 42);
        }
    }
}
