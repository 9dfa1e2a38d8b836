/** Terms 2, years by a seed, and promises 6 to 9, 22 and 32, sentence by sentence. */
final class EdgesOfYears {
    private static final int NONE = QuotaParish.NONE;
    private static final int MIN = Integer.MIN_VALUE;
    private static final int MAX = Integer.MAX_VALUE;
    private static final String HOUSES = "house 1 1;".repeat(7);
    /** TAX 15, 0, 5: the second holds an OFFICE; the first is tied to the third. */
    private static final String SEEDED = "quota 20;price 5;house 30 1;house 4 2;house 10 3;office 1;tie 0 2;";

    private final Edges e;

    EdgesOfYears(Edges e) {
        this.e = e;
    }

    void run() {
        exempt();
        tax();
        lostAtOnce();
        beginning();
        year();
        buy();
        loseAndChange();
        cut();
        impossible();
        stops();
        states();
        parish();
        deed();
        stopPromise();
        statePromise();
        drawnDeeds();
        drawnNumbers();
        drawnPromise();
        sold();
        peak();
        lean();
        afterPromise();
    }

    private void taxes(String text, int... wants) {
        QuotaParish x = Checks.parish(text);
        e.run("TAX in " + text, w -> x.parish(0, w), 30, wants);
    }

    // ---- Terms 2 ----

    private void exempt() {
        e.says(Doc.TERMS, "EXEMPT is a HOUSE that holds an OFFICE, or of which any RULE holds: a tie, if its PATRON is EXEMPT, a pact, if"
            + " both are; and so on, none else.");
        Object[][] rows = {{"", 0}, {"office 6;", 64}, {"tie 0 1;", 0}, {"tie 0 1;office 0;", 1}, {"tie 0 1;office 1;", 3},
            {"pact 0 1 2;office 1;", 2}, {"pact 0 1 2;office 2;", 4}, {"pact 0 1 2;office 1;office 2;", 7},
            // Any RULE, the last one too.
            {"tie 0 1;pact 0 2 3;tie 0 4;office 4;", 17}, {"tie 0 1;pact 0 2 3;office 3;office 2;", 13},
            // And so on, whichever way the RULES are told.
            {"tie 0 1;tie 1 2;tie 2 3;tie 3 4;tie 4 5;tie 5 6;office 6;", 127},
            {"tie 5 6;tie 4 5;tie 3 4;tie 2 3;tie 1 2;tie 0 1;office 6;", 127},
            {"pact 4 2 3;pact 3 1 2;pact 2 0 1;tie 1 0;office 0;", 31},
            // None else: not by themselves in a ring.
            {"tie 0 1;tie 1 2;tie 2 0;", 0}, {"pact 0 1 2;pact 1 0 2;pact 2 0 1;office 2;", 4}};
        for (Object[] row : rows) {
            e.due("EXEMPT by " + row[0], Checks.parish(HOUSES + row[0]).parish(0, 5), (Integer) row[1]);
        }
    }

    private void tax() {
        e.says(Doc.TERMS, "TAX: the QUOTA, shared among the HOUSES that are not EXEMPT: of each QUOTA times its GOODS, by the GOODS of all"
            + " those together, cut down; then one more each, as many as are left over, of those of whom most was cut off, of several"
            + " the least number first.");
        taxes("quota 12;house 1 0;house 2 0;house 3 0;", 2, 4, 6, NONE);
        taxes("quota 7;house 3 0;house 3 0;house 3 0;", 3, 2, 2);
        taxes("quota 8;house 3 0;house 3 0;house 3 0;", 3, 3, 2);
        // Cut off: 4, 4, 6 of 14, one left over.
        taxes("quota 10;house 6 0;house 6 0;house 2 0;", 4, 4, 2);
        // Cut off: 10, 10, 8 of 14, two left over.
        taxes("quota 11;house 6 0;house 6 0;house 2 0;", 5, 5, 1);
        // 9801 by 693 is 14 r 99 each, one left over.
        taxes("quota 99;" + "house 99 0;".repeat(7), 15, 14, 14, 14, 14, 14, 14);
        // 450 by 35 is 12 r 30 each, six left over.
        taxes("quota 90;" + "house 5 0;".repeat(7), 13, 13, 13, 13, 13, 13, 12);
        taxes("quota 1;house 1 0;house 99 0;", 0, 1);
        taxes("quota 1;house 1 0;house 1 0;house 1 0;office 0;", 0, 1, 0);
        taxes("quota 10;house 5 0;house 5 0;tie 0 1;office 1;house 1 0;", 0, 0, 10);
        taxes("quota 0;house 5 0;house 6 0;", 0, 0);
        taxes("quota 99;house 0 9;house 1 9;", 0, 99);
    }

    private void lostAtOnce() {
        e.says(Doc.TERMS, "If they have no GOODS together, or there is none, nobody has any TAX (0), and the QUOTA is LOST.");
        taxes("quota 50;house 0 9;house 0 0;", 0, 0, NONE);
        taxes("quota 50;house 9 9;office 0;", 0, NONE);
        taxes("quota 50;house 9 9;house 0 0;office 0;", 0, 0, NONE);
        Object[][] rows = {{"quota 50;house 0 9;house 0 0;", 50}, {"quota 50;house 9 9;office 0;", 50}, {"quota 50;", 50},
            {"quota 50;house 9 9;house 0 0;office 0;", 50}, {"quota 50;house 9 9;house 1 0;office 0;", 0}, {"quota 0;", 0},
            {"quota 99;house 9 9;house 9 9;tie 1 0;office 0;", 99}, {"quota 1;house 1 0;house 0 0;", 0}};
        for (Object[] row : rows) {
            e.due("LOST of " + row[0], Checks.parish((String) row[0]).parish(0, 6), (Integer) row[1]);
        }
        QuotaParish x = Checks.years("quota 50;house 0 9;house 9 0;office 1;", "year;year;");
        e.due("LOST in a year", x.state(0, 0, 1, 2), 50);
        // It has 9 then, and pays them.
        e.due("LOST in two", x.state(0, 0, 2, 2), 91);
        e.due("PAID in two", x.state(0, 0, 2, 1), 9);
    }

    private void beginning() {
        e.says(Doc.TERMS, "YEARS of a PARISH begin in year 0 with all as told.");
        QuotaParish x = Checks.years("quota 7;price 3;house 9 1;house 5 2;tie 0 1;office 1;", "year;lose 1;");
        e.run("at first", w -> x.state(0, 0, 0, w), 0, 0, 0, 0, 2, 3, 7, 3, 0);
        e.run("GOODS at first", w -> x.state(0, 0, 0, w), 10, 9, 5, -2);
        x.state(0, 0, 2, 0);
        e.due("as told still", x.parish(0, 10), 9);
        e.due("and its OFFICES", x.parish(0, 4), 2);
        e.run("at first again", w -> x.state(0, 0, 0, w), 0, 0, 0, 0, 2);
        Checks.tell(x, Checks.PARISH, NONE, "quota 8;house 1 1;");
        e.due("of another PARISH", x.state(1, 0, 0, 5), 8);
    }

    private void year() {
        e.says(Doc.TERMS, "year (up to 50): each HOUSE pays its TAX, or all its GOODS, if they are less (what is wanting is LOST, too); then"
            + " each has its YIELD more, 99 at most; it is the next year.");
        goesBy("quota 9;house 10 0;", 9, 0, 1);
        goesBy("quota 10;house 10 0;", 10, 0, 0);
        goesBy("quota 11;house 10 0;", 10, 1, 0);
        // TAX 66 and 33.
        goesBy("quota 99;house 60 0;house 30 0;", 90, 9, 0, 0);
        // TAX 5, 0, 0: the first pays before it has its YIELD.
        goesBy("quota 5;house 2 9;house 0 9;house 3 0;office 2;", 2, 3, 9, 9, 3);
        goesBy("quota 0;house 89 9;house 90 9;house 91 9;house 99 9;house 99 0;house 0 0;house 98 1;", 0, 0, 98, 99, 99, 99, 99, 0, 99);
        goesBy("quota 9;house 99 9;", 9, 0, 99);
        goesBy("quota 10;house 99 9;", 10, 0, 98);
        goesBy("quota 8;house 99 9;", 8, 0, 99);
        QuotaParish x = Checks.years("quota 1;house 50 0;", "year;".repeat(40));
        e.rows("the year", n -> x.state(0, 0, n, 0), new int[][] {{0, 0}, {1, 1}, {2, 2}, {39, 39}, {40, 40}});
        e.due("forty paid", x.state(0, 0, 40, 1), 40);
        // Up to 50: of all seeds none draws more than 48 years in 60, so that all of these may go by.
        e.due("the most years of any seed", Checks.parish("").drawn(0, -1100472123, 60, 0), 48);
        e.due("the most of any with HOUSES", Checks.parish("house 1 1;").drawn(0, 1708501738, 60, 0), 46);
        e.due("nothing but years, 50 of them", Checks.parish("quota 1;house 99 0;").bid(0, 50), 50);
    }

    private void goesBy(String text, int paid, int lost, int... goods) {
        QuotaParish x = Checks.years(text, "year;");
        e.run("year, PAID, LOST behind " + text, w -> x.state(0, 0, 1, w), 0, 1, paid, lost);
        e.run("GOODS behind " + text, w -> x.state(0, 0, 1, w), 10, goods);
    }

    private void buy() {
        e.says(Doc.TERMS, "buy: a HOUSE that holds no OFFICE and has GOODS of PRICE or more holds one then, its GOODS are PRICE less.");
        stop("price 10;house 10 0;", "buy 0;", 1);
        stop("price 10;house 11 0;", "buy 0;", 1);
        stop("price 10;house 9 0;", "buy 0;", 0);
        stop("price 0;house 0 0;", "buy 0;", 1);
        stop("price 99;house 99 0;", "buy 0;", 1);
        stop("price 99;house 98 0;", "buy 0;", 0);
        stop("price 1;house 9 0;office 0;", "buy 0;", 0);
        stop("price 1;house 9 0;", "buy 0;buy 0;", 1);
        stop("price 1;house 9 0;", "buy 0;lose 0;buy 0;", 3);
        // One that is EXEMPT by its PATRON holds no OFFICE.
        stop("price 1;house 9 0;house 9 0;tie 0 1;office 1;", "buy 0;", 1);
        QuotaParish x = Checks.years("quota 6;price 4;house 10 0;house 4 0;house 5 0;tie 2 1;", "buy 0;buy 1;");
        e.run("GOODS", w -> x.state(0, 0, 2, w), 10, 6, 0, 5);
        e.run("GOODS before", w -> x.state(0, 0, 1, w), 10, 6, 4, 5);
        e.rows("who holds", n -> x.state(0, 0, n, 3), new int[][] {{0, 0}, {1, 1}, {2, 3}});
        e.rows("who is EXEMPT", n -> x.state(0, 0, n, 4), new int[][] {{0, 0}, {1, 1}, {2, 7}});
        // TAX at first by 19: 60 r 3, 24 r 5, 30 r 11, anew by 9: 24 r 6, 30 r 3.
        e.run("TAX at first", w -> x.state(0, 0, 0, w), 20, 3, 1, 2);
        e.run("TAX anew", w -> x.state(0, 0, 1, w), 20, 0, 3, 3);
        e.run("nothing is PAID or LOST", w -> x.state(0, 0, 2, w), 1, 0, 0);
    }

    private void stop(String parish, String years, int want) {
        e.due("STOP of " + years + " in " + parish, Checks.years(parish, years).stop(0, 0), want);
    }

    private void loseAndChange() {
        e.says(Doc.TERMS, "lose: one that holds an OFFICE holds none.");
        stop("house 9 0;office 0;", "lose 0;", 1);
        stop("house 9 0;office 0;", "lose 0;lose 0;", 1);
        stop("house 9 0;", "lose 0;", 0);
        stop("house 9 0;house 9 0;office 0;tie 1 0;", "lose 1;", 0);
        QuotaParish x = Checks.years("quota 6;house 9 0;house 9 0;house 9 0;office 0;office 2;tie 1 0;", "lose 0;");
        e.run("OFFICES and EXEMPT", w -> x.state(0, 0, 1, w), 3, 4, 4);
        e.run("GOODS stay", w -> x.state(0, 0, 1, w), 10, 9, 9, 9);
        e.run("TAX anew", w -> x.state(0, 0, 1, w), 20, 3, 3, 0);

        e.says(Doc.TERMS, "quota, price: it is another than it was.");
        QuotaParish y = Checks.years("quota 6;price 7;house 9 0;", "quota 99;price 99;quota 0;price 0;");
        e.rows("QUOTA", n -> y.state(0, 0, n, 5), new int[][] {{0, 6}, {1, 99}, {2, 99}, {3, 0}, {4, 0}});
        e.rows("PRICE", n -> y.state(0, 0, n, 6), new int[][] {{0, 7}, {1, 7}, {2, 99}, {3, 99}, {4, 0}});
        e.rows("TAX anew", n -> y.state(0, 0, n, 20), new int[][] {{0, 6}, {1, 99}, {3, 0}});
        stop("quota 6;house 9 0;", "quota 6;", 0);
        stop("quota 6;house 9 0;", "quota 5;quota 6;quota 6;", 2);
        stop("house 9 0;", "quota 10;", 0);
        stop("price 6;house 9 0;", "price 6;", 0);
        stop("price 6;house 9 0;", "price 7;price 6;price 6;", 2);
        stop("house 9 0;", "price 10;", 0);
        stop("quota 6;price 7;", "quota 7;price 6;", 2);
    }

    private void cut() {
        e.says(Doc.TERMS, "cut: a RULE that was not cut holds no more.");
        String ten = HOUSES + "tie 0 6;tie 1 6;tie 2 6;tie 3 6;tie 4 6;tie 5 6;tie 0 1;tie 1 0;tie 2 0;tie 3 0;office 6;";
        stop(ten, "cut 9;cut 0;", 2);
        stop(ten, "cut 9;cut 9;", 1);
        stop(ten, "cut 0;cut 1;cut 2;cut 3;cut 4;cut 5;cut 6;cut 7;cut 8;cut 9;", 10);
        stop("house 1 1;house 1 1;tie 0 1;", "cut 0;", 1);
        QuotaParish x = Checks.years(ten, "cut 0;cut 6;cut 5;cut 9;");
        e.rows("EXEMPT", n -> x.state(0, 0, n, 4), new int[][] {{0, 127}, {1, 127}, {2, 126}, {3, 94}, {4, 94}});
        e.rows("RULES that are cut", n -> x.state(0, 0, n, 7), new int[][] {{0, 0}, {1, 1}, {2, 65}, {3, 97}, {4, 609}});
        e.rows("TAX anew", n -> x.state(0, 0, n, 20), new int[][] {{1, 0}, {2, 10}, {3, 5}});
        e.due("as told it stands", x.parish(0, 5), 127);
    }

    private void impossible() {
        e.says(Doc.TERMS, "A DEED can't be, if there is no such HOUSE, RULE, or it is not as said.");
        String two = "price 0;house 5 0;house 5 0;tie 0 1;office 0;";
        stop(two, "buy 1;", 1);
        stop(two, "buy 2;", 0);
        stop(two, "buy 6;", 0);
        stop(two, "buy 0;", 0);
        stop(two, "lose 0;", 1);
        stop(two, "lose 1;", 0);
        stop(two, "lose 2;", 0);
        stop(two, "lose 6;", 0);
        stop(two, "cut 0;", 1);
        stop(two, "cut 1;", 0);
        stop(two, "cut 9;", 0);
        stop("", "buy 0;", 0);
        stop("", "lose 0;", 0);
        stop("", "cut 0;", 0);
        stop("", "year;quota 5;price 5;", 3);
        // What it leaves undone: nothing is done of it.
        QuotaParish x = Checks.years("quota 6;price 10;house 9 0;", "year;buy 0;quota 5;");
        e.due("GOODS behind STOP", x.state(0, 0, 1, 10), 3);
        e.due("no STATE behind it", x.state(0, 0, 2, 10), -2);
    }

    private void stops() {
        e.says(Doc.TERMS, "STOP: the first DEED that can't be, else how many there are.");
        String one = "quota 5;price 5;house 9 0;";
        stop(one, "", 0);
        stop(one, "year;", 1);
        stop(one, "year;".repeat(40), 40);
        stop(one, "lose 0;".repeat(40), 0);
        stop(one, "year;".repeat(39) + "lose 0;", 39);
        // The first of several, though what follows could be.
        stop(one, "year;lose 0;year;lose 0;year;", 1);
        // 9, then 4: too few.
        stop(one, "year;buy 0;", 1);
        stop(one, "buy 0;year;", 2);
    }

    private void states() {
        e.says(Doc.TERMS, "A STATE is behind the first n DEEDS, n up to STOP.");
        QuotaParish x = Checks.years("quota 5;price 5;house 9 1;", "year;buy 0;lose 0;lose 0;year;");
        e.due("STOP", x.stop(0, 0), 3);
        e.run("GOODS", n -> x.state(0, 0, n, 10), 0, 9, 5, 0, 0, -2, -2, -2);
        e.each("no STATE", n -> x.state(0, 0, n, 0), -2, -1, 4, 5, 6, 40, 41, MIN, MAX);
        QuotaParish none = Checks.years("quota 5;", "");
        e.run("of no DEEDS", n -> none.state(0, 0, n, 5), -1, -2, 5, -2);
        QuotaParish all = Checks.years("quota 5;", "year;".repeat(40));
        e.rows("of forty", n -> all.state(0, 0, n, 0), new int[][] {{39, 39}, {40, 40}, {41, -2}});
    }

    // ---- promises 6 to 9 ----

    private void parish() {
        e.says(6, "Of a PARISH, what 0: QUOTA, 1: PRICE, 2: HOUSES, 3: RULES, 4: those that hold OFFICES, 5: those that are EXEMPT (bits),"
            + " 6: LOST at once (the QUOTA, if nobody has TAX, else 0), 10 + h, 20 + h, 30 + h: GOODS, YIELD, TAX of a HOUSE, 40 + k,"
            + " 50 + k, 60 + k: of a RULE the HOUSE, the PATRON, the second one (NONE: a tie).");
        QuotaParish x = Checks.parish("quota 24;price 31;house 8 1;house 4 2;house 6 3;house 2 0;tie 3 0;pact 1 0 3;tie 2 1;office 3;");
        e.run("parish", w -> x.parish(0, w), 0, 24, 31, 4, 3, 8, 8, 0);
        e.run("GOODS", w -> x.parish(0, w), 10, 8, 4, 6, 2);
        e.run("YIELD", w -> x.parish(0, w), 20, 1, 2, 3, 0);
        // By 18: 192 r 12, 96 r 6, 144 r 0.
        e.run("TAX", w -> x.parish(0, w), 30, 11, 5, 8, 0);
        e.run("HOUSE of a RULE", w -> x.parish(0, w), 40, 3, 1, 2);
        e.run("PATRON", w -> x.parish(0, w), 50, 0, 0, 1);
        e.run("the second one", w -> x.parish(0, w), 60, NONE, 3, NONE);
        e.due("LOST, nobody has TAX", Checks.parish("quota 24;house 0 1;").parish(0, 6), 24);

        e.says(6, "NONE: there is none such (of any), or for another what.");
        e.each("no PARISH", p -> x.parish(p, 0), NONE, Edges.NO_TEXT);
        e.each("no HOUSE, no RULE", w -> x.parish(0, w), NONE, 14, 16, 24, 34, 43, 49, 53, 63);
        e.each("another what", w -> x.parish(0, w), NONE, -1, 7, 8, 9, 70, 71, 80, 100, 110, 120, 130, 140, -10, -40, MIN, MAX);
        QuotaParish full = Checks.parish(HOUSES + "tie 0 1;".repeat(10));
        e.each("the last", w -> full.parish(0, w), 1, 16, 26, 59);
        e.each("behind the last", w -> full.parish(0, w), NONE, 17, 18, 19, 27, 28, 29, 37, 38, 39, 70, 79);
        QuotaParish none = Checks.parish("");
        e.each("of nothing", w -> none.parish(0, w), NONE, 10, 20, 30, 40, 50, 60);
    }

    private void deed() {
        e.says(7, "How many DEEDS (k NONE, what 0); of DEED k, what 0: 0 year, 1 buy, 2 lose, 3 quota, 4 price, 5 cut, 1: its number"
            + " (NONE without).");
        QuotaParish x = new QuotaParish();
        Checks.tell(x, Checks.YEARS, NONE, "price 99;cut 9;quota 0;year;lose 5;buy 6;");
        e.due("how many", x.deed(0, NONE, 0), 6);
        e.run("kind", k -> x.deed(0, k, 0), 0, 4, 5, 3, 0, 2, 1);
        e.run("number", k -> x.deed(0, k, 1), 0, 99, 9, 0, NONE, 5, 6);

        e.says(7, "-2: there is none such (of either), or for another what.");
        e.each("no YEARS", y -> x.deed(y, NONE, 0), -2, Edges.NO_TEXT);
        e.each("no YEARS, a DEED", y -> x.deed(y, 0, 0), -2, Edges.NO_TEXT);
        e.each("no DEED", k -> x.deed(0, k, 0), -2, 6, 7, 39, 40, -2, MIN, MAX);
        e.each("no DEED's number", k -> x.deed(0, k, 1), -2, 6, -1, -2, 40);
        e.each("another what", w -> x.deed(0, 0, w), -2, -1, 2, 3, MIN, MAX);
        e.each("another what of all", w -> x.deed(0, NONE, w), -2, -1, 1, 2, MIN, MAX);
    }

    private void stopPromise() {
        QuotaParish x = Checks.years("quota 5;house 9 0;", "year;buy 0;year;");
        e.says(8, "STOP.");
        e.due("the first that can't be", x.stop(0, 0), 1);
        Checks.tell(x, Checks.PARISH, NONE, "quota 5;price 1;house 9 0;");
        Checks.tell(x, Checks.YEARS, NONE, "");
        e.due("of another PARISH", x.stop(1, 0), 3);
        e.due("of other YEARS", x.stop(1, 1), 0);
        QuotaParish y = Checks.years("house 1 1;", "year;");
        e.says(8, "NONE: there is none such (of either).");
        e.each("no PARISH", p -> y.stop(p, 0), NONE, Edges.NO_TEXT);
        e.each("no YEARS", k -> y.stop(0, k), NONE, Edges.NO_TEXT);
        e.each("neither", k -> y.stop(k, k), NONE, Edges.NO_TEXT);
    }

    private void statePromise() {
        e.says(9, "Of a STATE, what 0: the year, 1: PAID in all, 2: LOST in all, 3: those that hold OFFICES, 4: those that are EXEMPT (bits),"
            + " 5: QUOTA, 6: PRICE, 7: RULES that are cut (bits), 10 + h, 20 + h: GOODS, TAX of a HOUSE.");
        QuotaParish x = Checks.years("quota 10;price 3;house 7 1;house 7 0;house 6 2;tie 2 0;tie 2 1;", "buy 0;year;cut 1;quota 8;price 4;year;");
        // The first buys, and the third is EXEMPT by it: the second owes all 10, has 7 and then nothing.
        e.run("behind a year", w -> x.state(0, 0, 2, w), 0, 1, 7, 3, 1, 5, 10, 3, 0, -2, -2, 5, 0, 8, -2);
        e.run("behind all", w -> x.state(0, 0, 6, w), 0, 2, 7, 11, 1, 5, 8, 4, 2, -2, -2, 6, 0, 10, -2);
        e.run("TAX at first", w -> x.state(0, 0, 0, w), 20, 4, 3, 3, -2);
        e.run("TAX behind one", w -> x.state(0, 0, 1, w), 20, 0, 10, 0, -2);

        e.says(9, "-2: there is no such STATE, or for another what.");
        e.each("no PARISH", p -> x.state(p, 0, 0, 0), -2, Edges.NO_TEXT);
        e.each("no YEARS", y -> x.state(0, y, 0, 0), -2, Edges.NO_TEXT);
        e.each("no STATE", n -> x.state(0, 0, n, 0), -2, -1, 7, 8, 40, 41, MIN, MAX);
        e.each("another what", w -> x.state(0, 0, 0, w), -2, -1, 8, 9, 13, 17, 19, 23, 27, 29, 30, 31, 40, 110, -10, MIN, MAX);
        QuotaParish full = Checks.years(HOUSES, "");
        e.each("the last HOUSE's GOODS", w -> full.state(0, 0, 0, w), 1, 10, 16);
        e.each("behind the last", w -> full.state(0, 0, 0, w), -2, 17, 18, 19, 27, 28, 29, 30);
    }

    // ---- years by a seed, promise 22 ----

    private void drawn(QuotaParish x, int seed, int n, int[][] rows) {
        e.rows("drawn(0, " + seed + ", " + n + ", ..)", w -> x.drawn(0, seed, n, w), rows);
    }

    /** Each seed's first number is 32768 or more, so that a shift with a sign would answer another one. */
    private void drawnDeeds() {
        e.says(Doc.TERMS, "DRAWN by a SEED, x; a number below n is drawn: x becomes x * 1103515245 + 12345 (of 32 bits), it is x shifted right"
            + " by 16 without sign, remainder by n: n times, 0 to 60: a number below 10: 0 to 3: year; 4, 5: buy, 6: lose, a HOUSE, below"
            + " all; 7: quota, 8: price, a number below 100; 9: cut, a RULE, below 10; each, if it may.");
        QuotaParish x = Checks.parish(SEEDED);
        drawn(x, 77, 0, new int[][] {{0, 0}, {1, 0}, {2, 0}, {3, 2}, {4, 2}, {5, 20}, {6, 5}, {7, 0}, {10, 30}, {11, 4}, {12, 10}, {20, 15}, {22, 5}});
        // First numbers 46880, 61901, 52332, 45063.
        for (int seed : new int[] {-5, -8, 7, -9}) {
            drawn(x, seed, 1, new int[][] {{0, 1}, {1, 20}, {2, 0}, {3, 2}, {5, 20}, {6, 5}, {10, 16}, {11, 6}, {12, 8}});
        }
        // 60084, 46140: buy 0; 37794, 53755: buy 1, which holds one; 4 and, by 80, buy 2, and the first is EXEMPT, too.
        drawn(x, -12, 1, new int[][] {{0, 0}, {3, 3}, {4, 3}, {10, 25}, {22, 20}});
        drawn(x, -25, 1, new int[][] {{0, 0}, {3, 2}, {11, 4}, {5, 20}, {6, 5}});
        drawn(x, 80, 1, new int[][] {{0, 0}, {3, 6}, {4, 7}, {12, 5}});
        // Of 5: buy 0, 1, 2; of 6: lose 0, which holds none, lose 1, lose 2.
        drawn(x, -74, 1, new int[][] {{3, 3}, {10, 25}});
        drawn(x, 18, 1, new int[][] {{3, 2}, {11, 4}});
        drawn(x, 62, 1, new int[][] {{3, 6}, {12, 5}});
        drawn(x, 92, 1, new int[][] {{3, 2}, {10, 30}});
        drawn(x, -59, 1, new int[][] {{3, 0}, {4, 0}, {11, 4}, {20, 14}, {21, 2}, {22, 4}});
        drawn(x, -13, 1, new int[][] {{3, 2}, {12, 10}});
        // 48697, 4409: quota 9; 63718, 51537: price 37.
        drawn(x, -1, 1, new int[][] {{0, 0}, {5, 9}, {6, 5}, {20, 7}, {22, 2}});
        drawn(x, -4, 1, new int[][] {{0, 0}, {5, 20}, {6, 37}});
        drawn(x, -125, 1, new int[][] {{0, 0}, {5, 20}, {6, 5}, {7, 1}});
        drawn(x, 42, 1, new int[][] {{0, 0}, {5, 20}, {6, 5}, {7, 0}});
    }

    private void drawnNumbers() {
        QuotaParish x = Checks.parish(SEEDED);
        drawn(x, -2177, 1, new int[][] {{5, 0}});
        drawn(x, -993, 1, new int[][] {{5, 99}});
        drawn(x, 2265, 1, new int[][] {{6, 0}});
        drawn(x, -91, 1, new int[][] {{6, 99}});
        QuotaParish full = Checks.parish("price 1;" + HOUSES + "tie 0 1;".repeat(10) + "office 0;");
        drawn(full, -125, 1, new int[][] {{7, 1}});
        drawn(full, -963, 1, new int[][] {{7, 512}});
        // The first and the last of seven.
        drawn(full, -130, 1, new int[][] {{3, 1}});
        drawn(full, 275, 1, new int[][] {{3, 65}});
        drawn(full, 62, 1, new int[][] {{3, 65}});
        drawn(full, 197, 1, new int[][] {{3, 0}});
        drawn(full, 46, 1, new int[][] {{3, 1}});
        // One that may not be is drawn all the same, and the next one behind it: 92: lose 0, 54323: year.
        drawn(x, 92, 2, new int[][] {{0, 1}, {3, 2}});
        // 7269, 65029: cut 9; 44767, 46797: quota 97.
        drawn(x, 16, 2, new int[][] {{5, 97}, {7, 0}});
        // 34317, 18920: quota 20, as it was; 25741: year.
        drawn(x, 4295, 2, new int[][] {{0, 1}, {5, 20}, {1, 20}});
        // From the ends: 15929, 37177: cut 7; 42630: year. And 32768, 21468: price 68; 9988: price.
        drawn(x, Integer.MAX_VALUE, 2, new int[][] {{0, 1}, {7, 0}});
        drawn(x, Integer.MIN_VALUE, 1, new int[][] {{6, 68}, {0, 0}});

        e.says(Doc.TERMS, "(Without HOUSES 4 to 6 draw no more, nothing is done.)");
        QuotaParish none = Checks.parish("quota 20;");
        // 46764, 33317, 27465: nothing, quota 65; likewise by 5 and 6.
        drawn(none, 139, 1, new int[][] {{0, 0}, {3, 0}, {5, 20}, {6, 10}});
        drawn(none, 139, 2, new int[][] {{0, 0}, {3, 0}, {5, 65}});
        drawn(none, 3, 2, new int[][] {{5, 65}});
        drawn(none, 79, 2, new int[][] {{5, 21}});
        // With one it is drawn, though there is no other: 46764, 33317: buy 0; 27465: buy again.
        drawn(Checks.parish("quota 20;house 50 0;"), 139, 2, new int[][] {{5, 20}, {3, 1}});
    }

    private void drawnPromise() {
        e.says(22, "DRAWN, n times, what as state().");
        QuotaParish x = Checks.parish(SEEDED);
        e.rows("what", w -> x.drawn(0, -5, 1, w), new int[][] {{0, 1}, {1, 20}, {2, 0}, {3, 2}, {4, 2}, {5, 20}, {6, 5}, {7, 0},
            {10, 16}, {11, 6}, {12, 8}, {20, 13}, {21, 0}, {22, 7}});
        e.due("as told still", x.parish(0, 10), 30);
        e.says(22, "-2: there is none such, another n, or for another what.");
        e.each("no PARISH", p -> x.drawn(p, 1, 1, 0), -2, Edges.NO_TEXT);
        e.each("another n", n -> x.drawn(0, 1, n, 0), -2, -1, 61, 62, 100, MIN, MAX);
        e.each("0 and 60 may be", n -> Math.min(x.drawn(0, 1, n, 0), 0), 0, 0, 1, 59, 60);
        e.each("another what", w -> x.drawn(0, 1, 1, w), -2, -1, 8, 9, 13, 17, 19, 23, 27, 30, MIN, MAX);
        e.each("another what of n 0", w -> x.drawn(0, 1, 0, w), -2, -1, 8, 9, 13, 23, 30);
    }

    // ---- Of YEARS in a PARISH, promise 32 ----

    private void after(String parish, String years, int what, int want) {
        e.due("after(0, 0, " + what + ") of " + years + " in " + parish, Checks.years(parish, years).after(0, 0, what), want);
    }

    private void sold() {
        String two = "quota 10;price 3;house 20 0;house 20 0;house 20 0;";
        e.says(Doc.TERMS, "Of YEARS in a PARISH, behind all DEEDS up to STOP: SOLD: for how much OFFICES were bought, together;");
        after(two, "", 0, 0);
        after(two, "year;year;", 0, 0);
        after(two, "buy 0;", 0, 3);
        after(two, "buy 0;lose 0;price 5;buy 0;price 0;buy 1;price 7;buy 2;", 0, 15);
        // Not behind STOP.
        after(two, "buy 0;buy 0;buy 1;", 0, 3);
        after(two + "office 2;", "year;", 0, 0);

        e.says(Doc.TERMS, "SHORT: the DEED (from 0 on) behind which anything was LOST first (none);");
        after(two, "", 1, NONE);
        after(two, "year;year;", 1, NONE);
        // 60 in all pay 10 for six years.
        after(two, "year;".repeat(6), 1, NONE);
        after(two, "year;".repeat(7), 1, 6);
        after("quota 10;house 9 0;", "year;year;", 1, 0);
        after("quota 10;house 9 0;office 0;", "lose 0;quota 9;year;quota 8;year;", 1, 4);
        after("quota 10;house 9 0;", "lose 0;year;", 1, NONE);
        after("quota 5;", "price 5;year;", 1, 1);
        after("quota 0;", "year;year;", 1, NONE);
    }

    private void peak() {
        e.says(Doc.TERMS, "PEAK: the most HOUSES that are EXEMPT at once, at first or behind any DEED;");
        String three = "quota 6;price 3;house 20 0;house 20 0;house 20 0;tie 1 0;";
        after(three, "", 2, 0);
        after("", "", 2, 0);
        after(three + "office 0;", "lose 0;", 2, 2);
        after(three + "office 0;", "cut 0;", 2, 2);
        after(three, "buy 0;lose 0;buy 2;", 2, 2);
        after(three, "buy 2;buy 0;", 2, 3);
        after(three, "buy 2;lose 1;buy 0;", 2, 1);
        // Not counted twice: one goes, one comes.
        after(three, "buy 1;lose 1;buy 2;", 2, 1);
        after(HOUSES + "office 6;tie 5 6;tie 4 5;tie 3 4;tie 2 3;tie 1 2;tie 0 1;", "cut 0;", 2, 7);
    }

    private void lean() {
        e.says(Doc.TERMS, "LEAN: the year (1 is the first) in which least was paid, of several the first (none: no year);");
        String one = "quota 5;price 3;house 50 0;";
        after(one, "", 3, NONE);
        after(one, "buy 0;lose 0;", 3, NONE);
        after(one, "year;", 3, 1);
        after(one, "year;year;year;", 3, 1);
        after(one, "year;quota 4;year;quota 6;year;", 3, 2);
        after(one, "quota 6;year;year;quota 4;year;year;quota 5;year;", 3, 3);
        // A year in which nothing is paid is the least of all.
        after(one, "year;quota 0;year;quota 1;year;", 3, 2);
        after(one, "quota 6;year;lose 0;quota 1;year;", 3, 1);
        after("quota 5;", "year;year;", 3, 1);

        e.says(Doc.TERMS, "BUYER: the HOUSE that bought most often, of several the least (nobody: none).");
        String three = "quota 6;price 3;house 20 0;house 20 0;house 20 0;";
        after(three, "", 4, NONE);
        after(three + "office 0;", "year;lose 0;", 4, NONE);
        after(three, "buy 0;", 4, 0);
        after(three, "buy 2;buy 0;", 4, 0);
        after(three, "buy 2;", 4, 2);
        after(three, "buy 2;buy 1;", 4, 1);
        after(three, "buy 1;buy 2;lose 2;buy 2;", 4, 2);
        after(three, "buy 1;lose 1;buy 1;buy 2;lose 2;buy 2;", 4, 1);
        after(three, "buy 2;buy 2;buy 1;", 4, 2);
        after("price 1;" + HOUSES, "buy 6;", 4, 6);
    }

    private void afterPromise() {
        e.says(32, "What 0: SOLD, 1: SHORT (NONE), 2: PEAK, 3: LEAN (NONE), 4: BUYER (NONE).");
        QuotaParish x = Checks.years("quota 10;price 2;house 3 0;house 9 1;house 8 0;tie 0 2;", "buy 2;year;year;year;");
        // The second owes all: it pays 9 of 10, then 1 and 1.
        e.run("after", w -> x.after(0, 0, w), 0, 2, 1, 2, 2, 2);
        e.run("asked again", w -> x.after(0, 0, w), 0, 2, 1, 2, 2, 2);
        QuotaParish none = Checks.years("", "");
        e.run("of nothing", w -> none.after(0, 0, w), 0, 0, NONE, 0, NONE, NONE);
        e.says(32, "-2: there is none such (of either), or for another what.");
        e.each("no PARISH", p -> x.after(p, 0, 0), -2, Edges.NO_TEXT);
        e.each("no YEARS", y -> x.after(0, y, 0), -2, Edges.NO_TEXT);
        e.each("another what", w -> x.after(0, 0, w), -2, -1, 5, 6, 10, MIN, MAX);
    }
}
