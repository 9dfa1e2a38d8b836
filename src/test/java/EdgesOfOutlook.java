/** What comes of a PARISH as told: its terms, and promises 13 to 16, 26, 27, 29 to 31, sentence by sentence. */
final class EdgesOfOutlook {
    private static final int NONE = QuotaParish.NONE;
    private static final int MIN = Integer.MIN_VALUE;
    private static final int MAX = Integer.MAX_VALUE;
    /** It pays 10, 10, 2, and 1 each year from then on. */
    private static final String ONE = "quota 10;house 20 1;";
    /** GOODS 50 40, 44 41, 39 41. */
    private static final String RACE = "quota 10;house 50 0;house 40 5;";
    /** TAX 4 of the first three. */
    private static final String FOUR = "quota 12;house 4 0;house 4 0;house 4 0;house 9 0;tie 2 1;office 3;";
    /** Of four HOUSES those that are not there. */
    private static final int[] NO_HOUSE = {-1, 4, 6, 7, -2, MIN, MAX};

    private final Edges e;

    EdgesOfOutlook(Edges e) {
        this.e = e;
    }

    void run() {
        ruin();
        bid();
        burden();
        burdenPromise();
        falls();
        fallsPromise();
        harm();
        foe();
        foePromise();
        top();
        behind();
        behindPromise();
        passed();
        level();
        spread();
        passedPromise();
    }

    private void ruin(String text, int year, int house) {
        QuotaParish x = Checks.parish(text);
        e.due("RUIN of " + text, x.ruin(0, false), year);
        e.due("whose RUIN of " + text, x.ruin(0, true), house);
    }

    private void ruin() {
        e.says(Doc.TERMS, "RUIN: nothing but years: the first year, 1 .. 50, in which any HOUSE can't pay its whole TAX (none: none); the HOUSE,"
            + " of several the least.");
        ruin("quota 10;house 9 0;", 1, 0);
        // It pays all it has, and then there is no TAX.
        ruin("quota 10;house 10 0;", NONE, NONE);
        ruin(ONE, 3, 0);
        // 4 are left in the 50th year, in the 51st, and 5 are due.
        ruin("quota 5;house 53 4;", 50, 0);
        ruin("quota 5;house 54 4;", NONE, NONE);
        ruin("quota 5;house 5 5;", NONE, NONE);
        ruin("quota 0;house 0 0;", NONE, NONE);
        ruin("quota 9;", NONE, NONE);
        ruin("quota 9;house 1 0;office 0;", NONE, NONE);
        // Both can't, and the one that is EXEMPT owes nothing.
        ruin("quota 99;house 10 0;house 9 9;house 9 9;office 0;", 1, 1);
        // TAX 9 and 11.
        ruin("quota 20;house 9 0;house 10 0;", 1, 1);

        e.says(13, "RUIN: the year, or (who) the HOUSE.");
        ruin("quota 10;house 0 0;house 5 0;", 1, 1);
        e.says(13, "NONE: none, or there is none such.");
        ruin("quota 1;house 99 0;", NONE, NONE);
        QuotaParish x = Checks.parish(ONE);
        e.each("no PARISH", p -> x.ruin(p, false), NONE, Edges.NO_TEXT);
        e.each("no PARISH, who", p -> x.ruin(p, true), NONE, Edges.NO_TEXT);
    }

    private void bid() {
        e.says(Doc.TERMS, "BID of n, 0 .. 50: nothing but years: what is paid in n of these, together.");
        QuotaParish x = Checks.parish(ONE);
        e.run("bid", n -> x.bid(0, n), 0, 0, 10, 20, 22, 23, 24);
        e.rows("bid", n -> x.bid(0, n), new int[][] {{49, 68}, {50, 69}});
        // 99, and then 49 times 9.
        e.due("the most of one", Checks.parish("quota 99;house 99 9;").bid(0, 50), 540);
        e.due("nobody pays", Checks.parish("quota 99;").bid(0, 50), 0);
        e.due("all EXEMPT", Checks.parish("quota 99;house 9 9;office 0;").bid(0, 50), 0);

        e.says(14, "BID of n.");
        e.due("two houses", Checks.parish(RACE).bid(0, 2), 20);
        e.says(14, "NONE: another n, or there is none such.");
        e.each("another n", n -> x.bid(0, n), NONE, -1, 51, 52, 99, MIN, MAX);
        e.each("no PARISH", p -> x.bid(p, 1), NONE, Edges.NO_TEXT);
    }

    private void burden(String text, int... wants) {
        QuotaParish x = Checks.parish(text);
        e.run("burden of " + text, w -> x.burden(0, w), 0, wants);
    }

    private void burden() {
        e.says(Doc.TERMS, "BURDEN: of the HOUSES that have any TAX the one of which it is the greatest part of its GOODS, of several the least"
            + " (none has TAX: none); that part, a fraction in least terms.");
        // TAX 4, 4, 2.
        burden("quota 10;house 6 0;house 6 0;house 2 0;", 2, 1, 1);
        // TAX 2, 2, 1.
        burden("quota 5;house 4 0;house 3 0;house 3 0;", 1, 2, 3);
        // Of several the least, by different GOODS: 1 of 2, 2 of 4.
        burden("quota 3;house 2 0;house 4 0;", 0, 1, 2);
        burden("quota 3;house 4 0;house 2 0;", 0, 1, 2);
        burden("quota 20;house 4 0;house 4 0;house 0 0;", 0, 5, 2);
        burden("quota 99;house 1 0;", 0, 99, 1);
        // The first has no TAX.
        burden("quota 1;house 1 0;house 99 0;", 1, 1, 99);
        burden("quota 6;house 1 0;house 9 0;office 0;", 1, 2, 3);
        burden("quota 0;house 4 0;", NONE, NONE, NONE);
        burden("quota 9;house 0 0;", NONE, NONE, NONE);
        burden("quota 9;house 9 0;office 0;", NONE, NONE, NONE);
        burden("", NONE, NONE, NONE);
    }

    private void burdenPromise() {
        e.says(15, "BURDEN, what 0: the HOUSE, 1: N, 2: D.");
        burden("quota 4;house 3 0;house 3 0;", 0, 2, 3);
        e.says(15, "NONE: none, there is none such, or for another what.");
        burden("quota 0;house 9 9;", NONE, NONE, NONE);
        QuotaParish x = Checks.parish(ONE);
        e.each("no PARISH", p -> x.burden(p, 0), NONE, Edges.NO_TEXT);
        e.each("another what", w -> x.burden(0, w), NONE, -1, 3, 4, MIN, MAX);
    }

    /** How many there are, and each of them. */
    private void falls(String text, int house, int... wants) {
        QuotaParish x = Checks.parish(text);
        e.due("FALLS of " + house + " in " + text, x.falls(0, house, NONE), wants.length);
        e.run("FALLS of " + house + " in " + text, k -> x.falls(0, house, k), 0, wants);
        e.due("no more FALLS of " + house + " in " + text, x.falls(0, house, wants.length), NONE);
    }

    private void falls() {
        e.says(Doc.TERMS, "FALLS of a HOUSE: QUOTAS, 1 .. 99, by which its TAX is less than by one less, all else as told: how many; the k-th,"
            + " rising.");
        // By 3 the rests are 4, 4, 6 of 14, one left over; by 4 they are 10, 10, 8, two left over; and again behind each 7.
        int[] every7 = {4, 11, 18, 25, 32, 39, 46, 53, 60, 67, 74, 81, 88, 95};
        falls("quota 10;house 6 0;house 6 0;house 2 0;", 2, every7);
        falls("quota 99;price 0;house 6 9;house 6 9;house 2 9;", 2, every7);
        falls("quota 0;house 6 0;house 6 0;house 2 0;", 0);
        falls("quota 0;house 6 0;house 6 0;house 2 0;", 1);
        // By 98 the rests are 8, 8, 11 of 27, one left over; by 99 18, 18, 18, two left over.
        falls("house 10 0;house 10 0;house 7 0;", 2, 18, 45, 72, 99);
        // By 9 the rests are 9, 9, 12 of 30, by 10 20, 20, 20; the next behind 70 would be 100.
        falls("house 11 0;house 11 0;house 8 0;", 2, 10, 40, 70);
        // Those that are EXEMPT do not count, and have no TAX that could fall.
        falls("house 6 0;house 50 0;house 6 0;house 2 0;office 1;", 3, every7);
        falls("house 6 0;house 50 0;house 6 0;house 2 0;house 9 0;tie 1 4;office 4;", 3, every7);
        falls("house 6 0;house 6 0;house 2 0;office 2;", 2);
        falls("house 5 0;", 0);
        falls("house 0 0;", 0);
    }

    private void fallsPromise() {
        QuotaParish x = Checks.parish("house 6 0;house 6 0;house 2 0;house 0 0;");
        e.says(16, "FALLS of a HOUSE: how many (k NONE), or the k-th.");
        e.rows("falls", k -> x.falls(0, 2, k), new int[][] {{NONE, 14}, {0, 4}, {1, 11}, {13, 95}});
        e.says(16, "NONE: not so many, or there is none such (of either).");
        e.each("not so many", k -> x.falls(0, 2, k), NONE, 14, 15, 99, -2, MIN, MAX);
        e.each("none of none", k -> x.falls(0, 0, k), NONE, 0, 1);
        e.each("no HOUSE", h -> x.falls(0, h, NONE), NONE, NO_HOUSE);
        e.each("no HOUSE's first", h -> x.falls(0, h, 0), NONE, NO_HOUSE);
        e.each("no PARISH", p -> x.falls(p, 2, NONE), NONE, Edges.NO_TEXT);
    }

    private void harm() {
        QuotaParish x = Checks.parish(FOUR);
        e.says(Doc.TERMS, "HARM of a HOUSE to an unlike one: how much more TAX this has, if that one holds an OFFICE, too (less: below 0; if it"
            + " holds one, 0).");
        e.due("two share what three did", x.harm(0, 0, 1), 2);
        e.due("with its tied one", x.harm(0, 1, 0), 8);
        e.due("less", x.harm(0, 1, 2), -4);
        e.each("it holds one", h -> x.harm(0, 3, h), 0, 0, 1, 2);
        e.each("to one that is EXEMPT", h -> x.harm(0, h, 3), 0, 0, 1, 2);
        // By 8 the rests are 3, 3, 1, 1 and the first has one more; by 7 4, 5, 5, and it has none.
        e.due("by the rests alone", Checks.parish("quota 11;house 1 0;house 1 0;house 3 0;house 3 0;").harm(0, 1, 0), -1);
        e.due("the whole QUOTA", Checks.parish("quota 99;house 99 0;house 1 0;").harm(0, 0, 1), 98);

        e.says(26, "HARM of one to another.");
        e.due("one", x.harm(0, 2, 1), 2);
        e.due("the other way round", x.harm(0, 1, 2), -4);
        e.says(26, "-999: they are not two, or there is none such (of any).");
        e.each("not two", h -> x.harm(0, h, h), -999, 0, 1, 3, 4, -1, MIN, MAX);
        e.each("no first HOUSE", h -> x.harm(0, h, 0), -999, NO_HOUSE);
        e.each("no second HOUSE", h -> x.harm(0, 0, h), -999, NO_HOUSE);
        e.each("no PARISH", p -> x.harm(p, 0, 1), -999, Edges.NO_TEXT);
    }

    private void foes(String text, int house, int what, int... wants) {
        QuotaParish x = Checks.parish(text);
        e.run("foe(0, " + house + ", ..) in " + text, w -> x.foe(0, house, w), what, wants);
    }

    private void foe() {
        e.says(Doc.TERMS, "FOE of a HOUSE: the unlike one whose HARM is most, above 0, of several the least (none: none); how much;");
        foes(FOUR, 0, 0, 1, 8);
        // Both others do 2.
        foes(FOUR, 1, 0, 0, 2);
        foes(FOUR, 2, 0, 0, 2);
        foes(FOUR, 3, 0, NONE, 0);
        foes("quota 0;house 5 0;house 5 0;", 0, 0, NONE, 0);
        foes("quota 9;house 5 0;", 0, 0, NONE, 0);
        foes("quota 9;house 5 0;house 5 0;house 0 0;", 2, 0, NONE, 0);
        // The greatest GOODS, though it comes last.
        foes("quota 12;house 3 0;house 3 0;house 6 0;", 0, 0, 2, 3);

        e.says(Doc.TERMS, "FRIEND: the one whose HARM is least, below 0, of several the least (none: none); how much less.");
        foes(FOUR, 0, 2, NONE, 0);
        foes(FOUR, 2, 2, 1, 4);
        foes(FOUR, 3, 2, NONE, 0);
        foes("quota 9;house 3 0;house 3 0;house 3 0;tie 0 2;tie 0 1;", 0, 2, 1, 3);
        // 1 less by the second, 2 less by the third.
        foes("quota 11;house 1 0;house 1 0;house 3 0;house 3 0;tie 0 2;", 0, 0, NONE, 0, 2, 2);
        foes("quota 11;house 1 0;house 1 0;house 3 0;house 3 0;", 0, 0, NONE, 0, 1, 1);
        foes("quota 9;house 5 0;", 0, 2, NONE, 0);
    }

    private void foePromise() {
        e.says(27, "Of a HOUSE, what 0: FOE (NONE), 1: how much (0: none), 2: FRIEND (NONE), 3: how much less (0: none).");
        foes(FOUR, 2, 0, 0, 2, 1, 4);
        foes(FOUR, 3, 0, NONE, 0, NONE, 0);
        QuotaParish x = Checks.parish(FOUR);
        e.says(27, "-2: there is none such (of either), or for another what.");
        e.each("no HOUSE", h -> x.foe(0, h, 0), -2, NO_HOUSE);
        e.each("no HOUSE, the last what", h -> x.foe(0, h, 3), -2, NO_HOUSE);
        e.each("no PARISH", p -> x.foe(p, 0, 0), -2, Edges.NO_TEXT);
        e.each("another what", w -> x.foe(0, 0, w), -2, -1, 4, 5, MIN, MAX);
    }

    private void top() {
        e.says(Doc.TERMS, "TOP of n, 1 .. 50: the greatest QUOTA, 0 .. 99, all else as told, by which there is no RUIN in years 1 to n.");
        QuotaParish x = Checks.parish("quota 99;house 20 1;");
        e.rows("top", n -> x.top(0, n), new int[][] {{1, 20}, {2, 10}, {3, 7}, {19, 2}, {20, 1}, {49, 1}, {50, 1}});
        e.due("99", Checks.parish("house 99 0;").top(0, 1), 99);
        e.due("98", Checks.parish("house 98 0;").top(0, 1), 98);
        e.due("together", Checks.parish("house 9 0;house 10 0;house 99 0;office 2;").top(0, 1), 19);
        // All in the first year, and then there is no TAX, though by one less there is RUIN in the second.
        e.due("all at once", Checks.parish("house 30 0;").top(0, 50), 30);
        e.due("nobody there", Checks.parish("").top(0, 50), 99);
        e.due("nothing to give", Checks.parish("house 0 0;").top(0, 50), 99);
        e.due("nothing in the first year", Checks.parish("house 0 1;").top(0, 1), 99);
        e.due("1 in the second", Checks.parish("house 0 1;").top(0, 2), 1);
        // By 5 it ends in the 50th year, by 4 it never does.
        e.due("49 years", Checks.parish("house 53 4;").top(0, 49), 5);
        e.due("50 years", Checks.parish("house 53 4;").top(0, 50), 4);

        e.says(29, "TOP of n.");
        e.due("two years", Checks.parish(ONE).top(0, 2), 10);
        e.says(29, "NONE: another n, or there is none such.");
        e.each("another n", n -> x.top(0, n), NONE, 0, -1, 51, 52, MIN, MAX);
        e.each("no PARISH", p -> x.top(p, 1), NONE, Edges.NO_TEXT);
    }

    private void behind() {
        e.says(Doc.TERMS, "BEHIND n years, 0 .. 50, nothing but years: GOODS of a HOUSE; of all together; RICHEST, POOREST: the HOUSE of most, of"
            + " fewest GOODS, of several the least (none: none); LOST so far.");
        QuotaParish race = Checks.parish(RACE);
        e.run("GOODS of 0", n -> race.behind(0, n, 10), 0, 50, 44, 39);
        e.run("GOODS of 1", n -> race.behind(0, n, 11), 0, 40, 41, 41);
        e.run("together", n -> race.behind(0, n, 0), 0, 90, 85, 80);
        e.run("RICHEST", n -> race.behind(0, n, 1), 0, 0, 0, 1);
        e.run("POOREST", n -> race.behind(0, n, 2), 0, 1, 1, 0);
        QuotaParish one = Checks.parish(ONE);
        e.rows("LOST", n -> one.behind(0, n, 3), new int[][] {{0, 0}, {2, 0}, {3, 8}, {4, 17}, {5, 26}, {50, 431}});
        QuotaParish same = Checks.parish("quota 0;house 5 0;house 5 0;house 5 0;");
        e.run("of several", w -> same.behind(0, 50, w), 1, 0, 0);
        QuotaParish last = Checks.parish("quota 0;house 5 0;house 4 0;house 4 1;house 5 1;");
        e.run("at first", w -> last.behind(0, 0, w), 1, 0, 1);
        e.run("behind one", w -> last.behind(0, 1, w), 1, 3, 1);
        e.run("behind 50", w -> last.behind(0, 50, w), 0, 118, 3, 1, 0);
        QuotaParish none = Checks.parish("quota 5;");
        e.run("of nothing at first", w -> none.behind(0, 0, w), 0, 0, NONE, NONE, 0);
        e.run("of nothing behind 50", w -> none.behind(0, 50, w), 0, 0, NONE, NONE, 250);
    }

    private void behindPromise() {
        QuotaParish x = Checks.parish(RACE);
        e.says(30, "BEHIND n years, what 0: GOODS together, 1: RICHEST (NONE), 2: POOREST (NONE), 3: LOST, 10 + h: GOODS of a HOUSE.");
        e.rows("behind two", w -> x.behind(0, 2, w), new int[][] {{0, 80}, {1, 1}, {2, 0}, {3, 0}, {10, 39}, {11, 41}});
        e.says(30, "-2: another n, there is none such (of either), or for another what.");
        e.each("another n", n -> x.behind(0, n, 0), -2, -1, 51, 52, MIN, MAX);
        e.each("n that may be", n -> Math.min(0, x.behind(0, n, 0)), 0, 0, 1, 49, 50);
        e.each("no PARISH", p -> x.behind(p, 1, 0), -2, Edges.NO_TEXT);
        e.each("no HOUSE", w -> x.behind(0, 1, w), -2, 12, 13, 16);
        e.each("another what", w -> x.behind(0, 1, w), -2, -1, 4, 5, 9, 17, 20, 30, MIN, MAX);
        QuotaParish seven = Checks.parish("quota 0;" + "house 5 0;".repeat(7));
        e.rows("the last one", w -> seven.behind(0, 0, w), new int[][] {{16, 5}, {17, -2}, {18, -2}});
    }

    private void yields(String text, int what, int want) {
        e.due("passed(0, " + what + ") of " + text, Checks.parish(text).passed(0, what), want);
    }

    private void passed() {
        e.says(Doc.TERMS, "PASSED: the first year, 1 .. 50, behind which another one is RICHEST than at first (none: none).");
        yields(RACE, 0, 2);
        yields("quota 0;house 5 0;house 5 1;", 0, 1);
        yields("quota 0;house 49 0;house 0 1;", 0, 50);
        // As much as the first is not more; as much as one behind it is.
        yields("quota 0;house 50 0;house 0 1;", 0, NONE);
        yields("quota 0;house 0 1;house 50 0;", 0, 50);
        yields("quota 0;house 0 1;house 51 0;", 0, NONE);
        yields(ONE, 0, NONE);
        yields("", 0, NONE);
    }

    private void level() {
        e.says(Doc.TERMS, "LEVEL: the fewest years, 0 .. 50, behind which one year more (a 51st, too) changes GOODS of none (none: none).");
        yields("quota 5;house 5 5;", 1, 0);
        yields("", 1, 0);
        yields(ONE, 1, 3);
        yields("quota 0;house 95 9;", 1, 1);
        yields("quota 0;house 99 9;", 1, 0);
        // 99 behind 49, 50, 51 years.
        yields("quota 0;house 50 1;", 1, 49);
        yields("quota 0;house 49 1;", 1, 50);
        yields("quota 0;house 48 1;", 1, NONE);
        // One of two changes; both do, though not together.
        yields("quota 0;house 5 0;house 95 1;", 1, 4);
        yields("quota 0;house 95 1;house 5 0;", 1, 4);
        yields("quota 1;house 5 0;house 4 1;", 1, 1);
        QuotaParish other = Checks.parish("quota 0;house 0 9;house 0 9;");
        Checks.tell(other, Checks.PARISH, NONE, "quota 0;house 5 0;");
        other.parish(0, 31);
        e.due("of another PARISH, which has fewer HOUSES", other.passed(1, 1), 0);
    }

    private void spread() {
        e.says(Doc.TERMS, "SPREAD: the most TAX any HOUSE has less the least any has that is not EXEMPT (0, if all are).");
        yields("quota 7;house 3 0;house 3 0;house 3 0;", 2, 1);
        yields("quota 10;house 6 0;house 2 0;house 2 0;", 2, 4);
        // The TAX of one that is EXEMPT is not the least; that of one without GOODS is.
        yields("quota 7;house 3 0;house 3 0;house 3 0;office 1;", 2, 1);
        yields("quota 7;house 3 0;office 0;", 2, 0);
        yields("quota 7;house 3 0;", 2, 0);
        yields("quota 7;house 3 0;house 0 0;", 2, 7);
        yields("quota 7;house 3 0;house 0 0;office 1;", 2, 0);
        yields("quota 7;", 2, 0);
        yields("quota 0;house 3 0;house 3 0;", 2, 0);
        yields("quota 7;house 0 0;house 3 0;office 1;", 2, 0);

        e.says(Doc.TERMS, "UNEVEN: couples of HOUSES, neither EXEMPT, that have the same GOODS and unlike TAX.");
        yields("quota 7;house 3 0;house 3 0;house 3 0;", 3, 2);
        // TAX 3, 0, 4 and 0, 3, 4: the one that is EXEMPT is in none.
        yields("quota 7;house 3 0;house 3 0;house 4 0;office 1;", 3, 0);
        yields("quota 7;house 3 0;house 3 0;house 3 0;office 1;", 3, 1);
        // TAX 3 and 2 of 3, 2 of 2: unlike GOODS do not count.
        yields("quota 7;house 3 0;house 3 0;house 2 0;", 3, 1);
        yields("quota 6;house 3 0;house 3 0;house 3 0;", 3, 0);
        // Three have 1, four 0.
        yields("quota 3;" + "house 5 0;".repeat(7), 3, 12);
        yields("", 3, 0);
    }

    private void passedPromise() {
        QuotaParish x = Checks.parish(RACE);
        e.says(31, "What 0: PASSED (NONE), 1: LEVEL (NONE), 2: SPREAD, 3: UNEVEN.");
        e.rows("passed", w -> x.passed(0, w), new int[][] {{0, 2}, {2, 2}, {3, 0}});
        QuotaParish slow = Checks.parish("quota 1;house 98 0;house 1 0;");
        // TAX goes to the first till both are alike.
        e.run("of one that is slow", w -> slow.passed(0, w), 0, NONE, NONE, 1, 0);
        e.says(31, "-2: there is none such, or for another what.");
        e.each("no PARISH", p -> x.passed(p, 0), -2, Edges.NO_TEXT);
        e.each("no PARISH, the last what", p -> x.passed(p, 3), -2, Edges.NO_TEXT);
        e.each("another what", w -> x.passed(0, w), -2, -1, 4, 5, MIN, MAX);
    }
}
