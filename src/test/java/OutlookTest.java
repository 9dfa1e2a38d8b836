/** Promises 13, 14, 29 to 31: nothing but years. */
public final class OutlookTest {
    private static final int NONE = QuotaParish.NONE;
    private static final Checks C = new Checks("OutlookTest");
    private static final String ONE = "quota 10;house 20 1;";
    private static final String RACE = "quota 10;house 50 0;house 40 5;";

    public static void main(String[] args) {
        ruin();
        bid();
        top();
        behind();
        passed();
        level();
        spread();
        wrong();
        C.finish();
    }

    private static void ruin(String text, int year, int house) {
        QuotaParish x = Checks.parish(text);
        C.due("ruin of " + text, x.ruin(0, false), year);
        C.due("whose ruin of " + text, x.ruin(0, true), house);
    }

    private static void ruin() {
        ruin(ONE, 3, 0);
        ruin("quota 0;house 0 0;", NONE, NONE);
        ruin("quota 9;", NONE, NONE);
        ruin("quota 1;house 49 0;", NONE, NONE);
        ruin("quota 5;house 5 5;", NONE, NONE);
        // 49 years leave nothing, and where there are no GOODS there is no TAX.
        ruin("quota 2;house 98 0;", NONE, NONE);
        // 48 years leave 1, and 2 are due.
        ruin("quota 2;house 97 0;", 49, 0);
        ruin("quota 99;house 10 0;house 9 9;house 9 9;office 0;", 1, 1);
        // 49 years leave 1, and 3 are due in the last one.
        ruin("quota 3;house 99 1;", 50, 0);
        ruin("quota 9;house 9 0;office 0;", NONE, NONE);
    }

    private static void bid() {
        QuotaParish x = Checks.parish(ONE);
        int[] due = {0, 10, 20, 22, 23, 24};
        for (int n = 0; n < due.length; n++) {
            C.due("bid of " + n, x.bid(0, n), due[n]);
        }
        C.due("bid of 50", x.bid(0, 50), 69);
        C.due("bid of 51", x.bid(0, 51), NONE);
        C.due("bid of -1", x.bid(0, -1), NONE);
        C.due("no PARISH", x.bid(1, 1), NONE);
    }

    private static void top() {
        QuotaParish x = Checks.parish(ONE);
        int[][] due = {{1, 20}, {2, 10}, {19, 2}, {20, 1}, {50, 1}, {0, NONE}, {51, NONE}, {-1, NONE}};
        for (int[] d : due) {
            C.due("top of " + d[0], x.top(0, d[0]), d[1]);
        }
        C.due("no PARISH", x.top(1, 1), NONE);
        C.due("nobody there", Checks.parish("").top(0, 50), 99);
        C.due("nothing to give", Checks.parish("house 0 0;").top(0, 50), 99);
        C.due("one penny", Checks.parish("house 1 0;house 0 0;").top(0, 1), 1);
        // After one year there is nothing, nobody has TAX, and that is no RUIN.
        C.due("all at once", Checks.parish("house 30 0;").top(0, 50), 30);
    }

    private static void behind() {
        QuotaParish x = Checks.parish(RACE);
        int[][] due = {{0, 0, 90}, {0, 1, 0}, {0, 2, 1}, {0, 3, 0}, {0, 10, 50}, {0, 11, 40}, {1, 10, 44}, {1, 11, 41},
            {1, 0, 85}, {1, 1, 0}, {2, 10, 39}, {2, 11, 41}, {2, 1, 1}, {2, 2, 0}, {0, 12, -2}, {0, 4, -2}, {0, 9, -2},
            {0, -1, -2}, {51, 0, -2}, {-1, 0, -2}};
        for (int[] d : due) {
            C.due("behind(0, " + d[0] + ", " + d[1] + ")", x.behind(0, d[0], d[1]), d[2]);
        }
        C.due("no PARISH", x.behind(1, 0, 0), -2);
        C.due("LOST", Checks.parish(ONE).behind(0, 3, 3), 8);
        C.due("LOST on", Checks.parish(ONE).behind(0, 5, 3), 26);
        QuotaParish none = Checks.parish("quota 5;");
        int[] empty = {0, NONE, NONE, 250};
        for (int what = 0; what < 4; what++) {
            C.due("no HOUSES " + what, none.behind(0, 50, what), empty[what]);
        }
        QuotaParish same = Checks.parish("quota 0;house 5 0;house 5 0;");
        C.due("richest of several", same.behind(0, 50, 1), 0);
        C.due("poorest of several", same.behind(0, 50, 2), 0);
    }

    private static void passed() {
        C.due("passed", Checks.parish(RACE).passed(0, 0), 2);
        C.due("never", Checks.parish(ONE).passed(0, 0), NONE);
        C.due("nobody", Checks.parish("").passed(0, 0), NONE);
        C.due("at last", Checks.parish("quota 0;house 49 0;house 0 1;").passed(0, 0), 50);
        C.due("too late", Checks.parish("quota 0;house 50 0;house 0 1;").passed(0, 0), NONE);
        C.due("a lesser number by as much", Checks.parish("quota 0;house 0 1;house 9 0;").passed(0, 0), 9);
    }

    private static void level() {
        C.due("level", Checks.parish(ONE).passed(0, 1), 3);
        C.due("at once", Checks.parish("quota 5;house 5 5;").passed(0, 1), 0);
        C.due("nobody", Checks.parish("").passed(0, 1), 0);
        C.due("by the most GOODS", Checks.parish("quota 0;house 95 9;").passed(0, 1), 1);
        C.due("behind 50", Checks.parish("quota 0;house 49 1;").passed(0, 1), 50);
        C.due("never", Checks.parish("quota 0;house 48 1;").passed(0, 1), NONE);
    }

    private static void spread() {
        QuotaParish x = Checks.parish("quota 7;house 3 0;house 3 0;house 3 0;");
        C.due("spread", x.passed(0, 2), 1);
        C.due("uneven", x.passed(0, 3), 2);
        QuotaParish exempt = Checks.parish("quota 7;house 3 0;house 3 0;house 3 0;office 1;");
        C.due("spread of two", exempt.passed(0, 2), 1);
        C.due("uneven of two", exempt.passed(0, 3), 1);
        QuotaParish all = Checks.parish("quota 7;house 3 0;office 0;");
        C.due("all EXEMPT", all.passed(0, 2), 0);
        C.due("none uneven", all.passed(0, 3), 0);
        C.due("one alone", Checks.parish("quota 7;house 3 0;").passed(0, 2), 0);
        C.due("one without GOODS", Checks.parish("quota 7;house 3 0;house 0 0;").passed(0, 2), 7);
        C.due("nobody", Checks.parish("quota 7;").passed(0, 2), 0);
    }

    private static void wrong() {
        QuotaParish x = Checks.parish(ONE);
        C.due("no PARISH", x.ruin(1, false), NONE);
        C.due("PARISH -1", x.ruin(-1, true), NONE);
        C.due("what 4", x.passed(0, 4), -2);
        C.due("what -1", x.passed(0, -1), -2);
        C.due("passed of none", x.passed(1, 0), -2);
    }
}
