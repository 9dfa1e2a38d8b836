/** Promises 20, 21, 33, 34: LOGS told, and who held OFFICES by them. */
public final class LogTest {
    private static final int NONE = QuotaParish.NONE;
    private static final Checks C = new Checks("LogTest");
    private static final String TWO = "quota 10;house 5 0;house 5 0;office 0;";

    public static void main(String[] args) {
        facts();
        fits();
        ask();
        odds();
        fewest();
        wrong();
        C.finish();
    }

    private static void facts() {
        QuotaParish x = new QuotaParish();
        Checks.tell(x, 2, NONE, "paid 3 0;paid 6 99;paid 3 0;");
        C.due("how many", x.fact(0, NONE, 0), 3);
        int[][] due = {{3, 0}, {6, 99}, {3, 0}};
        for (int k = 0; k < 3; k++) {
            C.due("HOUSE of " + k, x.fact(0, k, 0), due[k][0]);
            C.due("TAX of " + k, x.fact(0, k, 1), due[k][1]);
            C.due("what 2", x.fact(0, k, 2), -2);
            C.due("what -1", x.fact(0, k, -1), -2);
        }
        C.due("no more", x.fact(0, 3, 0), -2);
        C.due("none, what 1", x.fact(0, NONE, 1), -2);
        C.due("k -2", x.fact(0, -2, 0), -2);
        C.due("no LOG", x.fact(1, NONE, 0), -2);
        C.due("LOG -1", x.fact(-1, NONE, 0), -2);
    }

    private static void fits(String parish, String log, int[][] due) {
        QuotaParish x = Checks.log(parish, log);
        for (int[] d : due) {
            C.due("fits(0, 0, " + d[0] + ") of " + log, x.fits(0, 0, d[0]), d[1]);
        }
    }

    private static void fits() {
        // By the SETS 0 .. 3 TAX is 5 5, 0 10, 10 0, 0 0; the OFFICE told does not count.
        fits(TWO, "paid 0 0;", new int[][] {{0, 2}, {1, 1}, {2, 1}, {3, NONE}, {4, NONE}, {8, NONE}, {9, -2}, {10, 1}, {11, 3}, {12, -2}});
        fits(TWO, "paid 0 5;paid 1 5;", new int[][] {{0, 1}, {1, 0}, {2, 0}, {3, 0}, {10, 0}, {11, -2}});
        fits(TWO, "", new int[][] {{0, 4}, {1, 0}, {2, NONE}, {3, NONE}, {10, 0}, {11, 1}, {12, 2}, {13, 3}, {14, -2}});
        fits(TWO, "paid 0 5;paid 0 0;", new int[][] {{0, 0}, {1, NONE}, {2, NONE}, {3, NONE}, {10, -2}});
        fits(TWO, "paid 2 0;", new int[][] {{0, 0}, {1, NONE}, {2, NONE}, {4, NONE}, {8, NONE}, {9, -2}, {10, -2}, {-1, -2}, {Integer.MAX_VALUE, -2}});
        fits("", "", new int[][] {{0, 1}, {1, NONE}, {2, NONE}, {8, NONE}, {9, -2}, {10, 0}, {11, -2}});
        fits("", "paid 0 0;", new int[][] {{0, 0}, {10, -2}});
        // The last what that is a HOUSE's is 8, of HOUSE 6; 9 is another one.
        fits("quota 7;" + "house 1 0;".repeat(7), "paid 6 0;", new int[][] {{0, 64}, {2, NONE}, {8, 1}, {9, -2}});
        fits(TWO + "tie 1 0;", "paid 1 0;", new int[][] {{0, 3}, {10, 1}, {11, 2}, {12, 3}});
    }

    private static void ask() {
        // The first has no GOODS, so its TAX is always 0 and tells nothing.
        String three = "quota 12;house 0 0;house 6 0;house 3 0;";
        fits(three, "", new int[][] {{0, 8}, {1, 1}});
        fits("quota 12;house 6 0;house 6 0;house 3 0;tie 0 2;tie 1 2;", "", new int[][] {{1, 2}});
    }

    private static void odds() {
        QuotaParish x = Checks.log(TWO, "paid 0 0;");
        C.due("odds of 0", x.odds(0, 0, 0, false), 1);
        C.due("odds of 0 under", x.odds(0, 0, 0, true), 1);
        C.due("odds of 1", x.odds(0, 0, 1, false), 1);
        C.due("odds of 1 under", x.odds(0, 0, 1, true), 2);
        C.due("no HOUSE", x.odds(0, 0, 2, true), NONE);
        C.due("HOUSE -1", x.odds(0, 0, -1, true), NONE);
        QuotaParish never = Checks.log(TWO, "paid 0 5;");
        C.due("never", never.odds(0, 0, 1, false), 0);
        C.due("never under", never.odds(0, 0, 1, true), 1);
        QuotaParish tied = Checks.log(TWO + "tie 1 0;", "paid 1 0;");
        C.due("two of three", tied.odds(0, 0, 0, false), 2);
        C.due("two of three under", tied.odds(0, 0, 0, true), 3);
        QuotaParish none = Checks.log(TWO, "paid 6 0;");
        C.due("nothing FITS", none.odds(0, 0, 0, false), NONE);
        C.due("nothing FITS under", none.odds(0, 0, 0, true), NONE);
    }

    private static void fewest(String parish, String log, int... want) {
        QuotaParish x = Checks.log(parish, log);
        for (int what = 0; what < 3; what++) {
            C.due("fewest(0, 0, " + what + ") of " + log, x.fewest(0, 0, what), want[what]);
        }
    }

    private static void fewest() {
        fewest(TWO, "paid 0 0;", 1, 2, 0);
        fewest(TWO, "", 0, 2, 0);
        fewest(TWO, "paid 6 0;", NONE, NONE, 0);
        fewest(TWO + "tie 1 0;", "", 0, 2, 1);
        // Four SETS with the first, by each of which all are EXEMPT: six couples.
        fewest("house 5 0;house 5 0;house 5 0;tie 1 0;tie 2 0;", "paid 0 0;paid 1 0;paid 2 0;", 1, 3, 6);
        fewest("", "", 0, 0, 0);
        fewest("quota 0;house 5 0;house 5 0;", "", 0, 2, 6);
    }

    private static void wrong() {
        QuotaParish x = Checks.log(TWO, "paid 0 0;");
        C.due("fits, no PARISH", x.fits(1, 0, 0), -2);
        C.due("fits, no LOG", x.fits(0, 1, 0), -2);
        C.due("fits, PARISH -1", x.fits(-1, 0, 2), -2);
        C.due("odds, no PARISH", x.odds(1, 0, 0, false), NONE);
        C.due("odds, no LOG", x.odds(0, 1, 0, false), NONE);
        C.due("fewest, no PARISH", x.fewest(1, 0, 2), -2);
        C.due("fewest, no LOG", x.fewest(0, -1, 2), -2);
        C.due("fewest, what 3", x.fewest(0, 0, 3), -2);
        C.due("fewest, what -1", x.fewest(0, 0, -1), -2);
    }
}
