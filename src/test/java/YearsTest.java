/** Promises 7 to 9, 22, 32: YEARS told, their DEEDS in a PARISH, and years by a seed. */
public final class YearsTest {
    private static final int NONE = QuotaParish.NONE;
    private static final Checks C = new Checks("YearsTest");
    private static final String PARISH =
        "quota 10;price 3;house 7 1;house 7 0;house 6 2;tie 2 0;";

    public static void main(String[] args) {
        deeds();
        stops();
        states();
        goodsAtMost();
        after();
        drawn();
        C.finish();
    }

    private static void deeds() {
        QuotaParish x = new QuotaParish();
        Checks.tell(x, 1, NONE, "year;buy 6;lose 5;quota 99;price 0;cut 9;");
        C.due("how many", x.deed(0, NONE, 0), 6);
        int[] numbers = {NONE, 6, 5, 99, 0, 9};
        for (int k = 0; k < 6; k++) {
            C.due("kind " + k, x.deed(0, k, 0), k);
            C.due("number " + k, x.deed(0, k, 1), numbers[k]);
            C.due("another what", x.deed(0, k, 2), -2);
            C.due("below", x.deed(0, k, -1), -2);
        }
        C.due("no more", x.deed(0, 6, 0), -2);
        C.due("none, what 1", x.deed(0, NONE, 1), -2);
        C.due("k -2", x.deed(0, -2, 0), -2);
        C.due("no years", x.deed(1, NONE, 0), -2);
        C.due("years -1", x.deed(-1, 0, 0), -2);
    }

    private static void stop(String years, int want) {
        C.due("stop of " + years, Checks.years(PARISH, years).stop(0, 0), want);
    }

    private static void stops() {
        stop("", 0);
        stop("year;year;", 2);
        stop("buy 0;buy 0;", 1);
        stop("buy 3;", 0);
        stop("lose 0;", 0);
        stop("lose 6;", 0);
        stop("buy 2;lose 2;lose 2;", 2);
        // One that is EXEMPT by its PATRON may buy all the same.
        stop("buy 0;buy 2;", 2);
        stop("price 7;buy 0;buy 1;buy 2;", 3);
        stop("price 0;buy 0;lose 0;buy 0;", 4);
        stop("cut 0;cut 0;", 1);
        stop("cut 1;", 0);
        // It is another than it was.
        stop("quota 10;", 0);
        stop("quota 11;quota 11;", 1);
        stop("quota 11;quota 10;", 2);
        stop("price 3;", 0);
        stop("price 4;price 3;price 3;", 2);
        QuotaParish x = Checks.years(PARISH, "year;");
        C.due("no PARISH", x.stop(1, 0), NONE);
        C.due("no YEARS", x.stop(0, 1), NONE);
        C.due("below", x.stop(-1, -1), NONE);
    }

    private static void states() {
        QuotaParish x = Checks.years(PARISH, "buy 0;year;cut 0;price 0;lose 0;quota 8;year;quota 8;year;");
        C.due("stop", x.stop(0, 0), 7);
        // Of each STATE: year, PAID, LOST, OFFICES, EXEMPT, QUOTA, PRICE, RULES that are cut, GOODS, TAX.
        int[][] due = {
            {0, 0, 0, 0, 0, 10, 3, 0, 7, 7, 6, 4, 3, 3},
            {0, 0, 0, 1, 5, 10, 3, 0, 4, 7, 6, 0, 10, 0},
            {1, 7, 3, 1, 5, 10, 3, 0, 5, 0, 8, 0, 0, 0},
            {1, 7, 3, 1, 1, 10, 3, 1, 5, 0, 8, 0, 0, 10},
            {1, 7, 3, 1, 1, 10, 0, 1, 5, 0, 8, 0, 0, 10},
            {1, 7, 3, 0, 0, 10, 0, 1, 5, 0, 8, 4, 0, 6},
            {1, 7, 3, 0, 0, 8, 0, 1, 5, 0, 8, 3, 0, 5},
            {2, 15, 3, 0, 0, 8, 0, 1, 3, 0, 5, 3, 0, 5},
        };
        for (int n = 0; n < due.length; n++) {
            for (int i = 0; i < 14; i++) {
                int what = i < 8 ? i : i < 11 ? i + 2 : i + 9;
                C.due("state(0, 0, " + n + ", " + what + ")", x.state(0, 0, n, what), due[n][i]);
            }
        }
        C.due("behind STOP", x.state(0, 0, 8, 0), -2);
        C.due("below", x.state(0, 0, -1, 0), -2);
        C.due("what 8", x.state(0, 0, 0, 8), -2);
        C.due("what -1", x.state(0, 0, 0, -1), -2);
        C.due("no HOUSE", x.state(0, 0, 0, 13), -2);
        C.due("no HOUSE's TAX", x.state(0, 0, 0, 23), -2);
        C.due("what 30", x.state(0, 0, 0, 30), -2);
        C.due("no PARISH", x.state(1, 0, 0, 0), -2);
        C.due("no YEARS", x.state(0, 1, 0, 0), -2);
        C.due("the PARISH stays as told", x.parish(0, 10), 7);
    }

    private static void goodsAtMost() {
        QuotaParish x = Checks.years("quota 1;house 95 9;house 98 0;", "year;");
        C.due("99 at most", x.state(0, 0, 1, 10), 99);
        C.due("paid first", x.state(0, 0, 1, 11), 97);
        QuotaParish none = Checks.years("quota 7;", "year;year;");
        C.due("no HOUSES: all is LOST", none.state(0, 0, 2, 2), 14);
        C.due("no HOUSES: nothing PAID", none.state(0, 0, 2, 1), 0);
    }

    private static void after(String years, int... want) {
        QuotaParish x = Checks.years(PARISH, years);
        for (int what = 0; what < 5; what++) {
            C.due("after(0, 0, " + what + ") of " + years, x.after(0, 0, what), want[what]);
        }
    }

    private static void after() {
        after("", 0, NONE, 0, NONE, NONE);
        after("buy 1;lose 1;price 1;buy 1;buy 0;year;", 5, 5, 3, 1, 1);
        after("buy 1;buy 0;lose 0;lose 1;", 6, NONE, 3, NONE, 0);
        after("year;quota 5;year;year;", 0, NONE, 0, 2, NONE);
        after("quota 3;year;quota 2;year;quota 1;year;year;lose 0;year;", 0, NONE, 0, 3, NONE);
        QuotaParish x = Checks.years(PARISH, "year;");
        C.due("what 5", x.after(0, 0, 5), -2);
        C.due("what -1", x.after(0, 0, -1), -2);
        C.due("no PARISH", x.after(1, 0, 0), -2);
        C.due("no YEARS", x.after(0, 1, 0), -2);
        QuotaParish held = Checks.years("house 5 0;house 5 0;office 0;tie 1 0;", "cut 0;year;");
        C.due("PEAK at first", held.after(0, 0, 2), 2);
    }

    private static void drawn() {
        QuotaParish x = Checks.parish(PARISH);
        C.due("none drawn", x.drawn(0, 5, 0, 0), 0);
        C.due("none drawn, GOODS", x.drawn(0, 5, 0, 10), 7);
        // From 0 the first number is 0, and year 1 is over.
        C.due("one drawn", x.drawn(0, 0, 1, 0), 1);
        C.due("one drawn, PAID", x.drawn(0, 0, 1, 1), 10);
        C.due("another n", x.drawn(0, 0, 61, 0), -2);
        C.due("below", x.drawn(0, 0, -1, 0), -2);
        C.due("what 8", x.drawn(0, 0, 1, 8), -2);
        C.due("no HOUSE", x.drawn(0, 0, 1, 13), -2);
        C.due("no PARISH", x.drawn(1, 0, 1, 0), -2);
        QuotaParish none = Checks.parish("");
        for (int seed = -300; seed < 300; seed++) {
            int[] due = byHand(seed * 7654321, 60);
            for (int what = 0; what < due.length; what++) {
                C.due("drawn without HOUSES by " + seed, none.drawn(0, seed * 7654321, 60, what), due[what]);
            }
        }
    }

    /** Without HOUSES: the year, PAID, LOST, OFFICES, EXEMPT, QUOTA, PRICE, RULES that are cut. */
    private static int[] byHand(int seed, int n) {
        int x = seed;
        int year = 0;
        int lost = 0;
        int quota = 10;
        int price = 10;
        for (int i = 0; i < n; i++) {
            x = x * 1103515245 + 12345;
            int kind = (x >>> 16) % 10;
            if (kind <= 3 && year < 50) {
                year++;
                lost += quota;
            }
            if (kind >= 7) {
                x = x * 1103515245 + 12345;
                int number = (x >>> 16) % 100;
                quota = kind == 7 ? number : quota;
                price = kind == 8 ? number : price;
            }
        }
        return new int[] {year, 0, lost, 0, 0, quota, price, 0};
    }
}
