/** Promises 10, 17, 28: RUSH, STRIFE, SALE. */
public final class BuyingTest {
    private static final int NONE = QuotaParish.NONE;
    private static final Checks C = new Checks("BuyingTest");

    public static void main(String[] args) {
        rush();
        rushEdges();
        sale();
        strife();
        strifeEdges();
        C.finish();
    }

    private static void rush() {
        QuotaParish x = Checks.parish("quota 12;price 4;house 4 0;house 10 0;house 10 0;");
        // TAX 2, 5, 5: 1 buys, 2 buys, and then the first one is driven, too.
        int[][] due = {{0, 7}, {1, 3}, {2, 2}, {3, NONE}, {10, 1}, {11, 2}, {12, 0}, {13, NONE}, {19, NONE},
            {20, 0}, {21, 0}, {22, 0}, {23, NONE}, {9, NONE}, {-1, NONE}, {30, NONE}};
        for (int[] d : due) {
            C.due("rush(0, 1, " + d[0] + ")", x.rush(0, 1, d[0]), d[1]);
        }
        QuotaParish poor = Checks.parish("quota 12;price 7;house 4 0;house 10 0;house 10 0;");
        C.due("nobody driven", poor.rush(0, 1, 0), 0);
        C.due("no rounds", poor.rush(0, 1, 2), 0);
        C.due("TAX stays", poor.rush(0, 1, 21), 5);
        C.due("two buy", poor.rush(0, 2, 0), 6);
        C.due("in one round", poor.rush(0, 2, 2), 1);
        C.due("the last can't", poor.rush(0, 2, 20), 12);
    }

    private static void rushEdges() {
        QuotaParish even = Checks.parish("quota 12;price 4;house 10 0;house 10 0;house 10 0;");
        C.due("as much as PRICE is not more", even.rush(0, 1, 1), 0);
        C.due("twice is", even.rush(0, 2, 1), 3);
        QuotaParish exempt = Checks.parish("quota 12;price 0;house 9 0;house 9 0;house 0 0;office 0;tie 1 0;");
        C.due("who is EXEMPT does not buy", exempt.rush(0, 9, 0), 1);
        C.due("n 0", even.rush(0, 0, 0), NONE);
        C.due("n 10", even.rush(0, 10, 0), NONE);
        C.due("no PARISH", even.rush(1, 1, 0), NONE);
        C.due("below", even.rush(-1, 1, 0), NONE);
        C.due("as told", even.parish(0, 4), 0);
    }

    private static void sale(String text, int n, int... want) {
        QuotaParish x = Checks.parish(text);
        for (int what = 0; what < 3; what++) {
            C.due("sale(0, " + n + ", " + what + ") of " + text, x.sale(0, n, what), want[what]);
        }
    }

    private static void sale() {
        sale("quota 10;house 10 0;", 1, 9, 9, 1);
        sale("quota 10;house 10 0;", 2, 10, 10, 1);
        sale("quota 10;house 50 0;", 2, 19, 19, 1);
        sale("", 1, 0, 0, 0);
        sale("quota 10;house 10 0;office 0;", 1, 0, 0, 0);
        // Without a QUOTA nobody is driven, not by a PRICE of 0 either.
        sale("quota 0;house 10 0;", 9, 0, 0, 0);
        // TAX is 5: by 4 both buy, by 5 none does.
        sale("quota 10;house 20 0;house 20 0;", 1, 4, 8, 2);
        QuotaParish x = Checks.parish("house 1 1;");
        C.due("n 0", x.sale(0, 0, 0), NONE);
        C.due("n 10", x.sale(0, 10, 0), NONE);
        C.due("what 3", x.sale(0, 1, 3), NONE);
        C.due("what -1", x.sale(0, 1, -1), NONE);
        C.due("no PARISH", x.sale(1, 1, 0), NONE);
    }

    private static void strife() {
        // None buys 0, the first alone 3, the second alone -3, both 0.
        QuotaParish x = Checks.parish("quota 10;price 2;house 5 0;house 5 0;");
        int[] much = {0, 3, 0, 0};
        int[] first = {NONE, 1, 1, 0};
        for (int n = 0; n <= 3; n++) {
            C.due("strife of " + n, x.strife(0, 0, 1, n, false), much[n]);
            C.due("first of " + n, x.strife(0, 0, 1, n, true), first[n]);
        }
        QuotaParish dear = Checks.parish("quota 10;price 6;house 5 0;house 5 0;");
        for (int n = 1; n <= 6; n++) {
            C.due("none can buy", dear.strife(0, 0, 1, n, false), 0);
            C.due("so it does not", dear.strife(0, 1, 0, n, true), 0);
        }
        QuotaParish one = Checks.parish("quota 10;price 5;house 5 9;house 4 0;");
        // If it buys it has 0 and 9 more, if not it pays all 5 and has 9 more; the second pays all.
        C.due("as good", one.strife(0, 0, 1, 1, false), 9);
        C.due("both as good: 0", one.strife(0, 0, 1, 1, true), 0);
        C.due("the other way", one.strife(0, 1, 0, 2, false), -9);
        QuotaParish held = Checks.parish("quota 10;price 0;house 5 0;house 5 0;office 0;");
        C.due("who holds one buys none", held.strife(0, 0, 1, 1, true), 0);
        C.due("the second does", held.strife(0, 0, 1, 2, false), 0);
    }

    private static void strifeEdges() {
        QuotaParish x = Checks.parish("quota 10;price 2;house 5 0;house 5 0;");
        int[][] wrong = {{1, 0, 1, 1}, {-1, 0, 1, 1}, {0, 0, 0, 1}, {0, 2, 0, 1}, {0, 0, 2, 1}, {0, -1, 0, 1},
            {0, 0, 1, 7}, {0, 0, 1, -1}};
        for (int[] w : wrong) {
            C.due("wrong", x.strife(w[0], w[1], w[2], w[3], false), -999);
            C.due("wrong, first", x.strife(w[0], w[1], w[2], w[3], true), -999);
        }
        C.due("not two, n 0", x.strife(0, 1, 1, 0, true), -999);
    }
}
