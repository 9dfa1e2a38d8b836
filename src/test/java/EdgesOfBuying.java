/** RUSH, SALE and STRIFE of the terms, and promises 10, 17 and 28, sentence by sentence. */
final class EdgesOfBuying {
    private static final int NONE = QuotaParish.NONE;
    private static final int MIN = Integer.MIN_VALUE;
    private static final int MAX = Integer.MAX_VALUE;
    private static final String SEVEN = "quota 99;price 0;" + "house 50 0;".repeat(7);

    private final Edges e;

    EdgesOfBuying(Edges e) {
        this.e = e;
    }

    void run() {
        asTold();
        rush();
        rushEdges();
        rushPromise();
        sale();
        salePromise();
        strife();
        strifeMore();
        strifePromise();
    }

    private void asTold() {
        e.says(Doc.TERMS, "(Of a PARISH as told.)");
        QuotaParish x = Checks.years("quota 12;price 4;house 10 1;house 10 0;tie 1 0;", "buy 0;cut 0;quota 3;price 2;year;");
        int years = x.drawn(0, 5, 60, 0);
        for (int turn = 0; turn < 2; turn++) {
            e.due("the DEEDS of YEARS do not count", x.state(0, 0, 5, 5), 3);
            e.due("who buys", x.rush(0, 1, 0), 1);
            e.due("the price of a SALE", x.sale(0, 1, 0), 5);
            e.due("years go by", x.behind(0, 50, 3) > 0, true);
            e.due("SEEDS", x.seeds(0, true), 1);
            e.due("RETINUE", x.retinue(0, 0), 3);
            e.due("HARM", x.harm(0, 0, 1), -6);
            e.run("the PARISH stays as told", w -> x.parish(0, w), 0, 12, 4, 2, 1, 0, 0, 0);
            e.run("its GOODS too", w -> x.parish(0, w), 10, 10, 10);
            e.due("years by a seed", x.drawn(0, 5, 60, 0), years);
        }
    }

    private void rush(String text, int n, int[][] rows) {
        QuotaParish x = Checks.parish(text);
        e.rows("rush(0, " + n + ", ..) of " + text, w -> x.rush(0, n, w), rows);
    }

    private void rush() {
        e.says(Doc.TERMS, "RUSH of n, 1 .. 9: HOUSES by numbers, again and again: one that is not EXEMPT, and n times the TAX of which is more"
            + " than PRICE, buys, if it can (as buy; TAX anew); till none does in a whole round: the HOUSES that hold OFFICES in the end"
            + " (bits); how many bought; rounds in which any did; the k-th that bought; the TAX of a HOUSE then.");
        // TAX 2, 5, 5: 1 buys, then 2, and in the next round the first one is driven, too.
        rush("quota 12;price 4;house 4 0;house 10 0;house 10 0;", 1,
            new int[][] {{0, 7}, {1, 3}, {2, 2}, {10, 1}, {11, 2}, {12, 0}, {13, NONE}, {20, 0}, {21, 0}, {22, 0}});
        // TAX 5, 9, 16, then 10, 20, then 30: one a round.
        rush("quota 30;price 12;house 12 0;house 24 0;house 40 0;", 1,
            new int[][] {{0, 7}, {1, 3}, {2, 3}, {10, 2}, {11, 1}, {12, 0}, {20, 0}});
        // As the PRICE is not more.
        rush("quota 12;price 4;house 10 0;house 10 0;house 10 0;", 1, new int[][] {{0, 0}, {1, 0}, {2, 0}, {10, NONE}, {20, 4}, {22, 4}});
        rush("quota 12;price 3;house 10 0;house 10 0;house 10 0;", 1, new int[][] {{0, 7}, {1, 3}, {2, 1}, {10, 0}, {11, 1}, {12, 2}, {20, 0}});
        // n times a TAX of 1.
        rush("quota 1;price 8;house 8 0;", 8, new int[][] {{0, 0}, {1, 0}});
        rush("quota 1;price 8;house 8 0;", 9, new int[][] {{0, 1}, {1, 1}, {2, 1}});
        rush("quota 1;price 9;house 9 0;", 9, new int[][] {{0, 0}});
        rush("quota 1;price 1;house 9 0;", 1, new int[][] {{0, 0}});
        rush("quota 1;price 0;house 9 0;", 1, new int[][] {{0, 1}});
    }

    private void rushEdges() {
        // If it can: the first owes 12 in the end, and has too little.
        rush("quota 12;price 7;house 4 0;house 10 0;house 10 0;", 2, new int[][] {{0, 6}, {1, 2}, {2, 1}, {20, 12}, {21, 0}});
        rush("quota 12;price 4;house 3 0;", 1, new int[][] {{0, 0}, {1, 0}, {20, 12}});
        rush("quota 12;price 4;house 4 0;", 1, new int[][] {{0, 1}, {1, 1}, {20, 0}});
        // Who is EXEMPT does not, by its PATRON's buying, too.
        rush("quota 12;price 0;house 9 0;house 9 0;office 0;tie 1 0;", 9, new int[][] {{0, 1}, {1, 0}, {2, 0}, {10, NONE}});
        rush("quota 20;price 3;house 10 0;house 10 0;tie 1 0;", 1, new int[][] {{0, 1}, {1, 1}, {2, 1}, {10, 0}, {11, NONE}, {20, 0}, {21, 0}});
        // In the end those that held one hold it still.
        rush("quota 12;price 4;house 10 0;house 10 0;office 1;", 1, new int[][] {{0, 3}, {1, 1}, {2, 1}, {10, 0}});
        rush(SEVEN, 1, new int[][] {{0, 127}, {1, 7}, {2, 1}, {10, 0}, {16, 6}, {17, NONE}, {20, 0}, {26, 0}});
        rush("quota 0;price 0;house 5 0;", 9, new int[][] {{0, 0}, {1, 0}, {2, 0}, {20, 0}});
        rush("", 1, new int[][] {{0, 0}, {1, 0}, {2, 0}, {10, NONE}, {20, NONE}});
    }

    private void rushPromise() {
        e.says(10, "RUSH of n, what 0: who holds OFFICES (bits), 1: how many bought, 2: rounds, 10 + k: the k-th that bought, 20 + h: TAX of a"
            + " HOUSE.");
        QuotaParish x = Checks.parish("quota 12;price 7;house 4 0;house 10 0;house 10 0;house 9 0;office 3;");
        e.run("rush", w -> x.rush(0, 2, w), 0, 14, 2, 1);
        e.run("who bought", w -> x.rush(0, 2, w), 10, 1, 2);
        e.run("TAX", w -> x.rush(0, 2, w), 20, 12, 0, 0, 0);
        e.says(10, "NONE: another n, not so many, there is none such (of any), or for another what.");
        e.each("another n", n -> x.rush(0, n, 0), NONE, 0, 10, -1, 11, MIN, MAX);
        e.due("n 1", x.rush(0, 1, 0), 8);
        e.due("n 9", x.rush(0, 9, 0), 14);
        e.each("not so many", w -> x.rush(0, 2, w), NONE, 12, 13, 16, 17, 19);
        e.each("no PARISH", p -> x.rush(p, 1, 0), NONE, Edges.NO_TEXT);
        e.each("no HOUSE", w -> x.rush(0, 2, w), NONE, 24, 26);
        e.each("another what", w -> x.rush(0, 2, w), NONE, -1, 3, 4, 9, 27, 29, 30, 40, MIN, MAX);
        QuotaParish seven = Checks.parish(SEVEN);
        e.each("behind the last", w -> seven.rush(0, 1, w), NONE, 17, 18, 19, 27, 28, 30);
    }

    private void sale(String text, int n, int... wants) {
        QuotaParish x = Checks.parish(text);
        e.run("sale(0, " + n + ", ..) of " + text, w -> x.sale(0, n, w), 0, wants);
    }

    private void sale() {
        e.says(Doc.TERMS, "SALE of n, 1 .. 9: the PRICE, 0 .. 99, all else as told, by which PRICE times how many buy in the RUSH of n is most,"
            + " of several the least; how much; how many buy.");
        sale("quota 10;house 10 0;", 1, 9, 9, 1);
        sale("quota 10;price 99;house 10 0;", 1, 9, 9, 1);
        sale("quota 10;price 0;house 10 0;", 2, 10, 10, 1);
        sale("quota 99;house 99 0;", 1, 98, 98, 1);
        sale("quota 99;house 99 0;", 2, 99, 99, 1);
        sale("quota 11;house 99 0;", 9, 98, 98, 1);
        sale("quota 12;house 99 0;", 9, 99, 99, 1);
        // By 4 both buy, by 8 the first alone.
        sale("quota 10;house 8 0;house 4 0;", 9, 4, 8, 2);
        sale("quota 10;house 9 0;house 4 0;", 9, 9, 9, 1);
        sale("quota 10;house 10 0;house 10 0;office 0;", 1, 9, 9, 1);
        // Nobody buys, or for nothing.
        sale("", 1, 0, 0, 0);
        sale("quota 0;house 10 0;", 9, 0, 0, 0);
        sale("quota 10;house 10 0;office 0;", 9, 0, 0, 0);
        sale("quota 1;house 10 0;house 10 0;", 1, 0, 0, 2);
        sale("quota 1;house 10 0;", 1, 0, 0, 1);
    }

    private void salePromise() {
        e.says(28, "SALE of n, what 0: the PRICE, 1: how much, 2: how many.");
        QuotaParish x = Checks.parish("quota 10;house 8 0;house 4 0;");
        e.run("sale", w -> x.sale(0, 9, w), 0, 4, 8, 2);
        e.says(28, "NONE: another n, there is none such, or for another what.");
        e.each("another n", n -> x.sale(0, n, 0), NONE, 0, 10, -1, 11, MIN, MAX);
        e.each("n that may be", n -> x.sale(0, n, 2) > 0 ? 1 : 0, 1, 1, 2, 8, 9);
        e.each("no PARISH", p -> x.sale(p, 1, 0), NONE, Edges.NO_TEXT);
        e.each("another what", w -> x.sale(0, 1, w), NONE, -1, 3, 10, 20, MIN, MAX);
    }

    /** By n from 0 on: how much, and (from 1 on) whether the first buys first. */
    private void strife(String text, int a, int b, int[] much, int[] first) {
        QuotaParish x = Checks.parish(text);
        for (int n = 0; n < much.length; n++) {
            e.due("strife of " + a + " and " + b + ", " + n + " in " + text, x.strife(0, a, b, n, false), much[n]);
            e.due("whether, " + n + " in " + text, x.strife(0, a, b, n, true), first[n]);
        }
    }

    private void strife() {
        e.says(Doc.TERMS, "STRIFE of two unlike HOUSES, n, 0 .. 6: by turns, the first one first, n times in all, each buys, if it can, or not;"
            + " behind all these turns one year goes by: how much more GOODS the first has than the second, if both want as much as they"
            + " can; whether the first buys first (1, 0; 0, if both are as good).");
        // None buys: 0; the first alone: 3; the second alone: -3; both: 0.
        strife("quota 10;price 2;house 5 0;house 5 0;", 0, 1, new int[] {0, 3, 0, 0, 0, 0, 0}, new int[] {NONE, 1, 1, 0, 0, 0, 0});
        strife("quota 10;price 2;house 5 0;house 5 0;", 1, 0, new int[] {0, 3, 0, 0, 0, 0, 0}, new int[] {NONE, 1, 1, 0, 0, 0, 0});
        // If it can: with as much as the PRICE, not with less.
        strife("quota 10;price 6;house 5 0;house 5 0;", 0, 1, new int[] {0, 0, 0, 0, 0, 0, 0}, new int[] {NONE, 0, 0, 0, 0, 0, 0});
        // It buys: 0 and 3 more; the second pays all.
        strife("quota 10;price 5;house 5 3;house 4 0;", 0, 1, new int[] {3, 3, 3}, new int[] {NONE, 0, 0});
        strife("quota 4;price 5;house 5 3;house 4 3;", 0, 1, new int[] {1, 1, 1}, new int[] {NONE, 0, 0});
        // Who loses by it does not: none 0, the first alone -3, the second alone 3.
        strife("quota 2;price 5;house 9 0;house 9 0;", 0, 1, new int[] {0, 0, 0, 0, 0, 0, 0}, new int[] {NONE, 0, 0, 0, 0, 0, 0});
        // Who holds one buys none; the second one does, and then both have 5.
        strife("quota 10;price 0;house 5 0;house 5 0;office 0;", 0, 1, new int[] {5, 5, 0, 0}, new int[] {NONE, 0, 0, 0});
        // As the second it can do nothing against the other's buying.
        strife("quota 10;price 0;house 5 0;house 5 0;office 0;", 1, 0, new int[] {-5, 0, 0, 0}, new int[] {NONE, 1, 1, 0});
    }

    private void strifeMore() {
        // The first one's buying spares the second: 3 to 5; the other way round 3 to 0.
        strife("quota 10;price 2;house 5 0;house 5 0;tie 1 0;", 0, 1, new int[] {0, 0}, new int[] {NONE, 0});
        strife("quota 10;price 2;house 5 0;house 5 0;tie 1 0;", 1, 0, new int[] {0, 3}, new int[] {NONE, 1});
        // None: 0, the first alone 8, the second alone 2, for it spares the first, too, both 0: so the other's turns tell.
        strife("quota 10;price 2;house 10 0;house 10 0;tie 0 1;", 0, 1, new int[] {0, 8, 0, 2}, new int[] {NONE, 1, 0, 0});
        // None 1, the first alone 4, the second alone -3, both 1.
        strife("quota 10;price 2;house 6 0;house 5 0;", 0, 1, new int[] {1, 4, 1, 1}, new int[] {NONE, 1, 1, 0});
        // A third one pays its part and buys nothing.
        strife("quota 9;price 2;house 5 0;house 5 0;house 5 0;", 0, 1, new int[] {0, 3, 0}, new int[] {NONE, 1, 1});
        // One year goes by, with YIELD, and 99 at most.
        strife("quota 0;price 9;house 5 3;house 5 1;", 0, 1, new int[] {2, 2}, new int[] {NONE, 0});
        strife("quota 0;price 9;house 5 3;house 5 1;", 1, 0, new int[] {-2, -2}, new int[] {NONE, 0});
        strife("quota 0;price 99;house 95 9;house 0 9;", 0, 1, new int[] {90, 90}, new int[] {NONE, 0});
    }

    private void strifePromise() {
        QuotaParish x = Checks.parish("quota 10;price 2;house 5 0;house 5 0;");
        e.says(17, "STRIFE of two, n: how much, or (first) whether.");
        e.due("how much", x.strife(0, 0, 1, 1, false), 3);
        e.due("whether", x.strife(0, 0, 1, 1, true), 1);
        e.says(17, "-999: another n, they are not two, or there is none such (of any).");
        for (boolean first : new boolean[] {false, true}) {
            e.each("another n", n -> x.strife(0, 0, 1, n, first), -999, -1, 7, 8, MIN, MAX);
            e.each("not two", h -> x.strife(0, h, h, 1, first), -999, 0, 1, 2, -1, MIN, MAX);
            e.each("not two, n 0", h -> x.strife(0, h, h, 0, first), -999, 0, 1);
            e.each("no PARISH", p -> x.strife(p, 0, 1, 1, first), -999, Edges.NO_TEXT);
            e.each("no first HOUSE", h -> x.strife(0, h, 1, 1, first), -999, -1, 2, 6, 7, MIN, MAX);
            e.each("no second HOUSE", h -> x.strife(0, 0, h, 1, first), -999, -1, 2, 6, 7, MIN, MAX);
        }
        e.says(17, "NONE (first): n is 0.");
        e.due("whether, n 0", x.strife(0, 0, 1, 0, true), NONE);
        e.due("how much, n 0", x.strife(0, 0, 1, 0, false), 0);
        e.due("whether, n 6", x.strife(0, 0, 1, 6, true), 0);
    }
}
