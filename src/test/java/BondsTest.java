/** Promises 11, 12, 18, 19, 23, 24, 25: who is EXEMPT by whom. */
public final class BondsTest {
    private static final int NONE = QuotaParish.NONE;
    private static final Checks C = new Checks("BondsTest");
    private static final String FIVE = "house 5 0;house 5 0;house 5 0;house 5 0;house 5 0;";
    private static final String WEB = FIVE + "office 0;tie 1 0;pact 2 0 1;tie 3 4;tie 4 3;";

    public static void main(String[] args) {
        seeds();
        cuts();
        lot();
        spared();
        retinue();
        chief();
        idle();
        ringed();
        rank();
        C.finish();
    }

    private static void seeds(String text, int many, int which) {
        QuotaParish x = Checks.parish(text);
        C.due("seeds of " + text, x.seeds(0, false), many);
        C.due("which seeds of " + text, x.seeds(0, true), which);
    }

    private static void seeds() {
        seeds(WEB, 1, 8);
        seeds("", 0, 0);
        seeds(FIVE, 5, 31);
        seeds(FIVE + "office 0;tie 1 0;tie 2 1;tie 3 2;tie 4 3;", 0, 0);
        seeds(FIVE + "tie 0 4;tie 1 4;tie 2 4;tie 3 4;", 1, 16);
        seeds(FIVE + "tie 0 1;tie 1 0;tie 2 3;tie 3 2;pact 4 0 2;", 2, 5);
        QuotaParish x = Checks.parish(WEB);
        C.due("no PARISH", x.seeds(1, false), NONE);
        C.due("which of none", x.seeds(-1, true), NONE);
    }

    private static void cuts() {
        QuotaParish x = Checks.parish(WEB);
        C.due("cuts of 2", x.cuts(0, 2, false), 1);
        C.due("which of 2", x.cuts(0, 2, true), 1);
        C.due("which of 1", x.cuts(0, 1, true), 1);
        C.due("it holds an OFFICE", x.cuts(0, 0, false), NONE);
        C.due("it is not EXEMPT", x.cuts(0, 3, false), NONE);
        C.due("no HOUSE", x.cuts(0, 5, false), NONE);
        C.due("HOUSE -1", x.cuts(0, -1, true), NONE);
        C.due("no PARISH", x.cuts(1, 1, true), NONE);
        QuotaParish both = Checks.parish(FIVE + "office 0;office 2;tie 3 4;tie 1 0;tie 1 2;");
        C.due("both", both.cuts(0, 1, false), 2);
        C.due("which both", both.cuts(0, 1, true), 6);
        QuotaParish ways = Checks.parish(FIVE + "office 0;tie 4 2;tie 4 3;tie 2 1;tie 3 1;tie 1 0;");
        C.due("the one behind all ways", ways.cuts(0, 4, true), 16);
    }

    private static void share(QuotaParish x, int k, int house, int over, int under) {
        C.due("lot(0, " + k + ", " + house + ")", x.lot(0, k, house, false), over);
        C.due("lot(0, " + k + ", " + house + ") under", x.lot(0, k, house, true), under);
    }

    private static void lot() {
        QuotaParish x = Checks.parish("house 1 1;house 1 1;house 1 1;pact 2 0 1;");
        share(x, 0, 2, 0, 1);
        share(x, 1, 2, 1, 3);
        share(x, 2, 2, 1, 1);
        share(x, 2, 0, 2, 3);
        share(x, 3, 0, 1, 1);
        share(x, 4, 0, NONE, NONE);
        share(x, -1, 0, NONE, NONE);
        share(x, 7, 0, NONE, NONE);
        share(x, 8, 0, NONE, NONE);
        share(x, 1, 3, NONE, NONE);
        share(x, 1, -1, NONE, NONE);
        C.due("no PARISH", x.lot(1, 0, 0, true), NONE);
        // OFFICES may go to those that hold one, too.
        QuotaParish held = Checks.parish("house 1 1;house 1 1;house 1 1;office 0;");
        share(held, 1, 0, 1, 1);
        share(held, 1, 1, 1, 3);
    }

    private static void mean(QuotaParish x, int k, int over, int under) {
        C.due("spared(0, " + k + ")", x.spared(0, k, false), over);
        C.due("spared(0, " + k + ") under", x.spared(0, k, true), under);
    }

    private static void spared() {
        QuotaParish x = Checks.parish("house 1 1;house 1 1;house 1 1;pact 2 0 1;");
        mean(x, 0, 0, 1);
        mean(x, 1, 1, 1);
        mean(x, 2, 7, 3);
        mean(x, 3, 3, 1);
        mean(x, 4, NONE, NONE);
        mean(x, -1, NONE, NONE);
        mean(Checks.parish(""), 0, 0, 1);
        mean(Checks.parish(""), 1, NONE, NONE);
        mean(Checks.parish("house 1 1;house 1 1;house 1 1;office 0;"), 1, 5, 3);
        C.due("no PARISH", x.spared(1, 0, false), NONE);
    }

    private static void retinue() {
        QuotaParish x = Checks.parish(WEB);
        int[] due = {7, 2, 4, 24, 24};
        for (int h = 0; h < due.length; h++) {
            C.due("retinue of " + h, x.retinue(0, h), due[h]);
        }
        C.due("no HOUSE", x.retinue(0, 5), NONE);
        C.due("HOUSE -1", x.retinue(0, -1), NONE);
        C.due("no PARISH", x.retinue(1, 0), NONE);
    }

    private static void chiefs(String text, int... want) {
        QuotaParish x = Checks.parish(text);
        for (int what = 0; what < want.length; what++) {
            C.due("chief(0, " + what + ") of " + text, x.chief(0, what), want[what]);
        }
    }

    private static void chief() {
        chiefs(WEB, 0, 3, 3, 0, 24, 1, 2);
        chiefs("", NONE, 0, 0, 0, 0, 0, NONE);
        chiefs(FIVE, 0, 1, 0, 0, 0, 31, NONE);
        chiefs(FIVE + "tie 0 3;tie 1 4;", 3, 2, 0, 0, 0, 28, NONE);
        chiefs(FIVE + "office 4;", 0, 1, 0, 0, 0, 31, 0);
        // Two ways: neither alone is a key.
        chiefs(FIVE + "office 0;office 1;tie 2 0;tie 2 1;", 0, 2, 0, 0, 0, 27, 1);
        QuotaParish x = Checks.parish(WEB);
        C.due("what 7", x.chief(0, 7), -2);
        C.due("what -1", x.chief(0, -1), -2);
        C.due("no PARISH", x.chief(1, 0), -2);
    }

    private static void idle() {
        C.due("one that others do", Checks.parish(FIVE + "tie 1 0;tie 2 1;tie 2 0;").chief(0, 3), 4);
        C.due("twins", Checks.parish(FIVE + "tie 1 0;tie 1 0;").chief(0, 3), 3);
        C.due("a pact beside a tie", Checks.parish(FIVE + "pact 2 0 1;tie 2 1;").chief(0, 3), 1);
        // As told nothing changes by it, but by other OFFICES.
        C.due("by other OFFICES", Checks.parish(FIVE + "office 2;tie 2 1;").chief(0, 3), 0);
    }

    private static void ringed() {
        C.due("a ring of three and one above", Checks.parish(FIVE + "tie 0 1;tie 1 2;tie 2 0;tie 3 0;").chief(0, 4), 7);
        C.due("pacts make none", Checks.parish(FIVE + "tie 0 1;pact 1 0 2;").chief(0, 4), 0);
        C.due("two rings", Checks.parish(FIVE + "tie 0 1;tie 1 0;tie 1 2;tie 2 3;tie 3 4;tie 4 3;").chief(0, 4), 27);
    }

    private static void rank() {
        QuotaParish x = Checks.parish(WEB);
        int[] due = {0, 1, 2, NONE, NONE, NONE};
        for (int h = 0; h < due.length; h++) {
            C.due("rank of " + h, x.rank(0, h), due[h]);
        }
        C.due("HOUSE -1", x.rank(0, -1), NONE);
        C.due("no PARISH", x.rank(1, 0), NONE);
        QuotaParish ways = Checks.parish(FIVE + "office 0;tie 4 3;tie 3 2;tie 2 1;tie 1 0;pact 4 1 2;");
        C.due("the least way", ways.rank(0, 4), 3);
        C.due("deepest", ways.chief(0, 6), 3);
        QuotaParish chain = Checks.parish(FIVE + "house 5 0;house 5 0;office 6;tie 0 1;tie 1 2;tie 2 3;tie 3 4;tie 4 5;tie 5 6;");
        C.due("the deepest there can be", chain.rank(0, 0), 6);
    }
}
