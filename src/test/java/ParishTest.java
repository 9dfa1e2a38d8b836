/** Promises 6, 15, 16, 26, 27: a PARISH as told, its TAX, who bears it and by whom. */
public final class ParishTest {
    private static final int NONE = QuotaParish.NONE;
    private static final Checks C = new Checks("ParishTest");

    public static void main(String[] args) {
        asTold();
        tax();
        exempt();
        burden();
        falls();
        harm();
        foe();
        C.finish();
    }

    private static void taxes(String text, int... want) {
        QuotaParish x = Checks.parish(text);
        for (int h = 0; h < want.length; h++) {
            C.due("TAX " + h + " of " + text, x.parish(0, 30 + h), want[h]);
        }
        C.due("no more in " + text, x.parish(0, 30 + want.length), NONE);
    }

    private static void asTold() {
        QuotaParish x = Checks.parish("quota 20;price 30;quota 0;house 12 3;house 0 9;house 99 0;"
            + "tie 1 0;pact 2 1 0;office 1;office 1;price 7;office 0;");
        int[][] due = {{0, 0}, {1, 7}, {2, 3}, {3, 2}, {4, 3}, {5, 7}, {6, 0}, {7, NONE}, {9, NONE}, {-1, NONE},
            {10, 12}, {11, 0}, {12, 99}, {13, NONE}, {17, NONE}, {20, 3}, {21, 9}, {22, 0}, {23, NONE}, {30, 0},
            {33, NONE}, {40, 1}, {50, 0}, {60, NONE}, {41, 2}, {51, 1}, {61, 0}, {42, NONE}, {52, NONE}, {62, NONE},
            {70, NONE}, {80, NONE}, {Integer.MAX_VALUE, NONE}, {Integer.MIN_VALUE, NONE}};
        for (int[] d : due) {
            C.due("parish(0, " + d[0] + ")", x.parish(0, d[0]), d[1]);
        }
        C.due("parish(1, 0)", x.parish(1, 0), NONE);
        C.due("parish(-1, 0)", x.parish(-1, 0), NONE);
        QuotaParish none = Checks.parish("");
        int[] atFirst = {10, 10, 0, 0, 0, 0, 10};
        for (int what = 0; what < atFirst.length; what++) {
            C.due("empty parish " + what, none.parish(0, what), atFirst[what]);
        }
    }

    private static void tax() {
        taxes("quota 7;house 3 0;house 3 0;house 3 0;", 3, 2, 2);
        taxes("quota 8;house 3 0;house 3 0;house 3 0;", 3, 3, 2);
        taxes("quota 10;house 6 0;house 6 0;house 2 0;", 4, 4, 2);
        taxes("quota 11;house 6 0;house 6 0;house 2 0;", 5, 5, 1);
        taxes("quota 99;house 0 9;house 1 9;", 0, 99);
        taxes("quota 50;house 0 9;house 0 9;", 0, 0);
        taxes("quota 0;house 5 0;", 0);
        taxes("quota 10;house 5 0;house 5 0;house 5 0;office 0;", 0, 5, 5);
        C.due("LOST, no GOODS", Checks.parish("quota 50;house 0 9;").parish(0, 6), 50);
        C.due("LOST, all EXEMPT", Checks.parish("quota 50;house 9 9;office 0;").parish(0, 6), 50);
        C.due("LOST, some TAX", Checks.parish("quota 50;house 1 0;").parish(0, 6), 0);
    }

    private static void exempt() {
        String houses = "house 5 0;house 5 0;house 5 0;house 5 0;house 5 0;";
        C.due("chain backward", Checks.parish(houses + "tie 4 3;tie 3 2;tie 2 1;tie 1 0;office 0;").parish(0, 5), 31);
        C.due("a ring alone", Checks.parish(houses + "tie 4 3;tie 3 4;").parish(0, 5), 0);
        C.due("half a pact", Checks.parish(houses + "pact 2 0 1;office 0;").parish(0, 5), 1);
        C.due("a pact", Checks.parish(houses + "pact 2 0 1;tie 1 0;office 0;").parish(0, 5), 7);
    }

    private static void burden() {
        QuotaParish x = Checks.parish("quota 10;house 6 0;house 6 0;house 2 0;");
        C.due("burden 0", x.burden(0, 0), 2);
        C.due("burden 1", x.burden(0, 1), 1);
        C.due("burden 2", x.burden(0, 2), 1);
        C.due("burden 3", x.burden(0, 3), NONE);
        C.due("burden -1", x.burden(0, -1), NONE);
        C.due("burden of none such", x.burden(1, 0), NONE);
        QuotaParish over = Checks.parish("quota 20;house 4 0;house 4 0;house 0 0;");
        C.due("several", over.burden(0, 0), 0);
        C.due("more than GOODS", over.burden(0, 1), 5);
        C.due("of GOODS", over.burden(0, 2), 2);
        for (int what = 0; what < 3; what++) {
            C.due("no TAX", Checks.parish("quota 0;house 4 0;").burden(0, what), NONE);
            C.due("no HOUSES", Checks.parish("").burden(0, what), NONE);
        }
    }

    private static void falls() {
        QuotaParish x = Checks.parish("quota 10;house 6 0;house 6 0;house 2 0;");
        C.due("how many", x.falls(0, 2, NONE), 14);
        for (int k = 0; k < 14; k++) {
            C.due("fall " + k, x.falls(0, 2, k), 4 + 7 * k);
        }
        C.due("not so many", x.falls(0, 2, 14), NONE);
        C.due("below", x.falls(0, 2, -2), NONE);
        C.due("never", x.falls(0, 0, NONE), 0);
        C.due("none of these", x.falls(0, 0, 0), NONE);
        C.due("no HOUSE", x.falls(0, 3, NONE), NONE);
        C.due("no PARISH", x.falls(1, 0, NONE), NONE);
        C.due("EXEMPT", Checks.parish("house 6 0;house 6 0;house 2 0;office 2;").falls(0, 2, NONE), 0);
    }

    private static void harm() {
        QuotaParish x = Checks.parish("quota 12;house 4 0;house 4 0;house 4 0;house 9 0;tie 2 1;office 3;");
        C.due("harm", x.harm(0, 0, 1), 2);
        C.due("harm by a patron", x.harm(0, 1, 0), 8);
        C.due("help", x.harm(0, 1, 2), -4);
        C.due("it holds one", x.harm(0, 3, 0), 0);
        C.due("to one EXEMPT", x.harm(0, 0, 3), 0);
        C.due("not two", x.harm(0, 1, 1), -999);
        C.due("no HOUSE", x.harm(0, 4, 1), -999);
        C.due("no other", x.harm(0, 1, 4), -999);
        C.due("below", x.harm(0, -1, 1), -999);
        C.due("no PARISH", x.harm(1, 0, 1), -999);
    }

    private static void foe() {
        QuotaParish x = Checks.parish("quota 12;house 4 0;house 4 0;house 4 0;house 9 0;tie 2 1;office 3;");
        int[][] due = {{0, 1, 8, NONE, 0}, {1, 0, 2, NONE, 0}, {2, 0, 2, 1, 4}, {3, NONE, 0, NONE, 0}};
        for (int[] d : due) {
            for (int what = 0; what < 4; what++) {
                C.due("foe(0, " + d[0] + ", " + what + ")", x.foe(0, d[0], what), d[what + 1]);
            }
        }
        C.due("another what", x.foe(0, 0, 4), -2);
        C.due("below", x.foe(0, 0, -1), -2);
        C.due("no HOUSE", x.foe(0, 4, 0), -2);
        C.due("no PARISH", x.foe(-1, 0, 0), -2);
        QuotaParish friends = Checks.parish("quota 9;house 3 0;house 3 0;house 3 0;tie 0 2;tie 0 1;");
        C.due("the least friend of several", friends.foe(0, 0, 2), 1);
        C.due("how much less", friends.foe(0, 0, 3), 3);
    }
}
