/** SEEDS, CUTS, LOT, SPARED, RETINUE to RANK of the terms, and promises 11, 12, 18, 19, 23 to 25, sentence by sentence. */
final class EdgesOfBonds {
    private static final int NONE = QuotaParish.NONE;
    private static final int MIN = Integer.MIN_VALUE;
    private static final int MAX = Integer.MAX_VALUE;
    private static final String TWO = "house 5 0;house 5 0;";
    private static final String FIVE = "house 5 0;".repeat(5);
    private static final String SEVEN = "house 5 0;".repeat(7);
    private static final String CHAIN = SEVEN + "office 6;tie 0 1;tie 1 2;tie 2 3;tie 3 4;tie 4 5;tie 5 6;";
    private static final String WEB = FIVE + "office 0;tie 1 0;pact 2 0 1;tie 3 4;tie 4 3;";
    /** Of five HOUSES those that are not there. */
    private static final int[] NO_HOUSE = {-1, 5, 6, 7, -2, MIN, MAX};

    private final Edges e;

    EdgesOfBonds(Edges e) {
        this.e = e;
    }

    void run() {
        seeds();
        cuts();
        cutsPromise();
        lot();
        lotPromise();
        spared();
        retinue();
        chief();
        keys();
        idle();
        ringed();
        lone();
        rank();
        deepest();
        chiefPromise();
        rankPromise();
    }

    private void seeds(String text, int many, int which) {
        QuotaParish x = Checks.parish(text);
        e.due("SEEDS of " + text, x.seeds(0, false), many);
        e.due("which SEEDS of " + text, x.seeds(0, true), which);
    }

    private void seeds() {
        e.says(Doc.TERMS, "SEEDS: the fewest HOUSES that, if they held OFFICES, too, would make all EXEMPT: how many; which (bits), of several"
            + " the least.");
        seeds("", 0, 0);
        seeds("house 5 0;", 1, 1);
        seeds("house 5 0;office 0;", 0, 0);
        seeds(SEVEN, 7, 127);
        seeds(CHAIN, 0, 0);
        seeds(FIVE + "office 0;tie 1 0;", 3, 28);
        seeds(FIVE + "tie 0 4;tie 1 4;tie 2 4;tie 3 4;", 1, 16);
        // Of several the least: 1, not 2; 5, not 6, 9 or 10.
        seeds(TWO + "tie 0 1;tie 1 0;", 1, 1);
        seeds(FIVE + "tie 0 1;tie 1 0;tie 2 3;tie 3 2;pact 4 0 2;", 2, 5);
        // The fewest, though 3 is less than 4.
        seeds("house 5 0;house 5 0;house 5 0;tie 0 2;tie 1 2;pact 2 0 1;", 1, 4);
        seeds(WEB, 1, 8);

        e.says(11, "SEEDS, or (which) which (bits).");
        seeds(FIVE + "office 0;tie 1 0;tie 3 4;", 2, 20);
        QuotaParish x = Checks.parish(FIVE);
        e.says(11, "NONE: there is none such.");
        e.each("no PARISH", p -> x.seeds(p, false), NONE, Edges.NO_TEXT);
        e.each("no PARISH, which", p -> x.seeds(p, true), NONE, Edges.NO_TEXT);
    }

    private void cuts(String text, int house, int many, int which) {
        QuotaParish x = Checks.parish(text);
        e.due("CUTS of " + house + " in " + text, x.cuts(0, house, false), many);
        e.due("which CUTS of " + house + " in " + text, x.cuts(0, house, true), which);
    }

    private void cuts() {
        e.says(Doc.TERMS, "CUTS of a HOUSE that is EXEMPT and holds no OFFICE: the fewest RULES that are to be cut so that it is not: how many;"
            + " which (bits), of several the least.");
        cuts(FIVE + "office 0;tie 1 0;", 1, 1, 1);
        cuts(FIVE + "tie 3 4;office 0;tie 1 0;", 1, 1, 2);
        // Of several the least: either RULE of a chain would do, and either way of a pact.
        cuts(FIVE + "office 0;tie 2 1;tie 1 0;", 2, 1, 1);
        cuts(FIVE + "office 0;tie 1 0;tie 2 1;", 2, 1, 1);
        cuts(FIVE + "office 0;tie 1 0;tie 2 0;pact 3 1 2;", 3, 1, 1);
        cuts(FIVE + "office 0;office 2;tie 3 4;tie 1 0;tie 1 2;", 1, 2, 6);
        // The one behind all ways; it is the fewest, though 3 would be less.
        cuts(FIVE + "office 0;tie 4 2;tie 4 3;tie 2 1;tie 3 1;tie 1 0;", 4, 1, 16);
        cuts(SEVEN + "tie 0 1;".repeat(10) + "office 1;", 0, 10, 1023);
        cuts(SEVEN + "tie 0 2;".repeat(9) + "tie 0 1;office 1;", 0, 1, 512);
        cuts(CHAIN, 0, 1, 1);
        cuts(CHAIN, 5, 1, 32);
    }

    private void cutsPromise() {
        e.says(12, "CUTS of a HOUSE, or (which) which (bits).");
        cuts(WEB, 2, 1, 1);
        cuts(WEB, 1, 1, 1);
        e.says(12, "NONE: it holds an OFFICE, is not EXEMPT, or there is none such (of either).");
        cuts(WEB, 0, NONE, NONE);
        cuts(FIVE + "office 0;office 1;tie 1 0;", 1, NONE, NONE);
        cuts(WEB, 3, NONE, NONE);
        cuts(FIVE, 0, NONE, NONE);
        QuotaParish x = Checks.parish(WEB);
        for (boolean which : new boolean[] {false, true}) {
            e.each("no HOUSE", h -> x.cuts(0, h, which), NONE, NO_HOUSE);
            e.each("no PARISH", p -> x.cuts(p, 1, which), NONE, Edges.NO_TEXT);
        }
        e.due("of nothing", Checks.parish("").cuts(0, 0, false), NONE);
    }

    private void lot(QuotaParish x, int k, int house, int over, int under) {
        e.due("lot(0, " + k + ", " + house + ", false)", x.lot(0, k, house, false), over);
        e.due("lot(0, " + k + ", " + house + ", true)", x.lot(0, k, house, true), under);
    }

    private void lot() {
        e.says(Doc.TERMS, "LOT of k, 0 .. 7, a HOUSE: OFFICES (besides those that are held) are given to k of all HOUSES by lot, all sets alike:"
            + " how likely it is EXEMPT, a fraction in least terms;");
        QuotaParish pact = Checks.parish("house 1 1;house 1 1;house 1 1;pact 2 0 1;");
        lot(pact, 0, 2, 0, 1);
        lot(pact, 1, 2, 1, 3);
        lot(pact, 2, 2, 1, 1);
        lot(pact, 2, 0, 2, 3);
        lot(pact, 3, 0, 1, 1);
        // To those that hold one, too.
        QuotaParish held = Checks.parish("house 1 1;house 1 1;house 1 1;office 0;");
        lot(held, 0, 0, 1, 1);
        lot(held, 0, 1, 0, 1);
        lot(held, 1, 0, 1, 1);
        lot(held, 1, 1, 1, 3);
        // Three of six.
        lot(Checks.parish("house 1 1;".repeat(4)), 2, 0, 1, 2);
        // 15 of 35; of a tie all but the 10 without both.
        QuotaParish seven = Checks.parish(SEVEN + "tie 0 1;");
        lot(seven, 3, 1, 3, 7);
        lot(seven, 3, 0, 5, 7);
        lot(seven, 6, 1, 6, 7);
        lot(seven, 7, 6, 1, 1);
        lot(seven, 0, 0, 0, 1);
        lot(Checks.parish("house 1 1;"), 1, 0, 1, 1);
    }

    private void lotPromise() {
        QuotaParish x = Checks.parish(WEB);
        e.says(18, "LOT of k, a HOUSE, N, or (under) D.");
        lot(x, 1, 3, 2, 5);
        e.says(18, "NONE: not so many HOUSES, another k, or there is none such (of either).");
        QuotaParish seven = Checks.parish(SEVEN);
        for (boolean under : new boolean[] {false, true}) {
            e.each("not so many HOUSES", k -> x.lot(0, k, 0, under), NONE, 6, 7);
            e.each("another k", k -> seven.lot(0, k, 0, under), NONE, -1, 8, 9, -2, MIN, MAX);
            e.each("as many as there are", k -> seven.lot(0, k, 0, under), 1, 7);
            e.each("no HOUSE", h -> x.lot(0, 1, h, under), NONE, NO_HOUSE);
            e.each("no PARISH", p -> x.lot(p, 1, 0, under), NONE, Edges.NO_TEXT);
        }
        e.due("of nothing", Checks.parish("").lot(0, 0, 0, false), NONE);
    }

    private void mean(QuotaParish x, int k, int over, int under) {
        e.due("spared(0, " + k + ", false)", x.spared(0, k, false), over);
        e.due("spared(0, " + k + ", true)", x.spared(0, k, true), under);
    }

    private void spared() {
        e.says(Doc.TERMS, "SPARED of k: how many HOUSES are in the mean, a fraction in least terms.");
        QuotaParish pact = Checks.parish("house 1 1;house 1 1;house 1 1;pact 2 0 1;");
        mean(pact, 0, 0, 1);
        mean(pact, 1, 1, 1);
        // 3 and 2 and 2.
        mean(pact, 2, 7, 3);
        mean(pact, 3, 3, 1);
        // 25 and six times 15 by 35.
        mean(Checks.parish(SEVEN + "tie 0 1;"), 3, 23, 7);
        mean(Checks.parish(SEVEN), 7, 7, 1);
        mean(Checks.parish(CHAIN), 0, 7, 1);
        mean(Checks.parish(""), 0, 0, 1);

        QuotaParish held = Checks.parish("house 1 1;house 1 1;house 1 1;office 0;");
        e.says(19, "SPARED of k, N, or (under) D.");
        mean(held, 0, 1, 1);
        mean(held, 1, 5, 3);
        e.says(19, "NONE: not so many HOUSES, another k, or there is none such.");
        mean(held, 4, NONE, NONE);
        mean(held, 7, NONE, NONE);
        mean(Checks.parish(""), 1, NONE, NONE);
        QuotaParish seven = Checks.parish(SEVEN);
        for (boolean under : new boolean[] {false, true}) {
            e.each("another k", k -> seven.spared(0, k, under), NONE, -1, 8, 9, MIN, MAX);
            e.each("no PARISH", p -> seven.spared(p, 1, under), NONE, Edges.NO_TEXT);
        }
    }

    private void retinue() {
        e.says(Doc.TERMS, "RETINUE of a HOUSE: HOUSES (bits) that are EXEMPT, if it alone holds an OFFICE (it, too).");
        // The OFFICE of 0 does not count for the others.
        QuotaParish x = Checks.parish(WEB);
        e.run("retinue", h -> x.retinue(0, h), 0, 7, 2, 4, 24, 24);
        QuotaParish chain = Checks.parish(CHAIN);
        e.run("retinue in a chain", h -> chain.retinue(0, h), 0, 1, 3, 7, 15, 31, 63, 127);
        e.due("itself alone", Checks.parish("house 5 0;").retinue(0, 0), 1);

        e.says(23, "RETINUE (bits).");
        e.due("the last one", chain.retinue(0, 6), 127);
        e.says(23, "NONE: there is none such (of either).");
        e.each("no HOUSE", h -> x.retinue(0, h), NONE, NO_HOUSE);
        e.each("no PARISH", p -> x.retinue(p, 0), NONE, Edges.NO_TEXT);
        e.due("of nothing", Checks.parish("").retinue(0, 0), NONE);
    }

    private void chief(String text, int what, int want) {
        e.due("chief(0, " + what + ") of " + text, Checks.parish(text).chief(0, what), want);
    }

    private void chief() {
        e.says(Doc.TERMS, "CHIEF: the HOUSE that has the greatest RETINUE, of several the least (none: none); how many are in that.");
        chief("", 0, NONE);
        chief("", 1, 0);
        chief(FIVE, 0, 0);
        chief(FIVE, 1, 1);
        chief(FIVE + "tie 0 3;tie 1 4;", 0, 3);
        chief(FIVE + "tie 0 3;tie 1 4;", 1, 2);
        // Half a pact counts nothing.
        chief(FIVE + "pact 0 3 4;", 0, 0);
        chief(FIVE + "pact 0 3 4;office 3;", 1, 1);
        chief(CHAIN, 0, 6);
        chief(CHAIN, 1, 7);
    }

    private void keys() {
        e.says(Doc.TERMS, "KEYS: RULES (bits) each of which, being cut alone, makes that fewer HOUSES are EXEMPT.");
        chief("", 2, 0);
        chief(FIVE, 2, 0);
        chief(WEB, 2, 3);
        chief(FIVE + "tie 1 0;", 2, 0);
        // Two ways: neither alone; and not the tie of one that holds an OFFICE.
        chief(FIVE + "office 0;office 1;tie 2 0;tie 2 1;", 2, 0);
        chief(FIVE + "office 0;office 1;tie 1 0;", 2, 0);
        chief(CHAIN, 2, 63);
        chief(FIVE + "tie 0 1;".repeat(9) + "tie 3 2;office 2;", 2, 512);
    }

    private void idle() {
        e.says(Doc.TERMS, "IDLE: RULES (bits) each of which, being cut alone, changes nothing, whichever HOUSES hold OFFICES.");
        chief("", 3, 0);
        chief(FIVE + "tie 1 0;", 3, 0);
        chief(FIVE + "tie 1 0;tie 2 1;tie 2 0;", 3, 4);
        chief(FIVE + "tie 1 0;tie 1 0;", 3, 3);
        chief(FIVE + "tie 1 0;".repeat(10), 3, 1023);
        chief(FIVE + "pact 2 0 1;tie 2 1;", 3, 1);
        chief(FIVE + "pact 2 0 1;pact 2 1 0;", 3, 3);
        chief(FIVE + "tie 0 1;tie 1 0;", 3, 0);
        // The tie by way of the pact, and the pact by way of the tie.
        chief(FIVE + "tie 1 0;pact 2 0 1;tie 2 0;", 3, 6);
        // As told nothing changes by it, but by other OFFICES.
        chief(FIVE + "office 2;tie 2 1;", 3, 0);
        chief(FIVE + "pact 2 0 1;", 3, 0);
    }

    private void ringed() {
        e.says(Doc.TERMS, "RINGED: HOUSES (bits) that come, by ties alone, from PATRON to PATRON, to themselves again.");
        chief("", 4, 0);
        chief(FIVE + "tie 0 1;tie 1 2;tie 2 3;tie 3 4;", 4, 0);
        chief(FIVE + "tie 0 1;tie 1 0;", 4, 3);
        // One that comes to a ring, and one to which it comes, are not in it.
        chief(FIVE + "tie 0 1;tie 1 2;tie 2 0;tie 3 0;tie 0 4;", 4, 7);
        chief(FIVE + "tie 0 1;pact 1 0 2;", 4, 0);
        chief(FIVE + "pact 0 1 2;pact 1 0 2;pact 2 0 1;", 4, 0);
        chief(FIVE + "tie 0 1;tie 1 0;tie 1 2;tie 2 3;tie 3 4;tie 4 3;", 4, 27);
        chief(SEVEN + "tie 0 1;tie 1 2;tie 2 3;tie 3 4;tie 4 5;tie 5 6;tie 6 0;", 4, 127);
        chief(SEVEN + "tie 6 5;tie 5 4;tie 4 3;tie 3 2;tie 2 1;tie 1 0;tie 0 6;", 4, 127);
        chief(SEVEN + "office 0;tie 5 6;tie 6 5;", 4, 96);
    }

    private void lone() {
        e.says(Doc.TERMS, "LONE: HOUSES (bits) of which there is no RULE.");
        chief("", 5, 0);
        chief(SEVEN, 5, 127);
        // A PATRON may be one, also who holds an OFFICE.
        chief(FIVE + "tie 1 0;office 0;", 5, 29);
        chief(FIVE + "pact 2 0 1;", 5, 27);
        chief(FIVE + "tie 0 1;tie 1 2;tie 2 3;tie 3 4;tie 4 0;", 5, 0);
        chief(CHAIN, 5, 64);
    }

    private void ranks(String text, int... wants) {
        QuotaParish x = Checks.parish(text);
        e.run("RANK in " + text, h -> x.rank(0, h), 0, wants);
    }

    private void rank() {
        e.says(Doc.TERMS, "RANK of a HOUSE that is EXEMPT: 0, if it holds an OFFICE, else 1 more than the greatest RANK of the PATRONS of the RULE"
            + " by which that is least;");
        ranks(WEB, 0, 1, 2, NONE, NONE);
        ranks(FIVE + "office 0;office 1;tie 1 0;", 0, 0, NONE);
        // The greatest of a pact's PATRONS.
        ranks(FIVE + "office 0;tie 1 0;tie 2 1;pact 3 0 2;pact 4 2 0;", 0, 1, 2, 3, 3);
        // The RULE by which it is least, whichever is told first.
        ranks(FIVE + "office 0;tie 4 3;tie 3 2;tie 2 1;tie 1 0;pact 4 1 2;", 0, 1, 2, 3, 3);
        ranks(FIVE + "office 0;pact 4 1 2;tie 1 0;tie 2 1;tie 3 2;tie 4 3;", 0, 1, 2, 3, 3);
        ranks(FIVE + "office 0;tie 4 3;tie 3 2;tie 2 1;tie 1 0;tie 4 0;", 0, 1, 2, 3, 1);
        ranks(CHAIN, 6, 5, 4, 3, 2, 1, 0);
    }

    private void deepest() {
        e.says(Doc.TERMS, "DEEPEST: the greatest RANK of any (none is EXEMPT: none).");
        chief("", 6, NONE);
        chief(FIVE + "tie 0 1;tie 1 0;", 6, NONE);
        chief(FIVE + "office 4;", 6, 0);
        chief(WEB, 6, 2);
        chief(CHAIN, 6, 6);
    }

    private void chiefPromise() {
        e.says(24, "What 0: CHIEF (NONE), 1: how many (0: none), 2: KEYS, 3: IDLE, 4: RINGED, 5: LONE (bits), 6: DEEPEST (NONE).");
        QuotaParish x = Checks.parish(WEB);
        e.run("chief", w -> x.chief(0, w), 0, 0, 3, 3, 0, 24, 1, 2);
        QuotaParish none = Checks.parish("");
        e.run("of nothing", w -> none.chief(0, w), 0, NONE, 0, 0, 0, 0, 0, NONE);
        e.says(24, "-2: there is none such, or for another what.");
        e.each("no PARISH", p -> x.chief(p, 0), -2, Edges.NO_TEXT);
        e.each("no PARISH, the last what", p -> x.chief(p, 6), -2, Edges.NO_TEXT);
        e.each("another what", w -> x.chief(0, w), -2, -1, 7, 8, 10, MIN, MAX);
    }

    private void rankPromise() {
        e.says(25, "RANK.");
        ranks(FIVE + "office 2;tie 0 2;", 1, NONE, 0);
        e.says(25, "NONE: it is not EXEMPT, or there is none such (of either).");
        QuotaParish x = Checks.parish(WEB);
        e.each("not EXEMPT", h -> x.rank(0, h), NONE, 3, 4);
        e.each("no HOUSE", h -> x.rank(0, h), NONE, NO_HOUSE);
        e.each("no PARISH", p -> x.rank(p, 0), NONE, Edges.NO_TEXT);
        e.due("of nothing", Checks.parish("").rank(0, 0), NONE);
    }
}
