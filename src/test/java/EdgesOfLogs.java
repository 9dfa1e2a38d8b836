/** What a LOG tells: its terms, and promises 20, 21, 33 and 34, sentence by sentence. */
final class EdgesOfLogs {
    private static final int NONE = QuotaParish.NONE;
    private static final int MIN = Integer.MIN_VALUE;
    private static final int MAX = Integer.MAX_VALUE;
    /** TAX by the SETS 0 .. 3: 5 5, 0 10, 10 0, 0 0. */
    private static final String TWO = "quota 10;house 5 0;house 5 0;office 0;";
    private static final String SEVEN = "quota 7;" + "house 1 0;".repeat(7);

    private final Edges e;

    EdgesOfLogs(Edges e) {
        this.e = e;
    }

    void run() {
        fit();
        sure();
        ask();
        fact();
        fitsPromise();
        odds();
        fewest();
        alike();
        fewestPromise();
    }

    private void fits(String parish, String log, int[][] rows) {
        QuotaParish x = Checks.log(parish, log);
        e.rows("fits by [" + log + "] in " + parish, w -> x.fits(0, 0, w), rows);
    }

    private void fit() {
        e.says(Doc.TERMS, "By a LOG of a PARISH: SETS (bits) of HOUSES, holding OFFICES in place of those told, FIT, if by them each FACT's HOUSE"
            + " has just that TAX (of a HOUSE that is not there: never): how many; the k-th, rising;");
        fits(TWO, "paid 0 0;", new int[][] {{0, 2}, {10, 1}, {11, 3}, {12, -2}});
        fits(TWO, "paid 1 0;", new int[][] {{0, 2}, {10, 2}, {11, 3}, {12, -2}});
        fits(TWO, "paid 0 5;", new int[][] {{0, 1}, {10, 0}, {11, -2}});
        fits(TWO, "paid 0 5;paid 1 5;paid 0 5;", new int[][] {{0, 1}, {10, 0}});
        fits(TWO, "paid 1 10;", new int[][] {{0, 1}, {10, 1}});
        // Just that TAX: neither more nor less; each FACT, the last one, too.
        fits(TWO, "paid 0 4;", new int[][] {{0, 0}, {10, -2}});
        fits(TWO, "paid 0 6;", new int[][] {{0, 0}, {10, -2}});
        fits(TWO, "paid 0 0;".repeat(7) + "paid 1 10;", new int[][] {{0, 1}, {10, 1}});
        fits(TWO, "paid 0 0;".repeat(7) + "paid 1 5;", new int[][] {{0, 0}, {10, -2}});
        // Never of a HOUSE that is not there, though it has no TAX.
        fits(TWO, "paid 2 0;", new int[][] {{0, 0}, {10, -2}});
        fits(TWO, "paid 0 0;paid 6 0;", new int[][] {{0, 0}, {10, -2}});
        fits("", "paid 0 0;", new int[][] {{0, 0}, {10, -2}});
        // Without FACTS all FIT, of no HOUSES the empty one.
        fits(TWO, "", new int[][] {{0, 4}, {10, 0}, {11, 1}, {12, 2}, {13, 3}, {14, -2}});
        fits("", "", new int[][] {{0, 1}, {10, 0}, {11, -2}});
        fits(SEVEN, "", new int[][] {{0, 128}, {10, 0}, {11, 1}, {136, 126}, {137, 127}, {138, -2}});
        fits("quota 99;house 1 0;", "paid 0 99;", new int[][] {{0, 1}, {10, 0}});
        // RULES hold: by the first the second is EXEMPT.
        fits(TWO + "tie 1 0;", "paid 1 0;", new int[][] {{0, 3}, {10, 1}, {11, 2}, {12, 3}});
    }

    private void sure() {
        e.says(Doc.TERMS, "SURE of a HOUSE: 1, if it is in all that FIT, 0, if in none;");
        fits(TWO, "paid 0 0;", new int[][] {{2, 1}, {3, NONE}});
        fits(TWO, "paid 1 0;", new int[][] {{2, NONE}, {3, 1}});
        fits(TWO, "paid 0 5;", new int[][] {{2, 0}, {3, 0}});
        fits(TWO, "paid 0 10;", new int[][] {{2, 0}, {3, 1}});
        fits(TWO, "", new int[][] {{2, NONE}, {3, NONE}});
        // Six of seven are EXEMPT, the last one pays all.
        fits(SEVEN, "paid 6 7;", new int[][] {{0, 1}, {2, 1}, {7, 1}, {8, 0}, {10, 63}});
        fits(SEVEN, "paid 6 0;", new int[][] {{0, 64}, {2, NONE}, {7, NONE}, {8, 1}});
    }

    private void ask() {
        e.says(Doc.TERMS, "ASK: the HOUSE such that of all that FIT the greatest number by which it has the same TAX is least, of several the"
            + " least.");
        // By 1 and 3 the first has 0 twice, the second 10 and 0.
        fits(TWO, "paid 0 0;", new int[][] {{1, 1}});
        fits(TWO, "paid 1 0;", new int[][] {{1, 0}});
        fits(TWO, "", new int[][] {{1, 0}});
        fits(TWO, "paid 0 5;", new int[][] {{1, 0}});
        QuotaParish other = Checks.log(TWO, "");
        Checks.tell(other, Checks.LOG, NONE, "paid 0 0;");
        e.due("of all", other.fits(0, 0, 1), 0);
        e.due("by another LOG then", other.fits(0, 1, 1), 1);
        // By 1 and 3 the second has 1 and 0.
        fits("quota 1;house 1 0;house 1 0;", "paid 0 0;", new int[][] {{0, 2}, {1, 1}});
        // Nobody has any TAX by any of 128.
        fits("quota 0;" + "house 1 0;".repeat(7), "", new int[][] {{0, 128}, {1, 0}});
        // The first has never any TAX: 8; the others 0 by 4 of 8.
        fits("quota 12;house 0 0;house 6 0;house 3 0;", "", new int[][] {{1, 1}});
        // 0 by 6, by 6, by 4 of 8.
        fits("quota 12;house 6 0;house 6 0;house 3 0;tie 0 2;tie 1 2;", "", new int[][] {{1, 2}});
        // The last of seven alone has any.
        fits("quota 7;" + "house 0 0;".repeat(6) + "house 1 0;", "", new int[][] {{0, 128}, {1, 6}});
    }

    private void fact() {
        QuotaParish x = new QuotaParish();
        Checks.tell(x, Checks.LOG, NONE, "paid 3 0;paid 6 99;paid 0 7;");
        e.says(20, "How many FACTS (k NONE, what 0); of FACT k, what 0: the HOUSE, 1: the TAX.");
        e.due("how many", x.fact(0, NONE, 0), 3);
        e.run("HOUSE", k -> x.fact(0, k, 0), 0, 3, 6, 0);
        e.run("TAX", k -> x.fact(0, k, 1), 0, 0, 99, 7);
        e.says(20, "-2: there is none such (of either), or for another what.");
        e.each("no LOG", l -> x.fact(l, NONE, 0), -2, Edges.NO_TEXT);
        e.each("no LOG, a FACT", l -> x.fact(l, 0, 1), -2, Edges.NO_TEXT);
        e.each("no FACT", k -> x.fact(0, k, 0), -2, 3, 4, 7, 8, -2, MIN, MAX);
        e.each("no FACT's TAX", k -> x.fact(0, k, 1), -2, 3, -1, -2, 8);
        e.each("another what", w -> x.fact(0, 0, w), -2, -1, 2, 3, MIN, MAX);
        e.each("another what of all", w -> x.fact(0, NONE, w), -2, -1, 1, 2, MIN, MAX);
    }

    private void fitsPromise() {
        e.says(21, "What 0: how many FIT, 1: ASK (NONE: nothing FITS, or no HOUSES), 2 + h: SURE of a HOUSE (NONE: neither, nothing FITS, or there"
            + " is none such), 10 + k: the k-th.");
        fits(TWO, "paid 0 0;", new int[][] {{0, 2}, {1, 1}, {2, 1}, {3, NONE}, {10, 1}, {11, 3}});
        // Nothing FITS; no HOUSES; no such HOUSE.
        fits(TWO, "paid 0 1;", new int[][] {{0, 0}, {1, NONE}, {2, NONE}, {3, NONE}, {4, NONE}, {8, NONE}});
        fits("", "", new int[][] {{0, 1}, {1, NONE}, {2, NONE}, {8, NONE}, {10, 0}});
        fits(TWO, "paid 0 5;", new int[][] {{2, 0}, {3, 0}, {4, NONE}, {5, NONE}, {6, NONE}, {7, NONE}, {8, NONE}});
        e.says(21, "-2: there is none such (of any), or for another what.");
        fits(TWO, "paid 0 0;", new int[][] {{12, -2}, {13, -2}, {137, -2}, {138, -2}});
        fits(TWO, "paid 0 1;", new int[][] {{10, -2}, {11, -2}, {9, -2}, {-1, -2}});
        fits(TWO, "", new int[][] {{9, -2}, {-1, -2}, {-2, -2}, {-10, -2}, {MIN, -2}, {MAX, -2}, {1000, -2}});
        fits(SEVEN, "", new int[][] {{9, -2}, {8, NONE}, {138, -2}, {139, -2}});
        QuotaParish x = Checks.log(TWO, "");
        for (int what : new int[] {0, 1, 2, 10}) {
            e.each("no PARISH, what " + what, p -> x.fits(p, 0, what), -2, Edges.NO_TEXT);
            e.each("no LOG, what " + what, l -> x.fits(0, l, what), -2, Edges.NO_TEXT);
        }
    }

    private void odds(String parish, String log, int house, int over, int under) {
        QuotaParish x = Checks.log(parish, log);
        e.due("odds of " + house + " by [" + log + "] in " + parish, x.odds(0, 0, house, false), over);
        e.due("odds under of " + house + " by [" + log + "] in " + parish, x.odds(0, 0, house, true), under);
    }

    private void odds() {
        e.says(Doc.TERMS, "By a LOG of a PARISH: ODDS of a HOUSE: all SETS that FIT being alike, how likely it holds an OFFICE, a fraction in least"
            + " terms;");
        odds(TWO, "paid 0 0;", 0, 1, 1);
        odds(TWO, "paid 0 0;", 1, 1, 2);
        odds(TWO, "paid 0 5;", 1, 0, 1);
        // Two of four, two of three.
        odds(TWO, "", 0, 1, 2);
        odds(TWO + "tie 1 0;", "paid 1 0;", 0, 2, 3);
        odds(SEVEN, "", 6, 1, 2);
        odds(SEVEN, "paid 6 7;", 5, 1, 1);

        e.says(33, "ODDS of a HOUSE, N, or (under) D.");
        odds(TWO + "tie 1 0;", "paid 1 0;", 1, 2, 3);
        e.says(33, "NONE: nothing FITS, or there is none such (of any).");
        odds(TWO, "paid 6 0;", 0, NONE, NONE);
        odds(TWO, "paid 0 1;", 1, NONE, NONE);
        odds("", "", 0, NONE, NONE);
        QuotaParish x = Checks.log(TWO, "");
        for (boolean under : new boolean[] {false, true}) {
            e.each("no HOUSE", h -> x.odds(0, 0, h, under), NONE, -1, 2, 6, 7, -2, MIN, MAX);
            e.each("no PARISH", p -> x.odds(p, 0, 0, under), NONE, Edges.NO_TEXT);
            e.each("no LOG", l -> x.odds(0, l, 0, under), NONE, Edges.NO_TEXT);
        }
    }

    private void fewest(String parish, String log, int first, int... wants) {
        QuotaParish x = Checks.log(parish, log);
        e.run("fewest by [" + log + "] in " + parish, w -> x.fewest(0, 0, w), first, wants);
    }

    private void fewest() {
        e.says(Doc.TERMS, "FEWEST, MOST: HOUSES in any that FITS;");
        fewest(TWO, "", 0, 0, 2);
        fewest(TWO, "paid 0 0;", 0, 1, 2);
        fewest(TWO, "paid 0 5;", 0, 0, 0);
        fewest(TWO, "paid 0 10;", 0, 1, 1);
        fewest(SEVEN, "", 0, 0, 7);
        fewest(SEVEN, "paid 6 7;", 0, 6, 6);
        fewest("", "", 0, 0, 0);
        // The fewest are in neither the first nor the last: 3, 4, 5, 6, 7.
        fewest("house 5 0;house 5 0;house 5 0;tie 0 2;tie 1 2;", "paid 0 0;paid 1 0;", 0, 1, 3);
    }

    private void alike() {
        e.says(Doc.TERMS, "ALIKE: couples of SETS that FIT by which TAX of each HOUSE is the same.");
        fewest(TWO, "", 2, 0);
        fewest(TWO, "paid 6 0;", 2, 0);
        fewest("", "", 2, 0);
        // By 1 and by 3 all are EXEMPT.
        fewest(TWO + "tie 1 0;", "", 2, 1);
        // Four SETS with the first.
        fewest("house 5 0;house 5 0;house 5 0;tie 1 0;tie 2 0;", "paid 0 0;paid 1 0;paid 2 0;", 2, 6);
        // Of each HOUSE: by 1 and 3 the first has the same, the second has not.
        fewest(TWO, "paid 0 0;", 2, 0);
        fewest("quota 0;" + "house 5 0;".repeat(7), "", 2, 8128);
        // By the last one alone two are unlike, with it and without, 64 each.
        fewest("quota 7;" + "house 0 0;".repeat(6) + "house 1 0;", "", 2, 4032);
    }

    private void fewestPromise() {
        e.says(34, "What 0: FEWEST, 1: MOST (NONE of both: nothing FITS), 2: ALIKE.");
        fewest(TWO + "tie 1 0;", "paid 1 0;", 0, 1, 2, 1);
        fewest(TWO, "paid 6 0;", 0, NONE, NONE, 0);
        QuotaParish x = Checks.log(TWO, "");
        e.says(34, "-2: there is none such (of either), or for another what.");
        for (int what = 0; what < 3; what++) {
            int w = what;
            e.each("no PARISH, what " + what, p -> x.fewest(p, 0, w), -2, Edges.NO_TEXT);
            e.each("no LOG, what " + what, l -> x.fewest(0, l, w), -2, Edges.NO_TEXT);
        }
        e.each("another what", w -> x.fewest(0, 0, w), -2, -1, 3, 4, 10, MIN, MAX);
        QuotaParish never = Checks.log(TWO, "paid 6 0;");
        e.each("another what, nothing FITS", w -> never.fewest(0, 0, w), -2, -1, 3);
    }
}
