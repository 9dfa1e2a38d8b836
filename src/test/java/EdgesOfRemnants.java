import java.util.ArrayList;
import java.util.List;

/** Whatever was told and asked before: each answer is the one that a new object gives. */
final class EdgesOfRemnants {
    private static final int NONE = QuotaParish.NONE;
    /** A PARISH, YEARS and a LOG, as much as may be of each. */
    private static final String[][] GREAT = {
        {"quota 1;price 2;" + "house 33 0;".repeat(7) + "tie 1 0;".repeat(10),
            "buy 0;buy 1;buy 2;buy 3;lose 3;buy 3;lose 3;buy 3;year;quota 99;year;cut 9;cut 8;price 5;buy 4;" + "year;".repeat(25), ""},
        {"quota 97;price 2;house 99 9;house 98 8;house 97 7;house 5 1;house 5 2;house 5 3;house 50 0;office 6;tie 0 1;tie 1 0;"
            + "pact 2 0 1;tie 1 6;tie 3 4;tie 4 3;pact 5 3 4;tie 5 6;tie 0 6;tie 0 6;", "year;".repeat(40), "paid 6 0;".repeat(8)},
    };
    private static final String[][] SMALL = {
        {"", "", ""},
        {"quota 1;price 1;house 2 0;house 2 0;house 2 0;office 1;", "buy 0;year;lose 0;", "paid 0 0;"},
        {"quota 7;price 1;house 33 0;house 33 0;tie 1 0;", "buy 1;year;lose 1;", "paid 1 3;"},
        {"quota 40;price 1;house 5 0;house 5 1;house 5 0;house 5 3;", "year;buy 3;cut 0;", "paid 3 10;paid 0 10;"},
        {"quota 5;house 9 9;house 0 0;tie 0 1;", "year;year;buy 0;lose 0;", "paid 6 0;"},
        {"house 3 0;house 3 0;house 3 0;tie 0 1;tie 1 2;office 0;", "lose 0;year;", ""},
    };

    private final Edges e;

    EdgesOfRemnants(Edges e) {
        this.e = e;
    }

    void run() {
        for (String[] great : GREAT) {
            for (String[] small : SMALL) {
                List<Integer> due = answers(told(small), 0);
                e.says(4, "in the place of one: its number.");
                compare("in the place of " + great[0], small[0], answers(inPlace(great, small), 0), due);
                e.says(Doc.TERMS, "(Of a PARISH as told.)");
                compare("beside " + great[0], small[0], answers(beside(great, small), 1), due);
                e.says(37, "All that is as image k has it");
                compare("again behind " + great[0], small[0], answers(again(great, small), 0), due);
                e.says(1, "No PARISHES, YEARS, LOGS; no images.");
                compare("another object beside " + great[0], small[0], answers(told(small), 0), due);
            }
        }
    }

    private void compare(String where, String text, List<Integer> got, List<Integer> due) {
        e.due(where + ": as many answers of " + text, got.size(), due.size());
        for (int i = 0; i < due.size(); i++) {
            e.due(where + ": answer " + i + " of " + text, got.get(i), due.get(i));
        }
    }

    private static void tell(QuotaParish x, int at, String[] texts) {
        for (int sort = 0; sort < 3; sort++) {
            if (Checks.tell(x, sort, at, texts[sort]) < 0) {
                throw new IllegalStateException("no text: " + texts[sort]);
            }
        }
    }

    private static QuotaParish told(String[] texts) {
        QuotaParish x = new QuotaParish();
        tell(x, NONE, texts);
        return x;
    }

    private static QuotaParish inPlace(String[] great, String[] small) {
        QuotaParish x = told(great);
        answers(x, 0);
        tell(x, 0, small);
        return x;
    }

    private static QuotaParish beside(String[] great, String[] small) {
        QuotaParish x = told(great);
        tell(x, NONE, small);
        answers(x, 0);
        return x;
    }

    private static QuotaParish again(String[] great, String[] small) {
        QuotaParish x = told(small);
        x.image(1);
        tell(x, 0, great);
        answers(x, 0);
        x.again(1);
        return x;
    }

    /** Some 170 calls, so that an object may be asked twice before its 512th. */
    private static List<Integer> answers(QuotaParish x, int k) {
        List<Integer> all = new ArrayList<>();
        for (int h = 0; h < 7; h += 3) {
            for (int tens = 10; tens <= 60; tens += 10) {
                all.add(x.parish(k, tens + h));
            }
            all.add(x.falls(k, h, NONE));
            all.add(x.rank(k, h));
            all.add(x.retinue(k, h));
            all.add(x.cuts(k, h, true));
            all.add(x.rush(k, 2, 10 + h));
            all.add(x.rush(k, 2, 20 + h));
            all.add(x.odds(k, k, h, false));
            all.add(x.lot(k, 2, h, false));
            all.add(x.behind(k, 3, 10 + h));
            all.add(x.drawn(k, 11, 40, 10 + h));
        }
        for (int what = 0; what < 12; what++) {
            all.add(x.parish(k, what));
            all.add(x.chief(k, what));
            all.add(x.passed(k, what));
            all.add(x.after(k, k, what));
            all.add(x.fits(k, k, what));
            all.add(x.state(k, k, 2, what));
            all.add(x.drawn(k, 5, 60, what));
        }
        for (int what = 0; what < 4; what++) {
            all.add(x.behind(k, 50, what));
            all.add(x.burden(k, what));
            all.add(x.foe(k, 1, what));
            all.add(x.sale(k, 1, what));
            all.add(x.fewest(k, k, what));
            all.add(x.rush(k, 1, what));
            all.add(x.spared(k, what, false));
        }
        all.add(x.stop(k, k));
        all.add(x.seeds(k, true));
        all.add(x.ruin(k, false));
        all.add(x.ruin(k, true));
        all.add(x.bid(k, 50));
        all.add(x.top(k, 50));
        all.add(x.harm(k, 0, 1));
        all.add(x.strife(k, 0, 1, 3, false));
        all.add(x.strife(k, 0, 1, 3, true));
        all.add(x.after(k, k, 0));
        return all;
    }
}
