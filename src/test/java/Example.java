import java.nio.charset.StandardCharsets;

/** A parish, years in it and a log of it are told, and asked about. */
public final class Example {
    public static void main(String[] args) {
        QuotaParish x = new QuotaParish();

        write(x, "quota 12; price 8; house 20 3; house 10 1; house 6 2; tie 2 0;");
        int parish = x.text(0, QuotaParish.NONE);
        say("the parish's number", parish);
        say("TAX of house 0", x.parish(parish, 30));
        say("TAX of house 1", x.parish(parish, 31));
        say("TAX of house 2", x.parish(parish, 32));
        say("fewest that exempt all", x.seeds(parish, false));
        say("which, as bits", x.seeds(parish, true));
        say("BURDEN, the house", x.burden(parish, 0));
        say("BURDEN, N", x.burden(parish, 1));
        say("BURDEN, D", x.burden(parish, 2));
        say("TAX of house 3", x.parish(parish, 33));

        write(x, "year; buy 0; year; buy 2; buy 1;");
        int years = x.text(1, QuotaParish.NONE);
        int stop = x.stop(parish, years);
        say("STOP", stop);
        say("PAID behind the first DEED", x.state(parish, years, 1, 1));
        say("PAID at STOP", x.state(parish, years, stop, 1));
        say("LOST at STOP", x.state(parish, years, stop, 2));
        say("a STATE beyond STOP", x.state(parish, years, stop + 1, 2));

        write(x, "paid 1 12;");
        int log = x.text(2, QuotaParish.NONE);
        say("SETS that FIT", x.fits(parish, log, 0));
        say("the first, as bits", x.fits(parish, log, 10));
        say("the second, as bits", x.fits(parish, log, 11));
        say("house 0 held an OFFICE", x.fits(parish, log, 2));
        say("house 1 held one", x.fits(parish, log, 3));
        say("house 2 held one", x.fits(parish, log, 4));

        x.image(0);
        write(x, "house 5 10;");
        say("a text with a FAULT", x.text(0, parish));
        say("the FAULT", x.fault(0));
        say("its place", x.fault(1));
        write(x, "quota 5; house 9 0;");
        say("a text in place of the parish", x.text(0, parish));
        say("TAX of house 0", x.parish(parish, 30));
        x.again(0);
        say("TAX of house 0 as it was", x.parish(parish, 30));
    }

    /** Puts a text on the empty tape: twenty bytes a call, and the last call's surplus cut off. */
    private static void write(QuotaParish x, String text) {
        byte[] bytes = text.getBytes(StandardCharsets.ISO_8859_1);
        for (int from = 0; from < bytes.length; from += 20) {
            int[] n = new int[5];
            for (int i = 0; i < 20 && from + i < bytes.length; i++) {
                n[i / 4] |= (bytes[from + i] & 255) << (24 - 8 * (i % 4));
            }
            x.feed(n[0], n[1], n[2], n[3], n[4]);
        }
        x.end(bytes.length);
    }

    private static void say(String what, int answer) {
        System.out.println(what + ": " + answer);
    }
}
