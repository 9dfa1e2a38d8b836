import java.nio.charset.StandardCharsets;

/** What every test uses: comparing answers, and telling texts by the tape. */
final class Checks {
    static final int PARISH = 0;
    static final int YEARS = 1;
    static final int LOG = 2;

    private final String name;
    private int done = 0;
    private int wrong = 0;

    Checks(String name) {
        this.name = name;
    }

    void due(String call, int got, int want) {
        done++;
        if (got != want) {
            wrong++;
            if (wrong <= 50) {
                System.out.println(name + ": " + call + " answered " + got + ", due is " + want);
            }
        }
    }

    void due(String call, boolean got, boolean want) {
        due(call, got ? 1 : 0, want ? 1 : 0);
    }

    void finishIfWrong() {
        if (wrong != 0) {
            finish();
        }
    }

    void finish() {
        System.out.println(name + ": " + done + " answers, " + wrong + " not as due");
        if (wrong != 0) {
            System.exit(1);
        }
    }

    /** Puts a text behind the tape: as many feeds as it needs, then the surplus cut off. */
    static void feed(QuotaParish x, String text) {
        feed(x, text.getBytes(StandardCharsets.ISO_8859_1));
    }

    static void feed(QuotaParish x, byte[] bytes) {
        int end = 0;
        int before = -1;
        for (int from = 0; from < bytes.length; from += 20) {
            int[] words = new int[5];
            for (int i = 0; i < 20 && from + i < bytes.length; i++) {
                words[i / 4] |= (bytes[from + i] & 255) << (24 - 8 * (i % 4));
            }
            int now = x.feed(words[0], words[1], words[2], words[3], words[4]);
            if (before < 0) {
                before = now - 20;
            }
            end = before + bytes.length;
        }
        if (bytes.length > 0) {
            x.end(end);
        }
    }

    static int tell(QuotaParish x, int sort, int at, String text) {
        feed(x, text);
        return x.text(sort, at);
    }

    /** A new object with one PARISH. */
    static QuotaParish parish(String text) {
        QuotaParish x = new QuotaParish();
        if (tell(x, PARISH, QuotaParish.NONE, text) != 0) {
            throw new IllegalStateException("no parish: " + text);
        }
        return x;
    }

    static QuotaParish years(String parish, String years) {
        QuotaParish x = parish(parish);
        if (tell(x, YEARS, QuotaParish.NONE, years) != 0) {
            throw new IllegalStateException("no years: " + years);
        }
        return x;
    }

    static QuotaParish log(String parish, String log) {
        QuotaParish x = parish(parish);
        if (tell(x, LOG, QuotaParish.NONE, log) != 0) {
            throw new IllegalStateException("no log: " + log);
        }
        return x;
    }
}
