import java.util.Random;

/** Any arguments in any state: no call throws, and a question changes nothing that is told. */
public final class FuzzTest {
    private static final int[] ODD = {Integer.MIN_VALUE, Integer.MIN_VALUE + 1, -1000, -999, -2, -1, 0, 1, 2, 3, 5, 6, 7, 8,
        9, 10, 16, 17, 20, 26, 27, 30, 36, 40, 49, 50, 51, 59, 60, 61, 69, 70, 99, 100, 127, 128, 512, 600, 601,
        Integer.MAX_VALUE - 1, Integer.MAX_VALUE};
    private static final Checks C = new Checks("FuzzTest");

    private final Random random;
    private final Texts texts;
    private final QuotaParish x = new QuotaParish();

    private FuzzTest(int seed) {
        random = new Random(seed);
        texts = new Texts(random);
    }

    public static void main(String[] args) {
        for (int seed = 0; seed < 400; seed++) {
            new FuzzTest(seed).go();
        }
        C.finish();
    }

    private int any() {
        return random.nextInt(8) == 0 ? random.nextInt() : random.nextInt(3) == 0 ? ODD[random.nextInt(ODD.length)] : random.nextInt(8);
    }

    private void go() {
        for (int i = 0; i < 400; i++) {
            if (random.nextInt(10) == 0) {
                tell();
            }
            x.feed(any(), any(), any(), any(), any());
            x.end(any());
            x.image(any());
            x.again(any());
            long before = fingerprint();
            for (int k = 0; k < 8; k++) {
                ask(random.nextInt(30), any(), any(), any(), any(), random.nextBoolean());
            }
            C.due("what is told behind questions", before == fingerprint(), true);
        }
    }

    private void tell() {
        int sort = random.nextInt(3);
        if (random.nextInt(4) > 0) {
            x.end(0);
            Checks.feed(x, texts.of(sort));
        }
        x.text(random.nextInt(6) == 0 ? any() : sort, random.nextInt(3) == 0 ? any() : random.nextInt(3) - 1);
    }

    private long fingerprint() {
        long sum = x.fault(0) * 31L + x.fault(1);
        for (int k = 0; k < 2; k++) {
            for (int what = 0; what < 70; what++) {
                sum = sum * 31 + x.parish(k, what);
            }
            for (int i = -1; i < 40; i++) {
                sum = (sum * 31 + x.deed(k, i, 0)) * 31 + x.deed(k, i, 1);
                sum = (sum * 31 + x.fact(k, i, 0)) * 31 + x.fact(k, i, 1);
            }
        }
        return sum;
    }

    private int ask(int op, int a, int b, int c, int d, boolean e) {
        switch (op) {
            case 0: return x.fault(a);
            case 1: return x.parish(a, b);
            case 2: return x.deed(a, b, c);
            case 3: return x.stop(a, b);
            case 4: return x.state(a, b, c, d);
            case 5: return x.rush(a, b, c);
            case 6: return x.seeds(a, e);
            case 7: return x.cuts(a, b, e);
            case 8: return x.ruin(a, e);
            case 9: return x.bid(a, b);
            case 10: return x.burden(a, b);
            case 11: return x.falls(a, b, c);
            case 12: return x.strife(a, b, c, d, e);
            case 13: return x.lot(a, b, c, e);
            case 14: return x.spared(a, b, e);
            case 15: return x.fact(a, b, c);
            case 16: return x.fits(a, b, c);
            case 17: return x.drawn(a, b, c, d);
            case 18: return x.retinue(a, b);
            case 19: return x.chief(a, b);
            case 20: return x.rank(a, b);
            case 21: return x.harm(a, b, c);
            case 22: return x.foe(a, b, c);
            case 23: return x.sale(a, b, c);
            case 24: return x.top(a, b);
            case 25: return x.behind(a, b, c);
            case 26: return x.passed(a, b);
            case 27: return x.after(a, b, c);
            case 28: return x.odds(a, b, c, e);
            default: return x.fewest(a, b, c);
        }
    }
}
