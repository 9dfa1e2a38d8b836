import java.util.Random;

/** Runs of calls by seeds: each answer is the one of the model, which is written apart. */
public final class ModelTest {
    private static final int RUNS = 1500;
    private static final int CALLS = 250;

    private final Checks checks = new Checks("ModelTest");
    private final Random random;
    private final Texts texts;
    private final QuotaParish x = new QuotaParish();
    private final Model m = new Model();
    private final int run;
    private static final int[] ODD = {-999, -2, -1, 7, 8, 9, 10, 51, 61, 100, Integer.MIN_VALUE, Integer.MAX_VALUE};

    private ModelTest(int run) {
        this.run = run;
        random = new Random(run * 7919L + 1);
        texts = new Texts(random);
    }

    public static void main(String[] args) {
        int done = 0;
        for (int run = 0; run < RUNS; run++) {
            ModelTest test = new ModelTest(run);
            test.go();
            done += CALLS;
            test.checks.finishIfWrong();
        }
        System.out.println("ModelTest: " + RUNS + " runs of " + CALLS + " rounds, all as the model, " + done + " rounds");
    }

    private void go() {
        for (int sort = 0; sort < 3; sort++) {
            tell(sort, QuotaParish.NONE);
        }
        for (int i = 0; i < CALLS; i++) {
            call(random.nextInt(36));
        }
    }

    private int pick(int below) {
        return random.nextInt(12) == 0 ? ODD[random.nextInt(ODD.length)] : random.nextInt(below);
    }

    private int text() {
        return random.nextInt(12) == 0 ? ODD[random.nextInt(3)] + random.nextInt(5) : random.nextInt(4) / 3;
    }

    private int house() {
        return pick(4 + random.nextInt(4));
    }

    private boolean coin() {
        return random.nextBoolean();
    }

    private void same(String name, int got, int want, int... args) {
        StringBuilder s = new StringBuilder("run ").append(run).append(": ").append(name).append("(");
        for (int arg : args) {
            s.append(arg).append(" ");
        }
        checks.due(s.append(")").toString(), got, want);
    }

    private void tell(int sort, int at) {
        String text = texts.of(sort < 0 || sort > 2 ? 0 : sort);
        for (int from = 0; from < text.length(); from += 20) {
            int[] w = new int[5];
            int n = Math.min(20, text.length() - from);
            for (int i = 0; i < n; i++) {
                w[i / 4] |= text.charAt(from + i) << (24 - 8 * (i % 4));
            }
            int to = m.feed(w[0], w[1], w[2], w[3], w[4]);
            same("feed", x.feed(w[0], w[1], w[2], w[3], w[4]), to, w);
            if (to > 0) {
                same("end", x.end(to - 20 + n), m.end(to - 20 + n), to - 20 + n);
            }
        }
        same("text [" + text + "]", x.text(sort, at), m.text(sort, at), sort, at);
        same("fault", x.fault(0), m.fault(0), 0);
        same("fault", x.fault(1), m.fault(1), 1);
    }

    private void call(int op) {
        int p = text();
        int y = text();
        int h = house();
        int g = house();
        boolean b = coin();
        int bit = b ? 1 : 0;
        int what = pick(random.nextInt(3) == 0 ? 70 : 8);
        int n = pick(10);
        switch (op) {
            case 0: if (random.nextInt(4) == 0) tell(pick(3), text() - random.nextInt(2)); break;
            case 1: same("fault", x.fault(what), m.fault(what), what); break;
            case 2: same("count", x.count(what), m.count(what), what); break;
            case 3: if (random.nextInt(4) == 0) same("image", x.image(p) ? 1 : 0, m.image(p) ? 1 : 0, p); break;
            case 4: if (random.nextInt(4) == 0) same("again", x.again(p) ? 1 : 0, m.again(p) ? 1 : 0, p); break;
            case 5: if (random.nextInt(4) == 0) same("end", x.end(n), m.end(n), n); break;
            case 6: same("parish", x.parish(p, what), m.parish(p, what), p, what); break;
            case 7: n = pick(42); what = pick(2); same("deed", x.deed(y, n - 1, what), m.deed(y, n - 1, what), y, n - 1, what); break;
            case 8: same("stop", x.stop(p, y), m.stop(p, y), p, y); break;
            case 9: n = pick(coin() ? 5 : 42); what = pick(28); same("state", x.state(p, y, n, what), m.state(p, y, n, what), p, y, n, what); break;
            case 10: what = coin() ? pick(3) : pick(28); same("rush", x.rush(p, n, what), m.rush(p, n, what), p, n, what); break;
            case 11: same("seeds", x.seeds(p, b), m.seeds(p, b), p, bit); break;
            case 12: same("cuts", x.cuts(p, h, b), m.cuts(p, h, b), p, h, bit); break;
            case 13: same("ruin", x.ruin(p, b), m.ruin(p, b), p, bit); break;
            case 14: n = pick(52); same("bid", x.bid(p, n), m.bid(p, n), p, n); break;
            case 15: what = pick(3); same("burden", x.burden(p, what), m.burden(p, what), p, what); break;
            case 16: n = pick(4) - 1; same("falls", x.falls(p, h, n), m.falls(p, h, n), p, h, n); break;
            case 17: n = pick(7); same("strife", x.strife(p, h, g, n, b), m.strife(p, h, g, n, b), p, h, g, n, bit); break;
            case 18: same("lot", x.lot(p, g, h, b), m.lot(p, g, h, b), p, g, h, bit); break;
            case 19: same("spared", x.spared(p, g, b), m.spared(p, g, b), p, g, bit); break;
            case 20: what = pick(2); n--; same("fact", x.fact(y, n, what), m.fact(y, n, what), y, n, what); break;
            case 21: what = coin() ? pick(10) : pick(30); same("fits", x.fits(p, y, what), m.fits(p, y, what), p, y, what); break;
            case 22: int seed = random.nextInt(); n = pick(61); what = pick(28);
                same("drawn", x.drawn(p, seed, n, what), m.drawn(p, seed, n, what), p, seed, n, what); break;
            case 23: same("retinue", x.retinue(p, h), m.retinue(p, h), p, h); break;
            case 24: what = pick(7); same("chief", x.chief(p, what), m.chief(p, what), p, what); break;
            case 25: same("rank", x.rank(p, h), m.rank(p, h), p, h); break;
            case 26: same("harm", x.harm(p, h, g), m.harm(p, h, g), p, h, g); break;
            case 27: what = pick(4); same("foe", x.foe(p, h, what), m.foe(p, h, what), p, h, what); break;
            case 28: what = pick(3); same("sale", x.sale(p, n, what), m.sale(p, n, what), p, n, what); break;
            case 29: n = pick(52); same("top", x.top(p, n), m.top(p, n), p, n); break;
            case 30: n = pick(52); what = coin() ? pick(4) : pick(20); same("behind", x.behind(p, n, what), m.behind(p, n, what), p, n, what); break;
            case 31: what = pick(4); same("passed", x.passed(p, what), m.passed(p, what), p, what); break;
            case 32: what = pick(5); same("after", x.after(p, y, what), m.after(p, y, what), p, y, what); break;
            case 33: same("odds", x.odds(p, y, h, b), m.odds(p, y, h, b), p, y, h, bit); break;
            case 34: what = pick(3); same("fewest", x.fewest(p, y, what), m.fewest(p, y, what), p, y, what); break;
            default: break;
        }
    }
}
