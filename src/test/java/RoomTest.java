import java.lang.management.ManagementFactory;

/** All calls of one run live in one room: an object makes its rows once, and no call makes any more. */
public final class RoomTest {
    private static final Checks C = new Checks("RoomTest");
    private static final String PARISH = "quota 60;price 5;house 30 3;house 30 4;house 30 0;house 12 1;house 9 9;house 0 2;house 7 7;"
        + "tie 1 0;pact 2 0 1;tie 3 2;pact 4 3 1;tie 5 6;tie 6 5;tie 2 4;tie 1 3;pact 6 0 4;tie 4 2;office 0;";

    public static void main(String[] args) {
        com.sun.management.ThreadMXBean meter = (com.sun.management.ThreadMXBean) ManagementFactory.getThreadMXBean();
        long thread = Thread.currentThread().getId();
        QuotaParish x = told();
        long sum = askAll(x);
        long before = meter.getThreadAllocatedBytes(thread);
        long idle = meter.getThreadAllocatedBytes(thread) - before;
        before = meter.getThreadAllocatedBytes(thread);
        sum += askAll(x);
        long calls = meter.getThreadAllocatedBytes(thread) - before - idle;
        before = meter.getThreadAllocatedBytes(thread);
        QuotaParish y = new QuotaParish();
        long object = meter.getThreadAllocatedBytes(thread) - before - idle;
        C.due("bytes that calls make", (int) calls, 0);
        C.due("an object is small: " + object, object < 40000, true);
        C.due("it was asked", sum != 0 && y.count(0) == 0, true);
        C.finish();
    }

    private static QuotaParish told() {
        QuotaParish x = Checks.years(PARISH, "year;buy 1;lose 1;cut 0;quota 9;price 3;year;year;buy 3;");
        Checks.tell(x, Checks.LOG, QuotaParish.NONE, "paid 0 0;");
        return x;
    }

    private static long askAll(QuotaParish x) {
        long sum = 0;
        for (int i = 0; i < 12; i++) {
            sum += x.parish(0, i) + x.stop(0, 0) + x.state(0, 0, i, i) + x.rush(0, 1 + i % 9, i) + x.seeds(0, true);
            sum += x.cuts(0, i, true) + x.ruin(0, true) + x.bid(0, i) + x.burden(0, i) + x.falls(0, i, -1);
            sum += x.strife(0, 0, i, 6, true) + x.lot(0, 3, i, true) + x.spared(0, i, true) + x.fits(0, 0, i);
            sum += x.drawn(0, i, 60, i) + x.retinue(0, i) + x.chief(0, i) + x.rank(0, i) + x.harm(0, 0, i);
            sum += x.foe(0, i, i % 4) + x.sale(0, 1, i) + x.top(0, 50) + x.behind(0, 50, i) + x.passed(0, i);
            sum += x.after(0, 0, i) + x.odds(0, 0, i, true) + x.fewest(0, 0, i) + x.deed(0, i, 0) + x.fact(0, i, 0);
            sum += (x.image(0) ? 1 : 0) + (x.again(0) ? 1 : 0);
            sum += x.feed(0x79656172, 0x3b6c6f73, 0x6520303b, 0x20202020, 0x20202020) + x.text(1, 0) + x.text(9, 9);
        }
        return sum;
    }
}
