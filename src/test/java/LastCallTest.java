import java.lang.management.ManagementFactory;

/** "An object is used for at most 512 calls after it has been made": nothing goes wrong up to the last of them. */
public final class LastCallTest {
    private static final Checks CHECKS = new Checks("LastCallTest");
    private static final int LAST = 512;
    private static final String FULL = "minute 0;minute 1;minute 2;minute 3;minute 4;minute 5;minute 0;minute 1;minute 2;minute 3;"
            + "family a 9 0;family b 8 1;family c 7 2;family d 6 3;family e 5 4;lease a 0;lease b 1;lease c 2;lease d 3;lease e 4;"
            + "lease a 5;lease b 6;lease c 7;seed 9999;coughs=2;rents=99;worth=9;";

    public static void main(String[] args) {
        weeksToTheLast();
        lotsToTheLast();
        thingsToTheLast();
        undoToTheLast();
        textsToTheLast();
        faultsToTheLast();
        feedToTheLast();
        slotsToTheLast();
        toldToTheLast();
        dearestToTheLast();
        noCallMakesAnObject();
        CHECKS.end();
    }

    private static void due(String call, long got, long want) {
        CHECKS.due(call, got, want);
    }

    /** How many calls Checks makes to have a text read: feed, back, read. */
    private static int callsToRead(String text) {
        return (text.length() + 19) / 20 + 2;
    }

    // "WEEKS are counted on."
    private static void weeksToTheLast() {
        String text = "minute 0;family f 0 0;lease f 0;rents=99;worth=9;";
        int week = 40 * (LAST - 1 - callsToRead(text));
        due("the week", afterWeeks(text).count(2), week);
        due("gained", afterWeeks(text).family(0, 3), 9L * week);
        due("paid", afterWeeks(text).count(14), 99L * week);
        due("weeks(40)", afterWeeks(text).weeks(40), week + 40);
        due("gains of 40 weeks", afterWeeks(text).gains(0, 40), -90 * 40);
        CoughParts x = new CoughParts();
        for (int i = 1; i <= LAST; i++) {
            due("weeks(40)", x.weeks(40), 40 * i);
        }
    }

    /** Forty weeks a call, till there is one call left. */
    private static CoughParts afterWeeks(String text) {
        CoughParts x = Checks.of(text);
        for (int calls = callsToRead(text); calls < LAST - 1; calls++) {
            x.weeks(40);
        }
        return x;
    }

    private static void lotsToTheLast() {
        int week = 40 * (LAST - 1 - callsToRead(FULL));
        for (int minute = 0; minute < 10; minute++) {
            int due = Checks.lot(4, 9999, 16 * week + minute) < 2 ? 1 : 0;
            due("would he cough behind " + minute, afterWeeks(FULL).minute(minute, 2), due);
        }
    }

    private static void thingsToTheLast() {
        CoughParts x = Checks.of(FULL);
        int things = 0;
        for (int calls = callsToRead(FULL); calls + 4 <= LAST; calls += 2) {
            due("change", x.change(0, 1) ? 1 : 0, 1);
            due("let", x.let(7, things % 4 == 0 ? 3 : 2) ? 1 : 0, 1);
            things += 2;
        }
        due("forty can be undone", x.count(9), 40);
        due("undo", x.undo() ? 1 : 0, 1);
    }

    private static void undoToTheLast() {
        CoughParts x = new CoughParts();
        for (int i = 0; i < LAST / 2 - 1; i++) {
            due("weeks", x.weeks(1 + i % 40), 1 + i % 40);
            due("undo", x.undo() ? 1 : 0, 1);
        }
        due("week 0", x.count(2), 0);
        due("none to undo", x.undo() ? 1 : 0, 0);
    }

    private static void textsToTheLast() {
        CoughParts x = new CoughParts();
        int calls = 0;
        for (int i = 0; calls + callsToRead(FULL) < LAST; i++) {
            due("read " + i, Checks.read(x, i % 2 == 0 ? FULL : FULL.replace("family c 7", "family c 3")), 0);
            due("zeal of c", x.family(2, 0), i % 2 == 0 ? 7 : 3);
            calls += callsToRead(FULL) + 1;
        }
        due("minutes", x.count(0), 10);
    }

    private static void faultsToTheLast() {
        CoughParts x = new CoughParts();
        for (int calls = 0; calls + 5 <= LAST; calls += 5) {
            x.feed(0x6d696e75, 0x74652036, 0x3b202020, 0x20202020, 0x20202020);
            due("read", x.read(), 5);
            due("place", x.place(), 7);
            due("no minutes", x.count(0), 0);
            due("no bytes", x.count(8), 0);
        }
    }

    private static void feedToTheLast() {
        CoughParts x = new CoughParts();
        for (int i = 1; i <= LAST; i++) {
            due("feed", x.feed(i, i, i, i, i), i <= 100 ? 20 * i : -1);
        }
        CoughParts y = new CoughParts();
        for (int i = 0; i < LAST / 2; i++) {
            due("feed", y.feed(-1, -1, -1, -1, -1), 20);
            due("back", y.back(20), 0);
        }
    }

    private static void slotsToTheLast() {
        CoughParts x = new CoughParts();
        int[] weeks = new int[3];
        int week = 0;
        for (int calls = 0; calls + 4 <= LAST; calls += 4) {
            int slot = calls / 4 % 3;
            week++;
            due("weeks", x.weeks(1), week);
            due("hold", x.hold(slot) ? 1 : 0, 1);
            weeks[slot] = week;
            int other = weeks[(slot + 2) % 3] > 0 ? (slot + 2) % 3 : slot;
            due("restore", x.restore(other) ? 1 : 0, 1);
            week = weeks[other];
            due("week", x.count(2), week);
        }
    }

    private static void toldToTheLast() {
        CoughParts x = Checks.of("minute 0;minute 0;coughs=2;");
        for (int calls = 4; calls + 23 <= LAST; calls += 23) {
            for (int i = 0; i < 20; i++) {
                due("tell", x.tell(1, 1, true), i);
            }
            due("a 21st", x.tell(1, 1, true), -1);
            due("when", x.when(20, 0), 2);
            due("forget", x.forget(), 20);
        }
    }

    private static void dearestToTheLast() {
        CoughParts x = Checks.of(FULL);
        for (int calls = callsToRead(FULL); calls + 4 <= LAST; calls += 4) {
            due("year", x.year(0, 40, 20), 0);
            due("swap", x.swap(0, 0), -2);
            due("when", x.when(0, 0), 1024);
            due("cover", x.cover(5, 1), 63);
        }
    }

    /** All calls of a run share one room, so that only a constructor may make anything. */
    private static void noCallMakesAnObject() {
        com.sun.management.ThreadMXBean threads = (com.sun.management.ThreadMXBean) ManagementFactory.getThreadMXBean();
        CoughParts x = Checks.of(FULL);
        CoughParts y = Checks.of(FULL);
        everyCall(x);
        long before = threads.getCurrentThreadAllocatedBytes();
        everyCall(y);
        long made = threads.getCurrentThreadAllocatedBytes() - before;
        due("calls made " + made + " bytes", made < 256 ? 0 : 1, 0);
    }

    private static int everyCall(CoughParts x) {
        int sum = 0;
        for (int i = 0; i < 3; i++) {
            sum += x.weeks(i) + (x.change(0, 1) ? 1 : 0) + (x.let(0, 1 - i) ? 1 : 0) + (x.syrup(true) ? 1 : 0);
            sum += (x.dust(true) ? 1 : 0) + x.minute(i, i) + x.family(i, i) + x.lease(i) + x.worth(i, i, i) + x.odds(i);
            sum += x.falls(i, i) + x.value(i, i) + x.have(i) + x.mode(i, 0) + x.mean() + x.both(i, 3) + x.with(i, i);
            sum += x.buy(i, 0) + x.swap(i, 0) + x.sure(i, i) + x.cover(i, 0) + x.pepper(i) + x.soothes(i);
            sum += x.game(i, 4, 0) + x.cure() + x.richest(0) + x.likely(0) + x.gains(i, 9) + x.partsIn(9) + x.year(i, 9, 9);
            sum += x.tell(i, i, true) + x.when(i, 1) + x.ask(i) + x.forget() + (x.undo() ? 1 : 0);
            sum += (x.hold(i) ? 1 : 0) + (x.restore(i) ? 1 : 0) + x.count(17) + x.count(19) + x.place();
        }
        sum += x.feed(0x6d696e75, 0x74652034, 0x3b736565, 0x64203132, 0x3b202020) + x.back(2) + x.read() + x.count(0);
        return sum + x.feed(0x6d696e75, 0x74652034, 0x3b3b3b3b, 0, 0) + x.read() + x.place();
    }
}
