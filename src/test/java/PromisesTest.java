/** At least one test for each promise of the document, with answers that were worked out by hand. */
public final class PromisesTest {
    private static final int NO_NUMBER = -100000000;

    /** COUGHS 2, 0, 2, 4 in four MINUTES, so that there are 256 CASES. */
    private static final String FOUR = "minute 2; minute 0; minute 2; minute 5; seed 7;"
            + "family ash 4 2; family bell 0 5; family cole 9 0; lease ash 0; lease bell 2; lease ash 3;"
            + "coughs = matter - sweet + dusty; cures = part * 20 + which;"
            + "worth = if matter < love then 1 else zeal - part + which;";

    private static final Checks CHECKS = new Checks("PromisesTest");

    public static void main(String[] args) {
        newObject();
        feedAndBack();
        readAndPlace();
        minuteFamilyLeaseWorth();
        change();
        let();
        syrupAndDust();
        weeks();
        undo();
        oddsFallsModeMeanBothWith();
        valueHaveBuyRichest();
        swap();
        sureAndCover();
        coverOfSeveral();
        pepperAndSoothes();
        game();
        cure();
        likely();
        gainsPartsInYear();
        tellForgetWhenAsk();
        holdAndRestore();
        count();
        lastPart();
        asItIsNow();
        edges();
        CHECKS.end();
    }

    private static void due(String call, long got, long want) {
        CHECKS.due(call, got, want);
    }

    private static void due(String call, boolean got, boolean want) {
        CHECKS.due(call, got, want);
    }

    // Promise 1
    private static void newObject() {
        CoughParts x = new CoughParts();
        due("new count(0)", x.count(0), 0);
        due("new count(1)", x.count(1), 0);
        due("new count(2)", x.count(2), 0);
        due("new count(3)", x.count(3), 0);
        due("new count(4)", x.count(4), 0);
        due("new count(6)", x.count(6), -2);
        due("new count(16)", x.count(16), 8);
        due("new place()", x.place(), -1);
        due("new undo()", x.undo(), false);
    }

    // Promises 2, 3
    private static void feedAndBack() {
        CoughParts x = new CoughParts();
        Checks.put(x, "minute 3;");
        due("fed", x.count(8), 9);
        due("back(-1)", x.back(-1), -1);
        due("back(10)", x.back(10), -1);
        due("back(lowest)", x.back(Integer.MIN_VALUE), -1);
        due("back(0)", x.back(0), 9);
        due("back(9)", x.back(9), 0);
        int minute = 0x6d696e75;
        int te = 0x74652031;
        int semicolon = 0x3b202020;
        due("feed", x.feed(0x20202020, 0x20202020, minute, te, semicolon), 20);
        due("read", x.read(), 0);
        due("highest byte first", x.minute(0, 0), 1);
        for (int i = 1; i <= 99; i++) {
            due("feed " + i, x.feed(0x20202020, 0x20202020, 0x20202020, 0x20202020, 0x20202020), 20 * i);
        }
        x.back(1);
        due("1979 and 20", x.feed(0, 0, 0, 0, 0), 1999);
        due("1999 and 20", x.feed(0, 0, 0, 0, 0), -1);
        due("nothing came", x.count(8), 1999);
        x.back(18);
        due("1981 and 20", x.feed(0, 0, 0, 0, 0), -1);
        x.back(1);
        due("1980 and 20", x.feed(0, 0, 0, 0, -1), 2000);
        due("2000 and 20", x.feed(0, 0, 0, 0, 0), -1);
        due("a byte of 0", x.read(), 1);
        due("place of the first one", x.place(), 1979);
        due("the tape is empty", x.count(8), 0);
    }

    // Promises 4, 5
    private static void readAndPlace() {
        CoughParts x = Checks.of(FOUR);
        due("place without fault", x.place(), -1);
        x.weeks(3);
        x.tell(0, 0, true);
        x.hold(1);
        Checks.put(x, "minute 1; oh;");
        due("faulty read", x.read(), 1);
        due("its place", x.place(), 10);
        due("tape after it", x.count(8), 0);
        due("minutes stay", x.count(0), 4);
        due("the week stays", x.count(2), 3);
        due("undo stays", x.count(9), 1);
        due("told stays", x.count(10), 1);
        due("slots stay", x.count(11), 1);
        due("good read", Checks.read(x, "minute 1; dust 3; dust 2; syrup 4; syrup 5;"), 0);
        due("place then", x.place(), -1);
        due("minutes", x.count(0), 1);
        due("families", x.count(1), 0);
        due("week 0", x.count(2), 0);
        due("the last dust", x.count(3), 2);
        due("the last syrup", x.count(4), 5);
        due("no coughs", x.count(5), 0);
        due("nothing preached", x.count(6), -2);
        due("nothing to undo", x.count(9), 0);
        due("nothing told", x.count(10), 0);
        due("no slots", x.count(11), 0);
        due("nothing let", x.count(12), 0);
        due("coughs not told", x.minute(0, 1), 1);
        due("empty text", x.read(), 0);
        due("no minutes", x.count(0), 0);
    }

    // Promises 6, 7, 8, 9
    private static void minuteFamilyLeaseWorth() {
        CoughParts x = Checks.of(FOUR);
        int[] matters = {2, 0, 2, 5};
        int[] coughs = {2, 0, 2, 4};
        int[] now = {0, 0, 1, 1};
        for (int minute = 0; minute < 4; minute++) {
            due("matter " + minute, x.minute(minute, 0), matters[minute]);
            due("coughs " + minute, x.minute(minute, 1), coughs[minute]);
            due("this week " + minute, x.minute(minute, 2), now[minute]);
        }
        due("minute(4, 0)", x.minute(4, 0), -1);
        due("minute(-1, 0)", x.minute(-1, 0), -1);
        due("minute(0, 3)", x.minute(0, 3), -1);
        due("minute(0, -1)", x.minute(0, -1), -1);
        int[] ash = {4, 2, 9, 0, 0, 4, 40, -1};
        for (int what = 0; what < 8; what++) {
            due("family 0 " + what, x.family(0, what), ash[what]);
        }
        due("parts of bell", x.family(1, 2), 4);
        due("cures of bell", x.family(1, 6), 21);
        due("cures of cole", x.family(2, 6), 2);
        due("rents of cole", x.family(2, 5), 9);
        due("family(3, 0)", x.family(3, 0), -1);
        due("family(-1, 0)", x.family(-1, 0), -1);
        due("family(0, -1)", x.family(0, -1), -1);
        int[] owners = {0, -2, 1, 0, -2, -2, -2, -2, -1};
        for (int part = 0; part < 9; part++) {
            due("lease " + part, x.lease(part), owners[part]);
        }
        due("lease(-1)", x.lease(-1), -1);
        due("matter loved", x.worth(0, 0, 0), 4);
        due("matter below", x.worth(0, 1, 0), 1);
        due("in part 3", x.worth(0, 3, 3), 1);
        due("in part 5", x.worth(0, 3, 5), 0);
        due("held to 9", x.worth(2, 3, 0), 9);
        due("held to 0", x.worth(1, 3, 7), 0);
        due("worth(3, 0, 0)", x.worth(3, 0, 0), -1);
        due("worth(0, 4, 0)", x.worth(0, 4, 0), -1);
        due("worth(0, 0, 8)", x.worth(0, 0, 8), -1);
        due("worth(0, 0, -1)", x.worth(0, 0, -1), -1);
    }

    // Promise 10
    private static void change() {
        CoughParts x = Checks.of(FOUR);
        due("change(0, 2) alike", x.change(0, 2), false);
        due("change(1, 1)", x.change(1, 1), false);
        due("change(0, 4)", x.change(0, 4), false);
        due("change(-1, 0)", x.change(-1, 0), false);
        due("nothing done", x.count(9), 0);
        due("change(0, 3)", x.change(0, 3), true);
        due("matter of 0", x.minute(0, 0), 5);
        due("matter of 3", x.minute(3, 0), 2);
        due("coughs go with the matter", x.minute(0, 1), 4);
        due("one done", x.count(9), 1);
    }

    // Promise 11
    private static void let() {
        CoughParts x = Checks.of(FOUR);
        due("it is so", x.let(0, 0), false);
        due("nobody's already", x.let(1, -1), false);
        due("no such part", x.let(8, 0), false);
        due("part below 0", x.let(-1, 0), false);
        due("no such family", x.let(1, 3), false);
        due("family -2", x.let(0, -2), false);
        due("nothing done", x.count(9), 0);
        due("let(0, 2)", x.let(0, 2), true);
        due("lease(0)", x.lease(0), 2);
        due("let(2, NONE)", x.let(2, CoughParts.NONE), true);
        due("lease(2)", x.lease(2), -2);
        due("parts of ash", x.family(0, 2), 8);
        due("cures by leases", x.family(0, 6), 20);
    }

    // Promises 12, 13
    private static void syrupAndDust() {
        CoughParts x = Checks.of("syrup 8; dust 1; minute 0; coughs = dusty * 10 + sweet - 8;");
        due("syrup less", x.syrup(false), true);
        due("syrup 7", x.count(4), 7);
        due("dust stays", x.count(3), 1);
        due("syrup more", x.syrup(true), true);
        due("syrup more", x.syrup(true), true);
        due("syrup 9", x.syrup(true), false);
        due("syrup is 9", x.count(4), 9);
        due("dust less", x.dust(false), true);
        due("dust 0", x.dust(false), false);
        due("dust is 0", x.count(3), 0);
        due("law sees both", x.minute(0, 1), 1);
        due("done", x.count(9), 4);
        for (int i = 1; i <= 9; i++) {
            due("dust more", x.dust(true), true);
        }
        due("dust 9", x.dust(true), false);
        due("dust is 9", x.count(3), 9);
        for (int i = 9; i >= 1; i--) {
            due("syrup less", x.syrup(false), true);
        }
        due("syrup 0", x.syrup(false), false);
    }

    // Promise 14
    private static void weeks() {
        CoughParts x = Checks.of(FOUR);
        due("weeks(0)", x.weeks(0), 0);
        due("weeks(0) is no thing done", x.count(9), 0);
        due("weeks(-1)", x.weeks(-1), -1);
        due("weeks(41)", x.weeks(41), -1);
        due("weeks(1)", x.weeks(1), 1);
        due("coughs of it", x.count(5), 12);
        due("parts of it", x.count(6), 2);
        due("ash gained", x.family(0, 3), 9);
        due("ash paid", x.family(0, 4), 4);
        due("cole paid", x.family(2, 4), 9);
        due("weeks(2)", x.weeks(2), 3);
        due("coughs of week 2", x.count(5), 9);
        due("ash gained", x.family(0, 3), 22);
        due("weeks(3)", x.weeks(3), 6);
        due("coughs of week 5", x.count(5), 8);
        due("parts of week 5", x.count(6), 1);
        due("ash gained", x.family(0, 3), 48);
        due("weeks(40)", x.weeks(40), 46);
        due("done", x.count(9), 4);
        CoughParts y = Checks.of("family f 3 0; rents = week * 10 + part; minute 0; lease f 0; worth = week; coughs = week;");
        due("rents now", y.family(0, 5), 1);
        due("three weeks", y.weeks(3), 3);
        due("paid by the weeks as they began", y.family(0, 4), 33);
        due("gained likewise", y.family(0, 3), 3);
        due("rents held to 99", y.weeks(9) * 1000 + y.family(0, 5), 12099);
        due("law of coughs sees the week", y.minute(0, 1), 4);
        due("weeks without families", new CoughParts().weeks(40), 40);
    }

    // Promise 15
    private static void undo() {
        CoughParts x = Checks.of(FOUR);
        x.change(0, 1);
        x.let(1, 2);
        x.syrup(true);
        x.dust(true);
        x.weeks(5);
        due("done", x.count(9), 5);
        due("undo weeks", x.undo(), true);
        due("week", x.count(2), 0);
        due("nothing preached", x.count(6), -2);
        due("no coughs", x.count(5), 0);
        due("nothing paid", x.family(0, 4), 0);
        due("nothing gained", x.count(13), 0);
        due("undo dust", x.undo(), true);
        due("dust", x.count(3) * 10 + x.count(4), 1);
        due("undo syrup", x.undo(), true);
        due("syrup", x.count(4), 0);
        due("undo let", x.undo(), true);
        due("lease", x.lease(1), -2);
        due("undo change", x.undo(), true);
        due("matter", x.minute(0, 0), 2);
        due("none to undo", x.undo(), false);
        for (int i = 1; i <= 43; i++) {
            due("weeks(1)", x.weeks(1), i);
        }
        due("forty can be", x.count(9), 40);
        for (int i = 42; i >= 3; i--) {
            due("undo one week", x.undo(), true);
            due("back in week", x.count(2), i);
        }
        due("forty were", x.undo(), false);
        due("the third week stays", x.count(2), 3);
    }

    // Promises 16, 17, 20, 21, 22, 23
    private static void oddsFallsModeMeanBothWith() {
        CoughParts x = Checks.of(FOUR);
        int[] odds = {0, 64, 128, 64, 0, 0, 0, 0, 0, -1};
        for (int p = 0; p < 10; p++) {
            due("odds " + p, x.odds(p), odds[p]);
        }
        due("odds(-1)", x.odds(-1), -1);
        int[][] falls = {{256, 0, 0}, {128, 128, 0}, {128, 128, 0}, {64, 128, 64}};
        int[][] modes = {{0, 256}, {0, 128}, {0, 128}, {1, 128}};
        for (int minute = 0; minute < 4; minute++) {
            for (int part = 0; part < 8; part++) {
                due("falls " + minute + " " + part, x.falls(minute, part), part < 3 ? falls[minute][part] : 0);
            }
            due("mode " + minute, x.mode(minute, 0), modes[minute][0]);
            due("cases of mode " + minute, x.mode(minute, 1), modes[minute][1]);
        }
        due("falls(4, 0)", x.falls(4, 0), -1);
        due("falls(-1, 0)", x.falls(-1, 0), -1);
        due("falls(0, 8)", x.falls(0, 8), -1);
        due("falls(0, -1)", x.falls(0, -1), -1);
        due("mode(4, 0)", x.mode(4, 0), -1);
        due("mode(0, 2)", x.mode(0, 2), -1);
        due("mean()", x.mean(), 512);
        due("both(0, 1)", x.both(0, 1), 128);
        due("both(1, 2)", x.both(1, 2), 256);
        due("both(3, 0)", x.both(3, 0), 64);
        due("both(1, 3)", x.both(1, 3), 128);
        due("both(3, 3)", x.both(3, 3), 256);
        due("both(0, 4)", x.both(0, 4), -1);
        due("both(-1, 0)", x.both(-1, 0), -1);
        int[][] with = {{0, 128, 0, 64, 64}, {64, 64, 64, 64, 0}, {192, 64, 0, 0, 0}, {256, 0, 0, 0, 0}};
        for (int part = 0; part < 4; part++) {
            for (int much = 0; much < 11; much++) {
                due("with " + part + " " + much, x.with(part, much), much < 5 ? with[part][much] : 0);
            }
        }
        due("with(8, 0)", x.with(8, 0), -1);
        due("with(-1, 0)", x.with(-1, 0), -1);
        due("with(0, -1)", x.with(0, -1), -1);
        due("with(0, 11)", x.with(0, 11), -1);
        x.syrup(true);
        due("as it would be now", x.falls(1, 0), 192);
    }

    // Promises 18, 19, 24, 32
    private static void valueHaveBuyRichest() {
        CoughParts x = Checks.of(FOUR);
        int[][] values = {{1920, 896, 128, 0}, {576, 256, 0, 0}, {5184, 3456, 576, 0}};
        for (int family = 0; family < 3; family++) {
            for (int part = 0; part < 4; part++) {
                due("value " + family + " " + part, x.value(family, part), values[family][part]);
            }
        }
        due("value(3, 0)", x.value(3, 0), -1);
        due("value(0, 8)", x.value(0, 8), -1);
        due("have(0)", x.have(0), 1920);
        due("have(1)", x.have(1), 0);
        due("have(2)", x.have(2), 0);
        due("have(3)", x.have(3), -1);
        due("have(-1)", x.have(-1), -1);
        due("buy which", x.buy(0, 0), 1);
        due("buy how much", x.buy(0, 1), 896);
        due("buy(3, 0)", x.buy(3, 0), -1);
        due("buy(0, 2)", x.buy(0, 2), -1);
        due("richest who", x.richest(0), 0);
        due("richest much", x.richest(1), 1920);
        due("richest(2)", x.richest(2), -1);
        due("richest(-1)", x.richest(-1), -1);
        x.let(1, 2);
        due("richest then", x.richest(0), 2);
        due("he has", x.have(2), 3456);
        due("alike ones: the first", x.buy(0, 0), 4);
        due("worth nothing", x.buy(0, 1), 0);
        for (int part = 4; part < 8; part++) {
            x.let(part, 1);
        }
        due("all are let", x.buy(0, 0), -2);
        due("all are let", x.buy(0, 1), -2);
        due("no such what", x.buy(0, 2), -1);
        CoughParts none = new CoughParts();
        due("no families", none.richest(0), -2);
        due("no families", none.richest(1), -2);
        due("no such what", none.richest(2), -1);
        CoughParts alike = Checks.of("family a 0 0; family b 0 0; minute 1;");
        due("the first of alike ones", alike.richest(0), 0);
    }

    // Promise 25
    private static void swap() {
        CoughParts x = Checks.of(FOUR);
        due("swap which", x.swap(0, 0), 1);
        due("swap much", x.swap(0, 1), 2048);
        due("nothing happens", x.minute(0, 0), 2);
        due("swap(3, 0)", x.swap(3, 0), -1);
        due("swap(0, 2)", x.swap(0, 2), -1);
        due("cole has no lease", x.swap(2, 0), -2);
        due("cole has no lease", x.swap(2, 1), -2);
        CoughParts y = Checks.of("minute 1; minute 0; minute 3; minute 3; family f 0 0; lease f 1;"
                + "coughs = if now < 1 then 4 else if now < 2 then 4 else 0; worth = matter;");
        due("of alike ones the first", y.swap(0, 0), 12);
        due("how much then", y.swap(0, 1), 3 * 256);
    }

    // Promises 26, 27
    private static void sureAndCover() {
        CoughParts x = Checks.of(FOUR);
        due("sure(0, 2)", x.sure(0, 2), 1);
        due("sure(0, 0)", x.sure(0, 0), 0);
        due("sure(0, 1)", x.sure(0, 1), 0);
        due("sure(2, 2)", x.sure(2, 2), 0);
        due("sure(3, 0)", x.sure(3, 0), -1);
        due("sure(0, 6)", x.sure(0, 6), -1);
        due("sure(0, -1)", x.sure(0, -1), -1);
        x.let(1, 0);
        due("with one more lease", x.sure(0, 0), 1);
        int[][] cover = {{2, 3}, {-2, -2}, {1, 1}, {-2, -2}, {-2, -2}, {3, 7}, {-1, -1}};
        for (int matter = 0; matter < 7; matter++) {
            due("cover of " + matter, x.cover(matter, 0), cover[matter][0]);
            due("covers " + matter, x.cover(matter, 1), cover[matter][1]);
        }
        due("cover(-1, 0)", x.cover(-1, 0), -1);
        due("cover(0, 2)", x.cover(0, 2), -1);
        due("cover(1, 2)", x.cover(1, 2), -1);
        due("without minutes", Checks.of("family f 0 0; lease f 0;").sure(0, 0), 0);
    }

    /** The MINUTES 1 and 3 are on it: in PARTS 0 and 0, 0 and 1, 1 and 1, 1 and 2, so that 0 and 1 are needed. */
    private static void coverOfSeveral() {
        CoughParts x = Checks.of("minute 2; minute 1; minute 2; minute 1; family f 0 0; lease f 0; lease f 1; coughs = matter;");
        due("cover how many", x.cover(1, 0), 2);
        due("cover which", x.cover(1, 1), 3);
        due("sure", x.sure(0, 1), 1);
        CoughParts y = Checks.of("minute 0; minute 1; minute 1; coughs = if now < 1 then 4 else 2;");
        due("part 1 alone", y.cover(1, 0), 1);
        due("its bits", y.cover(1, 1), 2);
    }

    // Promises 28, 29
    private static void pepperAndSoothes() {
        CoughParts x = Checks.of(FOUR);
        due("pepper(0)", x.pepper(0), -556);
        due("soothes(0)", x.soothes(0), 640);
        due("pepper(3)", x.pepper(3), NO_NUMBER);
        due("pepper(-1)", x.pepper(-1), NO_NUMBER);
        due("soothes(3)", x.soothes(3), NO_NUMBER);
        due("no dust came", x.count(3), 0);
        CoughParts y = Checks.of("dust 9; syrup 8; minute 0; family f 0 0; lease f 0; worth = dusty - sweet;");
        due("9 of dust", y.pepper(0), 0);
        due("less worth", y.soothes(0), -4);
        y.syrup(true);
        due("9 of syrup", y.soothes(0), 0);
        y.dust(false);
        due("8 of dust", y.pepper(0), 0);
    }

    // Promise 30
    private static void game() {
        String both = "minute 0; minute 0; family a 0 0; family b 0 0; lease a 1; lease b 0; dust 5; coughs = dusty + sweet - 5;";
        CoughParts x = Checks.of(both);
        due("a blows", x.game(0, 1, 0), 3);
        due("b gives none", x.game(0, 1, 1), 0);
        due("a has", x.game(0, 1, 2), 12);
        due("b blows none", x.game(1, 0, 0), 0);
        due("a gives", x.game(1, 0, 1), 3);
        due("b has", x.game(1, 0, 2), 20);
        due("nothing happens", x.count(3) * 10 + x.count(4), 50);
        due("one and the same", x.game(0, 0, 0), -1);
        due("game(0, 2, 0)", x.game(0, 2, 0), -1);
        due("game(-1, 0, 0)", x.game(-1, 0, 0), -1);
        due("game(0, 1, 3)", x.game(0, 1, 3), -1);
        due("game(0, 1, -1)", x.game(0, 1, -1), -1);
        CoughParts y = Checks.of(both + "dust 8; syrup 9; coughs = dusty - 5;");
        due("9 of dust at most", y.game(0, 1, 0), 1);
        due("no more syrup", y.game(0, 1, 1), 0);
        due("a has all of the other minute", y.game(0, 1, 2), 16);
        CoughParts z = Checks.of(both + "dust 0; coughs = dusty - sweet;");
        due("b undoes it all: least dust", z.game(0, 1, 0), 0);
        due("least syrup", z.game(0, 1, 1), 0);
        due("a has nothing", z.game(0, 1, 2), 0);
    }

    // Promise 31
    private static void cure() {
        CoughParts x = Checks.of(FOUR);
        due("all of them", x.cure(), 7);
        due("7.5 is not less than 7", Checks.of(FOUR + "cures = 7;").cure(), 6);
        due("7.5 is 7, less than 8", Checks.of(FOUR + "cures = 8;").cure(), 7);
        due("not told", Checks.of("minute 1; family f 1 1;").cure(), 0);
        due("held to 99", Checks.of("family f 1 1; cures = 100;").family(0, 6), 99);
    }

    // Promise 33
    private static void likely() {
        CoughParts x = Checks.of(FOUR);
        due("likely which", x.likely(0), 8);
        due("likely cases", x.likely(1), 64);
        due("likely(2)", x.likely(2), -1);
        due("likely(-1)", x.likely(-1), -1);
        x.dust(true);
        due("3, 1, 3, 4 quarters", x.likely(0), 13);
        due("of 256 cases", x.likely(1), 108);
    }

    // Promises 34, 35, 36
    private static void gainsPartsInYear() {
        CoughParts x = Checks.of(FOUR);
        int[] ash = {0, 5, 10, 10, 10, 15, 24};
        int[] parts = {-2, 2, 2, 2, 2, 2, 1};
        for (int n = 0; n < 7; n++) {
            due("gains of " + n, x.gains(0, n), ash[n]);
            due("parts in " + n, x.partsIn(n), parts[n]);
            due("cole only pays", x.gains(2, n), -9 * n);
        }
        due("nothing happens", x.count(2), 0);
        due("gains(3, 1)", x.gains(3, 1), NO_NUMBER);
        due("gains(-1, 1)", x.gains(-1, 1), NO_NUMBER);
        due("gains(0, -1)", x.gains(0, -1), NO_NUMBER);
        due("gains(0, 41)", x.gains(0, 41), NO_NUMBER);
        due("partsIn(-1)", x.partsIn(-1), -1);
        due("partsIn(41)", x.partsIn(41), -1);
        due("year of 0 weeks", x.year(0, 0, 20), 0);
        due("year(0, 1, 1)", x.year(0, 1, 1), 1);
        due("year(0, 1, 3)", x.year(0, 1, 3), 2);
        due("year(0, 1, 20)", x.year(0, 1, 20), 11);
        due("year(0, 2, 20)", x.year(0, 2, 20), 12);
        due("cole never", x.year(2, 3, 20), 0);
        due("bell neither gains nor pays", x.year(1, 3, 20), 0);
        due("year(3, 1, 1)", x.year(3, 1, 1), -1);
        due("year(0, 41, 1)", x.year(0, 41, 1), -1);
        due("year(0, -1, 1)", x.year(0, -1, 1), -1);
        due("year(0, 1, 0)", x.year(0, 1, 0), -1);
        due("year(0, 1, 21)", x.year(0, 1, 21), -1);
        x.weeks(2);
        due("the week's parts", x.partsIn(0), 2);
        due("from week 2 on", x.gains(0, 4), 14);
        due("what was gained so far counts", x.year(0, 0, 5), 5);
        CoughParts y = Checks.of(FOUR + "seed 9999;");
        due("just as much as paid", y.year(0, 1, 1), 0);
        due("seeds go on beyond 9999", y.year(0, 1, 2), 1);
    }

    // Promises 37, 38, 39, 40
    private static void tellForgetWhenAsk() {
        CoughParts x = Checks.of(FOUR);
        dueWhen(x, 0, 4, 8, 8, 2);
        due("ask(0)", x.ask(0), 0);
        due("tell", x.tell(3, 1, true), 0);
        dueWhen(x, 1, 2, 9, 8, 2);
        due("tell", x.tell(2, 1, false), 1);
        dueWhen(x, 2, 1, 12, 12, 3);
        due("ask(2)", x.ask(2), 0);
        due("tell", x.tell(0, 3, true), 2);
        dueWhen(x, 3, 0, -2, -2, -2);
        due("ask(3)", x.ask(3), -2);
        dueWhen(x, 1, 2, 9, 8, 2);
        due("when(4, 0)", x.when(4, 0), -1);
        due("when(-1, 0)", x.when(-1, 0), -1);
        due("when(0, 4)", x.when(0, 4), -1);
        due("when(3, 4)", x.when(3, 4), -1);
        due("when(0, -1)", x.when(0, -1), -1);
        due("ask(4)", x.ask(4), -1);
        due("ask(-1)", x.ask(-1), -1);
        due("tell(4, 0)", x.tell(4, 0, true), -1);
        due("tell(-1, 0)", x.tell(-1, 0, true), -1);
        due("tell(0, 8)", x.tell(0, 8, false), -1);
        due("tell(0, -1)", x.tell(0, -1, false), -1);
        due("told", x.count(10), 3);
        for (int i = 3; i < 20; i++) {
            due("tell " + i, x.tell(0, 0, true), i);
        }
        due("a 21st", x.tell(0, 0, true), -1);
        due("when(20, 0)", x.when(20, 0), 0);
        due("forget", x.forget(), 20);
        due("forget again", x.forget(), 0);
        due("told", x.count(10), 0);
        due("ask(1) when none is told", x.ask(1), -1);
        x.dust(true);
        due("sets as it would be now", x.when(0, 0), 8);
        CoughParts y = Checks.of("minute 0; minute 0; minute 0; coughs = now;");
        due("not of a minute that is sure", y.ask(0), 1);
        due("no minutes", new CoughParts().ask(0), -2);
        due("no minutes", new CoughParts().when(0, 0), 1);
    }

    private static void dueWhen(CoughParts x, int k, int many, int least, int inAll, int inNone) {
        due("how many by " + k, x.when(k, 0), many);
        due("least by " + k, x.when(k, 1), least);
        due("in all by " + k, x.when(k, 2), inAll);
        due("in none by " + k, x.when(k, 3), inNone);
    }

    // Promises 41, 42
    private static void holdAndRestore() {
        CoughParts x = Checks.of(FOUR);
        due("hold(3)", x.hold(3), false);
        due("hold(-1)", x.hold(-1), false);
        due("nothing is held", x.restore(0), false);
        due("restore(3)", x.restore(3), false);
        due("restore(-1)", x.restore(-1), false);
        x.weeks(2);
        x.dust(true);
        due("hold(2)", x.hold(2), true);
        due("hold is nothing done", x.count(9), 2);
        due("slots", x.count(11), 1);
        x.weeks(3);
        x.change(0, 1);
        x.let(0, -1);
        x.syrup(true);
        x.tell(1, 1, true);
        Checks.put(x, "minute");
        due("nothing in slot 1", x.restore(1), false);
        due("that did nothing", x.count(9), 6);
        for (int i = 0; i < 2; i++) {
            due("restore(2)", x.restore(2), true);
            due("week", x.count(2), 2);
            due("dust", x.count(3), 1);
            due("syrup", x.count(4), 0);
            due("matter", x.minute(0, 0), 2);
            due("lease", x.lease(0), 0);
            due("coughs", x.count(5), 12);
            due("gained", x.family(0, 3), 18);
            due("paid", x.family(0, 4), 8);
            due("told stays", x.count(10), 1);
            due("the tape stays", x.count(8), 6);
            due("nothing to undo", x.undo(), false);
            due("it stays held", x.count(11), 1);
            x.weeks(40);
        }
        due("hold(2) anew", x.hold(2), true);
        x.undo();
        due("restore(2)", x.restore(2), true);
        due("week held then", x.count(2), 42);
    }

    // Promise 43
    private static void count() {
        CoughParts x = Checks.of(FOUR + "dust 2; family dew 1 1; lease cole 7; syrup 1;");
        x.weeks(1);
        x.hold(0);
        x.hold(2);
        x.tell(0, 0, true);
        Checks.put(x, "seed 4;");
        int[] counts = {4, 4, 1, 2, 1, 0, 0, 256, 7, 1, 1, 2, 141, 0, 14, 37, 4, 8, 11, 8, 14, -1};
        counts[5] = coughsBy(3, 1, 3, 4);
        counts[6] = Integer.bitCount(counts[5] & 7) + 1;
        counts[13] = x.family(0, 3) + x.family(1, 3) + x.family(2, 3) + x.family(3, 3);
        for (int what = 0; what < counts.length; what++) {
            due("count " + what, x.count(what), counts[what]);
        }
        due("count(-1)", x.count(-1), -1);
        due("there was a gain", x.count(13) > 0, true);
        due("of a new object", new CoughParts().count(7), 1);
    }

    /** The lots of SEED 7 in week 0 are 3, 0, 0, 0. */
    private static int coughsBy(int... quarters) {
        int[] lots = {3, 0, 0, 0};
        int set = 0;
        for (int i = 0; i < quarters.length; i++) {
            set |= lots[i] < quarters[i] ? 1 << i : 0;
        }
        return set;
    }

    /** Ten MINUTES with a cough behind each: the last three are all in PART 7. */
    private static void lastPart() {
        CoughParts x = Checks.of("minute 0;".repeat(10) + "coughs = 5; family f 9 0; lease f 7; worth = 3; rents = zeal - 10;");
        due("cases", x.count(7), 1 << 20);
        due("odds(8)", x.odds(8), 1 << 20);
        due("mean", x.mean(), 8 << 20);
        due("falls(7, 7)", x.falls(7, 7), 1 << 20);
        due("falls(9, 7)", x.falls(9, 7), 1 << 20);
        due("both(7, 9)", x.both(7, 9), 1 << 20);
        due("both(6, 7)", x.both(6, 7), 0);
        due("with(7, 3)", x.with(7, 3), 1 << 20);
        due("have", x.have(0), 9 << 20);
        due("rents held to 0", x.family(0, 5), 0);
        x.weeks(1);
        due("gained", x.family(0, 3), 9);
        due("parts", x.count(6), 8);
        due("coughs", x.count(5), 1023);
        due("surely", x.count(17), 1023);
        due("coughs held to 4", x.count(18), 40);
    }

    /** Each question is asked first of all behind a change, so that nothing is answered as it was before. */
    private static void asItIsNow() {
        CoughParts x = Checks.of(FOUR);
        x.syrup(true);
        due("mean", x.mean(), 256 + 64 + 64);
        x.undo();
        due("both", x.both(0, 1), 128);
        x.syrup(true);
        due("with", x.with(0, 4), 144);
        x.undo();
        due("buy", x.buy(0, 1), 896);
        x.syrup(true);
        due("richest", x.richest(1), 2560);
        x.undo();
        due("mode", x.mode(1, 1), 128);
        x.syrup(true);
        due("odds", x.odds(1), 144);
        x.undo();
        due("falls", x.falls(3, 0), 64);
        x.syrup(true);
        due("value", x.value(0, 0), 2560);
        x.undo();
        due("cure", Checks.of(FOUR + "cures = 8; syrup 1;").cure(), 6);
        x.dust(true);
        due("cover", x.cover(5, 1), 15);
        x.undo();
        due("when", x.when(0, 0), 4);
        x.change(0, 1);
        due("sure", x.sure(0, 0), 1);
        due("likely", x.likely(0), 8);
    }

    private static void edges() {
        CoughParts none = new CoughParts();
        due("odds(0) of nothing", none.odds(0), 1);
        due("odds(1) of nothing", none.odds(1), 0);
        due("with nothing", none.with(3, 0), 1);
        none.weeks(1);
        due("parts of nothing", none.count(6), 0);
        CoughParts two = Checks.of("minute 1; minute 3; coughs = 2; family a 0 0; family b 0 0; family c 0 0; lease b 0; rents = which;");
        due("seed 0 if not told", two.minute(0, 2) * 10 + two.minute(1, 2), 1);
        due("matters", two.count(15), 10);
        due("families without a lease", two.count(19), 5);
        two.weeks(1);
        due("b gained", two.family(1, 3), 2);
        due("a gained", two.family(0, 3), 0);
        due("c paid", two.family(2, 4), 2);
        due("one more gained than paid", two.year(1, 0, 1), 1);
        two.hold(0);
        due("slot 0", two.restore(0), true);
        Checks.read(two, "minute 1; minute 1; family a 0 0; coughs = 4;");
        due("slot 0 is empty then", two.restore(0), false);
        due("slots", two.count(11), 0);
        due("of as many the least bits", two.cover(1, 1), 1);
        due("buys part 0", two.buy(0, 0), 0);
        Checks.read(two, "minute 1; minute 1; coughs = 0;");
        due("no cough at all", two.with(1, 0), 16);
        due("all in part 0", two.with(0, 2), 16);
        CoughParts game = Checks.of("minute 0; minute 0; family a 0 0; family b 0 0; lease a 1; lease b 0; dust 8; coughs = dusty - 8;");
        due("dust is 9 at most", game.game(0, 1, 2), 4);
        due("syrup is not asked for", game.game(0, 1, 1), 0);
        CoughParts ten = Checks.of("minute 0;".repeat(10) + "coughs = if now < 6 then 4 else 2;");
        due("both in part 7, or no cough", ten.both(7, 8), 3 << 18);
        due("mode of the last minute", ten.mode(9, 0), 7);
        due("its cases", ten.mode(9, 1), 7 << 17);
        due("mode of the one behind the sure ones", ten.mode(6, 0), 6);
        due("mode of the first minute", ten.mode(0, 0), 0);
        due("sets", ten.when(0, 0), 16);
        due("ask", ten.ask(0), 6);
    }
}
