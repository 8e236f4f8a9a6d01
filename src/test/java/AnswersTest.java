/** Terms III and IV with promises 16 to 43: what is answered at the edges, of alike ones, of none, empty and full. */
public final class AnswersTest {
    private static final Checks CHECKS = new Checks("AnswersTest");
    private static final int NO_NUMBER = -100000000;
    private static final String TEN = "minute 0;".repeat(10);
    private static final String FIVE = "family a 0 0;family b 0 0;family c 0 0;family d 0 0;family e 0 0;";
    private static final int ALL = 1 << 20;

    public static void main(String[] args) {
        odds();
        falls();
        value();
        have();
        mode();
        meanBothWith();
        buy();
        swapOfAlikeOnes();
        swapOfNone();
        sure();
        cover();
        pepperAndSoothes();
        gameUpToNine();
        gameOfAlikeOnes();
        gameIsPlayedInTurn();
        cure();
        richest();
        likely();
        gains();
        partsIn();
        year();
        told();
        knownByTheFirst();
        when();
        ask();
        counts();
        countsOfNone();
        bytesInTheirOrder();
        CHECKS.end();
    }

    private static void due(String call, long got, long want) {
        CHECKS.due(call, got, want);
    }

    // "ODDS of p (0 .. 8): in how many CASES there are p PARTS"
    private static void odds() {
        CoughParts none = new CoughParts();
        CoughParts seven = Checks.of("minute 0;".repeat(7) + "coughs=4;");
        CoughParts eight = Checks.of("minute 0;".repeat(8) + "coughs=4;");
        CoughParts ten = Checks.of(TEN + "coughs=if now<8 then 4 else 2;");
        CoughParts half = Checks.of(TEN + "coughs=if now<6 then 4 else if now<7 then 1 else 0;");
        for (int p = 0; p <= 8; p++) {
            due("odds(" + p + ") of no minutes", none.odds(p), p == 0 ? 1 : 0);
            due("odds(" + p + ") of seven", seven.odds(p), p == 7 ? 1 << 14 : 0);
            due("odds(" + p + ") of eight", eight.odds(p), p == 8 ? 1 << 16 : 0);
            due("odds(" + p + ") of ten", ten.odds(p), p == 8 ? ALL : 0);
            due("odds(" + p + ") of 7 or 8", half.odds(p), p == 7 ? ALL / 4 * 3 : p == 8 ? ALL / 4 : 0);
        }
    }

    // "FALLS of a MINUTE in a PART: in how many CASES it does"
    private static void falls() {
        CoughParts x = Checks.of(TEN + "coughs=if now<9 then 2 else 4;");
        int[] ways = {1, 9, 36, 84, 126, 126, 84, 36 + 9 + 1};
        for (int part = 0; part < 8; part++) {
            due("falls(9, " + part + ")", x.falls(9, part), ways[part] * (ALL >> 9));
            due("falls(0, " + part + ")", x.falls(0, part), part == 0 ? ALL : 0);
        }
    }

    // "VALUE of a PART to a FAMILY, were it theirs"
    private static void value() {
        CoughParts x = Checks.of(TEN + FIVE + "lease a 0;lease b 0001;coughs=0;worth=9+which;");
        due("the most there is, theirs", x.value(0, 0), 90 * ALL);
        due("another's", x.value(4, 0), 90 * ALL);
        due("nobody's, no minute in it", x.value(4, 7), 0);
        CoughParts y = Checks.of("minute 0;minute 0;family a 0 0;coughs=4;worth=part+1;");
        due("worth by the part's number", y.value(0, 0) * 100 + y.value(0, 1), 16 * 100 + 32);
        due("value of no minutes", Checks.of("family a 1 1;lease a 0;").value(0, 0), 0);
    }

    // "HAVE of a FAMILY: VALUES of all PARTS that are theirs, added"
    private static void have() {
        CoughParts x = Checks.of(TEN + "family a 0 0;family b 0 0;lease a 0;lease a 1;lease a 2;lease a 3;lease a 4;lease a 5;"
                + "lease a 6;lease a 7;coughs=3;worth=9;");
        due("all parts", x.have(0), 90 * ALL);
        due("no lease", x.have(1), 0);
        due("all parts, one by one", valuesOf(x), 90 * ALL);
    }

    private static int valuesOf(CoughParts x) {
        int sum = 0;
        for (int part = 0; part < 8; part++) {
            sum += x.value(0, part);
        }
        return sum;
    }

    // "MODE of a MINUTE: the PART in which it is in most CASES, of alike ones the least"
    private static void mode() {
        CoughParts x = Checks.of("minute 0;minute 0;minute 0;minute 0;coughs=if now<1 then 4 else 2;");
        int[][] modes = {{0, 256}, {1, 256}, {1, 128}, {2, 128}};
        for (int minute = 0; minute < 4; minute++) {
            due("mode of " + minute, x.mode(minute, 0), modes[minute][0]);
            due("cases of it", x.mode(minute, 1), modes[minute][1]);
        }
        CoughParts y = Checks.of(TEN + "coughs=if now<7 then 4 else 2;");
        due("mode in part 7", y.mode(9, 0), 7);
        due("cases of it", y.mode(9, 1), ALL);
        CoughParts z = Checks.of(TEN + "coughs=if now<6 then 4 else if now<7 then 2 else 0;");
        due("6 and 7 are alike", z.mode(7, 0), 6);
        due("cases of it", z.mode(7, 1), ALL / 2);
    }

    // "MEAN: PARTS of all CASES, added. BOTH .. EMPTY, SINGLE", "likewise with so many (much 0 .. 10)"
    private static void meanBothWith() {
        CoughParts one = Checks.of(TEN + "coughs=0;");
        due("mean of one part", one.mean(), ALL);
        due("mean of eight", Checks.of(TEN + "coughs=4;").mean(), 8 * ALL);
        due("all of them together", one.both(0, 9), ALL);
        due("all ten in part 0", one.with(0, 10), ALL);
        due("nine in part 0", one.with(0, 9), 0);
        due("none in part 0", one.with(0, 0), 0);
        due("none in part 7", one.with(7, 0), ALL);
        due("ten in part 7", one.with(7, 10), 0);
        CoughParts x = Checks.of(TEN + "coughs=if now<6 then 4 else 2;");
        due("both(6, 7): he does not cough", x.both(6, 7), ALL / 2);
        due("both(7, 8): he does not, or it is part 7", x.both(7, 8), ALL / 4 * 3);
        due("both(9, 7)", x.both(9, 7), ALL / 8 * 5);
        due("both(5, 5)", x.both(5, 5), ALL);
        int[] with = {ALL / 8, ALL / 8, ALL / 4, ALL / 2};
        for (int much = 0; much <= 10; much++) {
            due("with(7, " + much + ")", x.with(7, much), much < 4 ? with[much] : 0);
        }
        due("single", x.with(5, 1), ALL);
        CoughParts none = new CoughParts();
        for (int part = 0; part < 8; part++) {
            due("no minutes: empty", none.with(part, 0), 1);
            due("no minutes: not single", none.with(part, 1), 0);
        }
    }

    // "BUY of a FAMILY: the PART that is nobody's with most VALUE to them, of alike ones the first", "-2: all are let"
    private static void buy() {
        String eight = "minute 0;".repeat(8) + "family a 0 0;family b 0 0;coughs=4;";
        CoughParts x = Checks.of(eight);
        due("all alike", x.buy(0, 0) * 100000 + x.buy(0, 1), 65536);
        CoughParts y = Checks.of(eight + "worth=part;");
        due("the last part", y.buy(0, 0), 7);
        due("how much", y.buy(0, 1), 7 * 65536);
        y.let(7, 0);
        due("not what is theirs", y.buy(0, 0), 6);
        y.let(6, 1);
        due("not what is another's", y.buy(0, 0), 5);
        CoughParts z = Checks.of(eight + "worth=0;lease a 0;lease b 1;");
        due("worth nothing, the first", z.buy(0, 0), 2);
        due("worth nothing", z.buy(0, 1), 0);
        for (int part = 2; part < 7; part++) {
            z.let(part, 0);
        }
        due("only the last is nobody's", z.buy(1, 0) * 10 + z.buy(1, 1), 70);
        z.let(7, 1);
        due("all are let: which", z.buy(1, 0), -2);
        due("all are let: how much", z.buy(1, 1), -2);
        z.let(0, -1);
        due("the first is nobody's", z.buy(1, 0), 0);
        due("no minutes", Checks.of("family f 0 0;").buy(0, 0), 0);
    }

    // "SWAP .. most, more than now, of alike ones the first", "10 * the lesser + the other"
    private static void swapOfAlikeOnes() {
        CoughParts x = Checks.of("minute 0;minute 3;minute 3;family f 0 0;lease f 0;coughs=4;worth=matter;");
        due("0 and 1, 0 and 2", x.swap(0, 0), 1);
        due("how much", x.swap(0, 1), 3 * 64);
        CoughParts y = Checks.of("minute 0;minute 1;minute 2;minute 3;family f 0 0;lease f 0;coughs=0;"
                + "worth=if now+matter<3 then 0 else if 3<now+matter then 0 else if 1<now then 0 else 5;");
        due("0 and 3, 1 and 2", y.swap(0, 0), 3);
        due("how much", y.swap(0, 1), 5 * 256);
        CoughParts z = Checks.of("minute 1;".repeat(8) + "minute 5;minute 4;family f 0 0;lease f 0;coughs=0;worth=matter*(now-8);");
        due("8 and 9", z.swap(0, 0), 89);
        due("how much", z.swap(0, 1), 5 * ALL);
        due("nothing happens", z.minute(8, 0) * 10 + z.minute(9, 0), 54);
        z.change(8, 9);
        due("none then", z.swap(0, 0), -2);
        CoughParts coughs = Checks.of("minute 4;minute 0;family f 0 0;lease f 0;coughs=matter;");
        due("by coughs that go with the matter", coughs.swap(0, 0), 1);
        due("how much", coughs.swap(0, 1), 32);
    }

    // "-2: none"
    private static void swapOfNone() {
        String two = "family f 0 0;family g 0 0;lease f 0;coughs=0;";
        String[] texts = {two, two + "minute 3;", two + "minute 3;minute 3;", two + "minute 3;minute 4;",
            two + "minute 3;minute 4;worth=if now<1 then 4-matter else 0;"};
        for (String text : texts) {
            CoughParts x = Checks.of(text);
            due("which of '" + text + "'", x.swap(0, 0), -2);
            due("how much of '" + text + "'", x.swap(0, 1), -2);
            due("without a lease", x.swap(1, 0), -2);
        }
    }

    // "SURE: whether a FAMILY has, in each CASE, a MINUTE on a MATTER in a PART that is theirs"
    private static void sure() {
        CoughParts none = Checks.of("family f 0 0;lease f 0;");
        CoughParts all = Checks.of("minute 5;minute 0;family f 0 0;family g 0 0;lease f 0;lease f 1;lease f 2;lease f 3;lease f 4;"
                + "lease f 5;lease f 6;lease f 7;coughs=2;");
        for (int matter = 0; matter <= 5; matter++) {
            due("no minutes, matter " + matter, none.sure(0, matter), 0);
            due("all parts, matter " + matter, all.sure(0, matter), matter == 0 || matter == 5 ? 1 : 0);
            due("no lease, matter " + matter, all.sure(1, matter), 0);
        }
        all.let(1, -1);
        due("not in each case", all.sure(0, 0), 0);
        due("in each case still", all.sure(0, 5), 1);
        String one = "minute 1;".repeat(9) + "minute 2;family f 0 0;lease f 7;";
        CoughParts nearly = Checks.of(one + "coughs=if now<6 then 4 else if now<7 then 3 else 0;");
        due("in 7, or in 6 in one of four cases", nearly.sure(0, 2), 0);
        due("in 7 in all cases", Checks.of(one + "coughs=if now<7 then 4 else 1;").sure(0, 2), 1);
    }

    // "COVER of a MATTER: the fewest PARTS (0 .. 7) such that in each CASE ..; which, of as many the least bits",
    // "-2: no MINUTE is on it"
    private static void cover() {
        CoughParts all = Checks.of("minute 1;".repeat(9) + "minute 2;coughs=2;");
        due("all eight", all.cover(2, 0), 8);
        due("their bits", all.cover(2, 1), 255);
        due("the first minute's part", all.cover(1, 0) * 1000 + all.cover(1, 1), 1001);
        due("no minute on it", all.cover(0, 0), -2);
        due("no minute on it", all.cover(5, 1), -2);
        CoughParts fewest = Checks.of("minute 1;minute 2;" + "minute 1;".repeat(7) + "minute 2;"
                + "coughs=if now<1 then 2 else 4;");
        due("one part, not 0 and 1", fewest.cover(2, 0), 1);
        due("part 7", fewest.cover(2, 1), 128);
        CoughParts least = Checks.of("minute 1;minute 2;minute 2;minute 2;coughs=4;");
        due("1, 2 and 3 would do", least.cover(2, 0), 1);
        due("the least bits", least.cover(2, 1), 2);
        CoughParts never = Checks.of("minute 1;minute 2;minute 2;family f 0 0;lease f 0;coughs=now;");
        due("no cough behind the first", never.cover(2, 0) * 10 + never.cover(2, 1), 11);
        due("so it is sure", never.sure(0, 2), 1);
        CoughParts alone = Checks.of("minute 5;");
        due("one minute", alone.cover(5, 0) * 10 + alone.cover(5, 1), 11);
        alone.weeks(1);
        due("it goes by the minutes now", alone.cover(4, 0), -2);
    }

    // "PEPPER .. were DUST 1 more, less what they HAVE now" "(may be below 0; 9 of DUST are there: 0)", SOOTHES likewise
    private static void pepperAndSoothes() {
        String text = "minute 0;minute 0;family f 0 0;family g 0 0;lease f 0;lease g 1;coughs=dusty-sweet;worth=dusty+1;";
        for (int dust = 0; dust <= 9; dust++) {
            CoughParts x = Checks.of(text + "dust " + dust + ";");
            due("pepper at " + dust, x.pepper(0), dust == 9 ? 0 : haveOfFirst(dust + 1) - haveOfFirst(dust));
            due("what f has at " + dust, x.have(0), haveOfFirst(dust));
            due("pepper of the other", x.pepper(1), dust == 9 ? 0 : haveOfOther(dust + 1) - haveOfOther(dust));
            due("dust stays", x.count(3), dust);
        }
        for (int syrup = 0; syrup <= 9; syrup++) {
            CoughParts x = Checks.of("minute 0;family f 0 0;family g 0 0;lease f 0;worth=9-sweet;syrup " + syrup + ";");
            due("soothes at " + syrup, x.soothes(0), syrup == 9 ? 0 : -4);
            due("soothes without a lease", x.soothes(1), 0);
            due("pepper does nothing here", x.pepper(0), 0);
            due("syrup stays", x.count(4), syrup);
        }
        CoughParts most = Checks.of(TEN + "family f 0 0;lease f 0;coughs=0;worth=9-dusty*9;");
        due("the most that can be lost", most.pepper(0), -90 * ALL);
        CoughParts none = new CoughParts();
        due("no families", none.pepper(0), NO_NUMBER);
        due("no families", none.soothes(0), NO_NUMBER);
    }

    private static int haveOfFirst(int dust) {
        int quarters = Math.min(4, dust);
        return Math.min(9, dust + 1) * (16 + 4 * (4 - quarters));
    }

    private static int haveOfOther(int dust) {
        return Math.min(9, dust + 1) * 4 * Math.min(4, dust);
    }

    // "DUST of its choice (0 .. 3 more, 9 at most), then the other gives SYRUP of its choice (likewise)"
    private static void gameUpToNine() {
        for (int there = 0; there <= 9; there++) {
            int more = Math.min(3, 9 - there);
            CoughParts x = Checks.of("minute 0;family a 0 0;family b 0 0;lease a 0;worth=dusty;dust " + there + ";");
            due("dust at " + there, x.game(0, 1, 0), more);
            due("syrup at 0, to no use", x.game(0, 1, 1), 0);
            due("what a has at " + there, x.game(0, 1, 2), 4 * (there + more));
            CoughParts y = Checks.of("minute 0;family a 0 0;family b 0 0;lease b 0;worth=sweet;syrup " + there + ";");
            due("dust to no use", y.game(0, 1, 0), 0);
            due("syrup at " + there, y.game(0, 1, 1), more);
            due("a has nothing", y.game(0, 1, 2), 0);
            due("b blows nothing", y.game(1, 0, 0), 0);
            due("a gives nothing", y.game(1, 0, 1), 0);
            due("b has", y.game(1, 0, 2), 4 * there);
        }
    }

    // "of alike ones the least"
    private static void gameOfAlikeOnes() {
        String two = "minute 0;family a 0 0;family b 0 0;coughs=0;";
        for (int most = 0; most <= 3; most++) {
            String upTo = "if " + most + "<V then " + most + " else V";
            CoughParts x = Checks.of(two + "lease a 0;worth=" + upTo.replace("V", "dusty") + ";");
            due("no more dust than is of use", x.game(0, 1, 0), most);
            due("what a has", x.game(0, 1, 2), 4 * most);
            CoughParts y = Checks.of(two + "lease b 0;worth=" + upTo.replace("V", "sweet") + ";");
            due("no more syrup than is of use", y.game(0, 1, 1), most);
            CoughParts less = Checks.of(two + "lease a 0;worth=" + most + "-dusty;");
            due("none that takes away", less.game(0, 1, 0), 0);
        }
        CoughParts middle = Checks.of(two + "lease a 0;worth=(dusty-2)*(2-dusty)+5;");
        due("the best in the middle", middle.game(0, 1, 0) * 100 + middle.game(0, 1, 2), 220);
        CoughParts ends = Checks.of(two + "lease a 0;worth=(dusty*2-3)*(dusty*2-3);");
        due("0 and 3 are alike", ends.game(0, 1, 0) * 100 + ends.game(0, 1, 2), 36);
    }

    /** What the other answers to each DUST is for the other's own good, and the first knows it. */
    private static void gameIsPlayedInTurn() {
        CoughParts x = Checks.of("minute 0;minute 0;family a 0 0;family b 0 0;lease a 0;lease b 1;coughs=4;"
                + "worth=if which<1 then dusty*3-sweet*3 else sweet*dusty;");
        due("a blows none, lest b gives", x.game(0, 1, 0), 0);
        due("b gives none then", x.game(0, 1, 1), 0);
        due("a has", x.game(0, 1, 2), 0);
        CoughParts y = Checks.of("minute 0;minute 0;family a 0 0;family b 0 0;lease a 0;lease b 1;coughs=4;"
                + "worth=if which<1 then dusty*2-sweet else if dusty<2 then sweet else 0-sweet+5;");
        due("a blows so much that b gives none", y.game(0, 1, 0), 3);
        due("b's syrup", y.game(0, 1, 1), 0);
        due("a has", y.game(0, 1, 2), 6 * 16);
    }

    // "FAMILIES to whom CURES is more than what they HAVE by CASES, rounded down"
    private static void cure() {
        String text = "minute 0;minute 0;lease e 0;coughs=1;worth=3;";
        int[][] due = {{4, 0}, {5, 0}, {6, 16}, {99, 16}};
        for (int[] one : due) {
            CoughParts x = Checks.of(FIVE + text + "cures=if which<4 then 0 else " + one[0] + ";");
            due("has 5.25, cures " + one[0], x.cure(), one[1]);
        }
        due("0 is not more than 0", Checks.of(FIVE + "cures=0;").cure(), 0);
        due("1 is more than 0", Checks.of(FIVE + "cures=1;").cure(), 31);
        due("no families", Checks.of("minute 1;cures=9;").cure(), 0);
        CoughParts most = Checks.of(TEN + "family f 0 0;lease f 0;coughs=0;worth=9;cures=90;");
        due("90 is not more than 90", most.cure(), 0);
        due("91 is", Checks.of(TEN + "family f 0 0;lease f 0;coughs=0;worth=9;cures=91;").cure(), 1);
    }

    // "RICHEST: who HAS most, of alike ones the first", "-2: no FAMILIES"
    private static void richest() {
        CoughParts x = Checks.of("minute 0;" + FIVE);
        due("all have nothing", x.richest(0) * 10 + x.richest(1), 0);
        x.let(0, 4);
        due("the last one", x.richest(0) * 10 + x.richest(1), 44);
        CoughParts alike = Checks.of("minute 0;minute 0;coughs=4;" + FIVE + "lease e 0;lease c 1;lease b 2;");
        due("c and e are alike", alike.richest(0) * 100 + alike.richest(1), 216);
        due("no families: who", Checks.of("minute 0;").richest(0), -2);
        due("no families: how much", Checks.of("minute 0;").richest(1), -2);
        due("no such what", Checks.of("minute 0;").richest(2), -1);
        due("no such what", Checks.of("minute 0;").richest(-1), -1);
    }

    // "LIKELY: the coughs that most CASES have, of alike ones the least bits; how many CASES"
    private static void likely() {
        int[] bits = {0, 0, 0, 1023, 1023};
        int[] cases = {ALL, 59049, 1024, 59049, ALL};
        for (int quarters = 0; quarters <= 4; quarters++) {
            CoughParts x = Checks.of(TEN + "coughs=" + quarters + ";");
            due("likely by " + quarters, x.likely(0), bits[quarters]);
            due("cases by " + quarters, x.likely(1), cases[quarters]);
        }
        CoughParts each = Checks.of("minute 0;minute 1;minute 2;minute 3;minute 4;coughs=matter;");
        due("by 0, 1, 2, 3, 4", each.likely(0) * 1000 + each.likely(1), 24000 + 4 * 3 * 2 * 3 * 4);
        CoughParts none = new CoughParts();
        due("of nothing", none.likely(0) * 10 + none.likely(1), 1);
    }

    // "GAINS of n WEEKS (0 .. 40) of a FAMILY, as the SEED has it, less RENTS"
    private static void gains() {
        CoughParts x = Checks.of("minute 0;family a 0 0;family b 0 0;lease a 0;worth=9;rents=if which<1 then 0 else 99;");
        due("0 weeks", x.gains(0, 0), 0);
        due("40 weeks", x.gains(0, 40), 360);
        due("40 weeks, paid alone", x.gains(1, 40), -3960);
        x.weeks(40);
        due("0 weeks from week 40 on", x.gains(0, 0), 0);
        due("1 week from week 40 on", x.gains(0, 1), 9);
        due("what was paid ahead does not count", x.gains(1, 1), -99);
        CoughParts y = Checks.of(TEN + "family f 3 0;lease f 1;lease f 3;seed 9999;coughs=2;worth=part;");
        int due = 0;
        for (int n = 1; n <= 40; n++) {
            due("gains of " + n, y.gains(0, n), gainAhead(n));
            due = gainAhead(n);
        }
        y.weeks(40);
        due("as it came then", y.family(0, 3) - y.family(0, 4), due);
    }

    private static int gainAhead(int n) {
        CoughParts y = Checks.of(TEN + "family f 3 0;lease f 1;lease f 3;seed 9999;coughs=2;worth=part;");
        y.weeks(n);
        return y.family(0, 3) - y.family(0, 4);
    }

    // "IN n WEEKS (0 .. 40): how many PARTS the last sermon had", "(-2: none was preached)"
    private static void partsIn() {
        CoughParts x = Checks.of(TEN + "coughs=week-37;");
        due("none was preached", x.partsIn(0), -2);
        due("1 week", x.partsIn(1), 1);
        due("38 weeks", x.partsIn(38), 1);
        x.weeks(38);
        due("the last one", x.partsIn(0), 1);
        due("no coughs", x.count(5), 0);
        due("40 weeks: week 77", x.partsIn(40), 8);
        x.weeks(40);
        due("the last one", x.partsIn(0), 8);
        x.undo();
        x.undo();
        due("none was preached", x.partsIn(0), -2);
        due("nothing happened", x.count(2), 0);
    }

    // "YEAR by s SEEDS (1 .. 20) from the text's SEED on: in how many of them .. gained more than it paid in all by n WEEKS"
    private static void year() {
        String text = "minute 0;minute 0;family f 0 0;lease f 1;coughs=2;worth=2;rents=";
        for (int seed : new int[] {0, 9980, 9999}) {
            CoughParts x = Checks.of(text + "1;seed " + seed + ";");
            int seeds = 0;
            for (int s = 1; s <= 20; s++) {
                seeds += Checks.lot(4, seed + s - 1, 0) < 2 ? 1 : 0;
                due("year of a week by " + s + " seeds from " + seed, x.year(0, 1, s), seeds);
            }
            due("no weeks", x.year(0, 0, 20), 0);
        }
        due("just as much is not more", Checks.of(text + "2;").year(0, 1, 20), 0);
        CoughParts always = Checks.of("minute 0;family f 0 0;lease f 0;worth=2;rents=week*2/40;");
        due("40 weeks, all seeds", always.year(0, 40, 20), 20);
        always.weeks(1);
        due("what came so far counts", always.year(0, 0, 20), 20);
        CoughParts even = Checks.of("minute 0;family f 0 0;lease f 0;worth=2;rents=if week<1 then 3 else 1;");
        due("2 gained, 3 paid", even.year(0, 1, 5), 0);
        due("4 gained, 4 paid", even.year(0, 2, 5), 0);
        due("6 gained, 5 paid", even.year(0, 3, 5), 5);
        even.weeks(1);
        due("from now: 4 and 4 in all", even.year(0, 1, 5), 0);
        due("from now: 6 and 5 in all", even.year(0, 2, 5), 5);
    }

    // "20 at most, numbered from 0 on"
    private static void told() {
        CoughParts x = Checks.of("minute 0;coughs=2;");
        for (int round = 0; round < 3; round++) {
            for (int i = 0; i < 20; i++) {
                due("told so far", x.count(10), i);
                due("its number", x.tell(0, i % 8, i % 8 == 0), i);
            }
            due("a 21st", x.tell(0, 0, true), -1);
            due("told", x.count(10), 20);
            due("forget", x.forget(), 20);
            due("forget none", x.forget(), 0);
        }
    }

    // "KNOWN by k: the first k"
    private static void knownByTheFirst() {
        CoughParts x = Checks.of("minute 0;".repeat(5) + "coughs=2;");
        x.tell(4, 0, false);
        x.tell(4, 1, false);
        x.tell(4, 2, false);
        x.tell(4, 3, true);
        x.tell(4, 3, true);
        x.tell(4, 4, true);
        int[] left = {32, 30, 22, 10, 8, 8, 0};
        for (int k = 0; k <= 6; k++) {
            due("known by " + k, x.when(k, 0), left[k]);
            due("least by " + k, x.when(k, 1), new int[] {0, 1, 3, 7, 7, 7, -2}[k]);
        }
        due("when(7, 0)", x.when(7, 0), -1);
        due("ask(7)", x.ask(7), -1);
        due("ask(6)", x.ask(6), -2);
        due("ask(5)", x.ask(5), 4);
        x.forget();
        due("when(1, 0) then", x.when(1, 0), -1);
        due("when(0, 0) then", x.when(0, 0), 32);
    }

    // "WHEN: sets .. (in one CASE at least), so that all that is KNOWN is so: how many; the least bits;
    // coughs in all of them; in none"
    private static void when() {
        CoughParts none = new CoughParts();
        CoughParts never = Checks.of(TEN + "coughs=0;");
        CoughParts half = Checks.of(TEN + "coughs=1;");
        CoughParts always = Checks.of(TEN + "coughs=4;");
        int[][] due = {{1, 0, 0, 0}, {1, 0, 0, 1023}, {1024, 0, 0, 0}, {1, 1023, 1023, 0}};
        for (int what = 0; what <= 3; what++) {
            due("no minutes " + what, none.when(0, what), due[0][what]);
            due("no coughs " + what, never.when(0, what), due[1][what]);
            due("coughs or not " + what, half.when(0, what), due[2][what]);
            due("coughs " + what, always.when(0, what), due[3][what]);
        }
        due("in part 7 for all that", always.tell(9, 7, true), 0);
        due("it is so", always.when(1, 0), 1);
        due("not in part 7", always.tell(9, 7, false), 1);
        due("none is left", always.when(2, 0), 0);
        for (int what = 1; what <= 3; what++) {
            due("none is left " + what, always.when(2, what), -2);
        }
        due("no such what, none is left", always.when(2, 4), -1);
        due("no such what, none is left", always.when(2, -1), -1);
        half.tell(9, 7, true);
        due("7, 8 or 9 coughs ahead of the last", half.when(1, 0), 2 * (36 + 9 + 1));
        due("the least", half.when(1, 1), 127);
        half.tell(9, 7, false);
        half.tell(9, 0, true);
        due("both is never so", half.when(2, 0), 0);
        CoughParts now = Checks.of("minute 0;minute 0;coughs=dusty;");
        now.tell(1, 1, true);
        due("no dust, no cough", now.when(1, 0), 0);
        now.dust(true);
        due("as it would be now", now.when(1, 0) * 10 + now.when(1, 1), 21);
    }

    // "ASK: the MINUTE of which .. fewest are left, at worst; of alike ones the first", "-2: none is left, no MINUTES"
    private static void ask() {
        due("no minutes", new CoughParts().ask(0), -2);
        due("no minutes, no such k", new CoughParts().ask(1), -1);
        due("one set alone: the first", Checks.of(TEN + "coughs=4;").ask(0), 0);
        due("all alike: the first", Checks.of(TEN + "coughs=2;").ask(0), 0);
        due("the last one", Checks.of(TEN + "coughs=if now<9 then 0 else 1;").ask(0), 9);
        due("the last one, others are sure", Checks.of(TEN + "coughs=if now<9 then 4 else 3;").ask(0), 9);
        CoughParts x = Checks.of("minute 0;minute 0;minute 0;minute 0;coughs=2;");
        x.tell(3, 1, true);
        due("1 and 2 of 3, and the last one halves", x.ask(1), 3);
        x.tell(3, 2, false);
        x.tell(1, 1, true);
        due("only the last one is left", x.ask(3), 3);
        x.tell(1, 0, true);
        due("none is left", x.ask(4), -2);
        due("none is left, no such k", x.ask(5), -1);
    }

    // Promise 43
    private static void counts() {
        CoughParts x = Checks.of("minute 0;minute 1;minute 2;minute 3;minute 4;minute 5;minute 0;minute 1;minute 2;minute 3;"
                + "family a 9 0;family b 9 0;family c 9 0;family d 9 0;family e 9 5;dust 9;syrup 9;coughs=9;worth=9;rents=99;"
                + "lease a 0;lease a 1;lease b 2;lease b 3;lease c 4;lease c 5;lease d 6;lease d 7;");
        int[] full = {10, 5, 0, 9, 9, 0, -2, ALL, 0, 0, 0, 0, 255, 0, 0, 63, 0, 1023, 40, 16, 45, -1};
        for (int what = 0; what < full.length; what++) {
            due("count(" + what + ") of a full text", x.count(what), full[what]);
        }
        x.weeks(2);
        due("coughs of the last sermon", x.count(5), 1023);
        due("its parts", x.count(6), 8);
        due("gained by all", x.count(13), 180);
        due("paid by all", x.count(14), 2 * 5 * 99);
        x.let(0, 4);
        x.let(7, -1);
        due("let", x.count(12), 127);
        due("of nobody", x.count(16), 1);
        due("families without a lease", x.count(19), 0);
        x.let(6, -1);
        due("families without a lease", x.count(19), 8);
        due("things done", x.count(9), 4);
        CoughParts matters = Checks.of("minute 5;minute 5;family f 0 3;");
        due("matters of minutes", matters.count(15), 32);
        due("a lease less", Checks.of("family a 1 1;family b 1 1;").count(19), 3);
    }

    private static void countsOfNone() {
        CoughParts x = new CoughParts();
        int[] none = {0, 0, 0, 0, 0, 0, -2, 1, 0, 0, 0, 0, 0, 0, 0, 0, 8, 0, 0, 0, 0, -1};
        for (int what = 0; what < none.length; what++) {
            due("count(" + what + ") of a new object", x.count(what), none[what]);
        }
        due("count(-1)", x.count(-1), -1);
        due("count(least)", x.count(Integer.MIN_VALUE), -1);
        due("count(most)", x.count(Integer.MAX_VALUE), -1);
        due("place()", x.place(), -1);
        for (int part = 0; part < 8; part++) {
            due("lease(" + part + ")", x.lease(part), -2);
            due("no minute in part " + part, x.falls(0, part), -1);
        }
        for (int what = 0; what <= 6; what++) {
            due("no minute, " + what, x.minute(0, what), -1);
            due("no family, " + what, x.family(0, what), -1);
        }
    }

    // Promise 2: "Twenty bytes, the highest of a first, come behind the tape"; Promise 3: "The last n bytes of the tape go"
    private static void bytesInTheirOrder() {
        for (int at = 0; at < 20; at++) {
            int[] five = {0x20202020, 0x20202020, 0x20202020, 0x20202020, 0x20202020};
            five[at / 4] ^= 0xa0 << 24 - at % 4 * 8;
            CoughParts x = new CoughParts();
            due("feed", x.feed(five[0], five[1], five[2], five[3], five[4]), 20);
            due("feed again", x.feed(five[0], five[1], five[2], five[3], five[4]), 40);
            due("back(20)", x.back(20), 20);
            due("back to the byte", x.back(19 - at), at + 1);
            due("what is no token", x.read(), 1);
            due("its byte", x.place(), at);
            x.feed(five[0], five[1], five[2], five[3], five[4]);
            due("back with the byte", x.back(20 - at), at);
            due("blanks alone", x.read(), 0);
        }
    }
}
