import java.util.Arrays;
import java.util.List;

/** Terms I: each sentence that names a boundary of a TEXT, tried on both of its sides. */
public final class TextBoundsTest {
    private static final Checks CHECKS = new Checks("TextBoundsTest");

    private static final List<String> WORDS = Arrays.asList("minute", "family", "lease", "coughs", "worth", "rents",
            "cures", "dust", "syrup", "seed", "if", "then", "else", "now", "matter", "dusty", "sweet", "zeal", "love",
            "week", "part", "which");

    private static final String TEN_MINUTES = "minute 1;".repeat(10);
    private static final String FIVE_FAMILIES = "family a 1 1;family b 1 1;family c 1 1;family d 1 1;family e 1 1;";
    private static final String EIGHT_LEASES =
            "lease a 0;lease b 1;lease c 2;lease d 3;lease e 4;lease a 5;lease a 6;lease a 7;";
    /** 132 times three TOKENS, and four. */
    private static final String FOUR_HUNDRED = "seed 1;".repeat(132) + "rents=1;";
    /** A text's first FAULTS of the sorts 3, 4 and 5, and of each sort of place. */
    private static final String[] LATER_FAULTS = {"family f 1 1;family f 1 1;", "family f 1 1;lease f 1;lease f 1;",
        "lease f 1;", "minute 6;", "family f 10 1;", "family f 1 6;", "family f 1 1;lease f 8;", "dust 10;", "syrup 10;"};

    public static void main(String[] args) {
        longestText();
        blanks();
        bytesThatAreNoTokens();
        longestThatCanBe();
        names();
        wordsAreNoNames();
        ints();
        signs();
        cutTexts();
        minutes();
        families();
        leases();
        sortsAreCountedEachForItself();
        lastLawHolds();
        ifs();
        brackets();
        settings();
        seeds();
        tokensOfAText();
        syntaxOrRoom();
        laterFaultsOnlyWithoutTheFirstTwo();
        twice();
        noSuchName();
        wrongNumbers();
        laterFaultsByPlace();
        placeOfTheLatestRead();
        CHECKS.end();
    }

    private static void fault(int sort, String marked) {
        CHECKS.fault(sort, marked);
    }

    private static void good(String text) {
        CHECKS.good(text);
    }

    private static void due(String call, long got, long want) {
        CHECKS.due(call, got, want);
    }

    // "A TEXT has 2,000 bytes at most."
    private static void longestText() {
        String blanks = " ".repeat(2000 - 9);
        due("the tell that ends with byte 1999", Checks.of(blanks + "minute 3;").minute(0, 0), 3);
        due("the tell that begins with byte 0", Checks.of("minute 4;" + blanks).minute(0, 0), 4);
        good(" ".repeat(2000));
        fault(1, blanks + "minute 3~?");
        fault(1, blanks + " minute 3~");
        fault(5, blanks + "minute ~6;");
        CHECKS.faultAt(1, 0, "a".repeat(2000));
        CHECKS.faultAt(1, 0, "0".repeat(2000));
        CHECKS.faultAt(1, 0, ";".repeat(2000));
        CHECKS.faultAt(2, "coughs=((((((".length(), "coughs=" + "(".repeat(1993));
        good("");
    }

    // "with blanks (9, 10, 13, 32) between or not"
    private static void blanks() {
        for (String blank : new String[] {"", "\t", "\n", "\r", " ", " \t\n\r "}) {
            String text = blank + "minute" + blank + "4" + blank + ";" + blank + "coughs" + blank + "=" + blank + "3" + blank
                    + "*" + blank + "(" + blank + "now" + blank + "+" + blank + "1" + blank + ")" + blank + ";" + blank;
            CoughParts x = Checks.of(text);
            due("minutes by blank '" + blank + "'", x.count(0), 1);
            due("matter by blank '" + blank + "'", x.minute(0, 0), 4);
            due("coughs by blank '" + blank + "'", x.minute(0, 1), 3);
        }
        fault(1, "~min ute 1;");
        fault(1, "minute 0 ~1;");
        fault(1, "family a ~b 1 1;");
        fault(1, "coughs = 1~\f;");
    }

    // "all else, is no TOKEN"
    private static void bytesThatAreNoTokens() {
        for (int sign = 0; sign < 256; sign++) {
            boolean isBlank = sign == 9 || sign == 10 || sign == 13 || sign == 32;
            boolean isLetter = 'a' <= sign && sign <= 'z';
            boolean isDigit = '0' <= sign && sign <= '9';
            String one = String.valueOf((char) sign);
            if (isBlank) {
                good("minute" + one + "1" + one + ";" + one);
            } else if (isLetter) {
                good("family " + one + " 1 1;");
                CHECKS.faultAt(1, 0, "minute" + one + " 1;");
            } else if (isDigit) {
                good("seed" + one + ";");
                CHECKS.faultAt(1, 5, "seed " + one + one + one + one + one + ";");
            } else {
                CHECKS.faultAt(1, 0, one);
                CHECKS.faultAt(1, 6, "minute" + one + "1;");
                CHECKS.faultAt(1, 9, "minute 1;" + one);
                CHECKS.faultAt(1, 7, "family " + one + " 1 1;");
            }
            if (!isLetter && !isBlank && !isDigit && ";+-*/".indexOf(sign) < 0) {
                CHECKS.faultAt(1, 8, "coughs=1" + one + "1;");
            }
        }
    }

    // "TOKENS, the longest that can be"
    private static void longestThatCanBe() {
        good("minute1;");
        good("family a1 1;");
        good("family a 1 1;lease a1;");
        good("coughs=if 1<2then 3else 4;");
        good("coughs=if(1)<(2)then(3)else(4);");
        good("dust1;syrup1;seed1;");
        fault(1, "~minutes 1;");
        fault(1, "coughs=~ifnow<2 then 3 else 4;");
        fault(1, "coughs=~nowmatter;");
        fault(1, "coughs=1~now;");
        fault(5, "minute ~10;");
        fault(1, "family a 1~;");
        due("12 is one INT", Checks.of("family a 0 0;cures=12;").family(0, 6), 12);
        due("of two NAMES the longer", Checks.of("family a 1 1;family ab 2 2;lease ab 3;").lease(3), 1);
    }

    // "NAMES (letters a .. z, 8 at most", "A longer one .. is no TOKEN"
    private static void names() {
        good("family a 1 1;family z 1 1;family abcdefgh 1 1;family zzzzzzzz 1 1;family aaaaaaaa 1 1;");
        fault(1, "family ~abcdefghi 1 1;");
        fault(1, "family ~zzzzzzzzz 1 1;");
        fault(1, "family ~aaaaaaaaa 1 1;");
        fault(1, "family a 1 1;lease ~aaaaaaaaa 1;");
        fault(1, "family ~minuteminute 1 1;");
        fault(1, "family a~` 1 1;");
        fault(1, "family a~{ 1 1;");
        fault(1, "family a~A 1 1;");
        fault(1, "family ~Z 1 1;");
        fault(1, "family a~_b 1 1;");
        fault(1, "family a1~b 1 1;");
        CoughParts x = Checks.of("family abcdefgh 1 1;family abcdefgi 2 2;family bbcdefgh 3 3;family abcdefg 4 4;"
                + "family aaaaaaaa 5 5;lease abcdefgi 1;lease bbcdefgh 2;lease abcdefg 3;lease aaaaaaaa 4;lease abcdefgh 0;");
        for (int part = 0; part < 5; part++) {
            due("names that are nearly alike, part " + part, x.lease(part), part);
        }
        for (char letter = 'a'; letter <= 'z'; letter++) {
            StringBuilder text = new StringBuilder();
            for (int length : new int[] {1, 2, 3, 7, 8}) {
                text.append("family ").append(String.valueOf(letter).repeat(length)).append(" 1 1;");
            }
            good(text.toString());
        }
    }

    // "none of the words in quotes"
    private static void wordsAreNoNames() {
        for (String word : WORDS) {
            fault(1, "family ~" + word + " 1 1;");
            fault(1, "family a 1 1; lease ~" + word + " 1;");
            good("family " + word + "x 1 1;lease " + word + "x 1;");
            String less = word.substring(0, word.length() - 1);
            if (!WORDS.contains(less)) {
                good("family " + less + " 1 1;lease " + less + " 1;");
                fault(1, "~" + less + " 1;");
            }
        }
    }

    // "INTS (1 to 4 digits)"
    private static void ints() {
        String[] fives = {"5", "05", "005", "0005"};
        for (String five : fives) {
            due("minute " + five, Checks.of("minute " + five + ";").minute(0, 0), 5);
            due("cures = " + five, Checks.of("family f 1 1;cures=" + five + ";").family(0, 6), 5);
        }
        fault(1, "minute ~;");
        fault(1, "minute ~00005;");
        fault(1, "minute ~000000000000000000000005;");
        fault(1, "cures=~00005;");
        fault(1, "cures=1+~10000;");
        fault(5, "minute ~9999;");
        good("cures=9999;seed 9999;");
        fault(1, "seed ~10000;");
        fault(1, "seed ~4294967297;");
        fault(1, "minute ~18446744073709551617;");
        fault(1, "minute ~-1;");
        fault(1, "minute ~+1;");
        fault(1, "seed 1~.5;");
        fault(1, "seed 1~:;");
    }

    // "SIGNS ; = + - * / < ( )"
    private static void signs() {
        good("coughs=if(1+2)<3-4*5/6then 7else 8;");
        fault(1, "coughs=if 1<~=2 then 3 else 4;");
        fault(1, "coughs=if 1~>2 then 3 else 4;");
        fault(1, "coughs=~=1;");
        fault(1, "coughs=1+~+1;");
        fault(1, "coughs=1-~-1;");
        fault(1, "coughs=1/~/1;");
        fault(1, "coughs=1~%2;");
        fault(1, "coughs=~[1];");
        fault(1, "minute 1;~;");
        fault(1, "minute 1~,");
        fault(1, "minute 1~.");
    }

    // "the text's end: its length"; a text that ends ahead of a ';' has its FAULT there
    private static void cutTexts() {
        cut("minute 1 ;", "family a 2 3 ;", "lease a 4 ;", "dust 5 ;", "syrup 6 ;", "seed 7 ;", "minute 2 ;");
        cut("coughs = 1 ;", "worth = now + 2 * ( zeal - 3 ) / 4 ;", "rents = ( ( 1 ) ) ;");
        cut("cures = if 1 < 2 then 3 else if ( 4 ) < 5 + 6 then 7 - 8 else 9 ;");
    }

    private static void cut(String... tells) {
        String[] tokens = String.join(" ", tells).split(" ");
        StringBuilder text = new StringBuilder();
        for (String token : tokens) {
            text.append(token);
            boolean isWhole = token.equals(";");
            CHECKS.faultAt(isWhole ? 0 : 1, isWhole ? -1 : text.length(), text.toString());
            CHECKS.faultAt(isWhole ? 0 : 1, isWhole ? -1 : text.length() + 2, text + "\r\n");
            text.append(' ');
            CHECKS.faultAt(1, text.length(), text + "?");
            if (!isWhole) {
                CHECKS.faultAt(1, text.length(), text + "seed 1 ; ? ;");
                goodBehindFault(text.toString());
            }
        }
    }

    /** Nothing of a text with a FAULT is left when the next one is read. */
    private static void goodBehindFault(String faulty) {
        CoughParts x = new CoughParts();
        due("fault of '" + faulty + "'", Checks.read(x, faulty), 1);
        due("a good text behind it", Checks.read(x, "family q 1 1;lease q 4;minute 3;cures=((((((2+3*4))))))-1*2;"), 0);
        due("its law", x.family(0, 6), 12);
        due("its lease, its minutes", x.lease(4) * 10 + x.count(0), 1);
    }

    // "MINUTES, 10 at most (its MATTER 0 .. 5)", "numbered each from 0 on as they stand"
    private static void minutes() {
        StringBuilder text = new StringBuilder();
        for (int many = 0; many <= 10; many++) {
            CoughParts x = Checks.of(text.toString());
            due("minutes", x.count(0), many);
            due("the first one that is not there", x.minute(many, 0), -1);
            for (int minute = 0; minute < many; minute++) {
                due("matter of " + minute + " of " + many, x.minute(minute, 0), (5 + minute) % 6);
            }
            text.append("minute ").append((5 + many) % 6).append(";");
        }
        fault(2, TEN_MINUTES + "~minute 1;");
        fault(2, TEN_MINUTES + "~minute 1;minute 1;");
        fault(2, TEN_MINUTES + " \n~minute 9;");
        fault(2, TEN_MINUTES + "~minute");
        fault(2, "minute 6;".repeat(10) + "~minute 1;");
        good("minute 0;minute 5;");
        fault(5, "minute ~6;");
    }

    // "FAMILIES, 5 at most (a NAME, ZEAL 0 .. 9, the MATTER that they LOVE 0 .. 5)"
    private static void families() {
        StringBuilder text = new StringBuilder();
        for (int many = 0; many <= 5; many++) {
            CoughParts x = Checks.of(text.toString());
            due("families", x.count(1), many);
            due("the first one that is not there", x.family(many, 0), -1);
            for (int family = 0; family < many; family++) {
                due("zeal of " + family + " of " + many, x.family(family, 0), 9 - 2 * family);
                due("love of " + family + " of " + many, x.family(family, 1), 5 - family);
            }
            text.append("family ").append((char) ('z' - many)).append(' ').append(9 - 2 * many).append(' ')
                    .append(5 - many).append(";");
        }
        fault(2, FIVE_FAMILIES + "~family f 1 1;");
        fault(2, FIVE_FAMILIES + "~family a 1 1;");
        fault(2, FIVE_FAMILIES + "~family f 10 6;family g 1 1;");
        fault(2, FIVE_FAMILIES + "~family");
        good("family a 0 0;family b 9 5;");
        fault(5, "family a ~10 0;");
        fault(5, "family a 0 ~6;");
        fault(5, "family a ~10 6;");
    }

    // "LEASES, 8 at most: whose a PART is, PARTS 0 .. 7"
    private static void leases() {
        CoughParts x = Checks.of(FIVE_FAMILIES + EIGHT_LEASES);
        int[] owners = {0, 1, 2, 3, 4, 0, 0, 0, -1};
        for (int part = 0; part < owners.length; part++) {
            due("lease of part " + part, x.lease(part), owners[part]);
        }
        due("of nobody", x.count(16), 0);
        due("leases not told", Checks.of(FIVE_FAMILIES).count(12), 0);
        fault(2, FIVE_FAMILIES + EIGHT_LEASES + "~lease a 0;");
        fault(2, FIVE_FAMILIES + EIGHT_LEASES + "~lease a 8;");
        fault(2, FIVE_FAMILIES + EIGHT_LEASES + "~lease");
        fault(2, "family a 1 1;" + "lease a 0;".repeat(8) + "~lease a 0;");
        fault(2, "lease a 9;".repeat(8) + "~lease a 0;");
        good("family a 1 1;lease a 0;");
        good("family a 1 1;lease a 7;");
        fault(5, "family a 1 1;lease a ~8;");
        fault(5, "family a 1 1;lease a ~9999;");
    }

    // "one more of a sort than told": each sort has its own
    private static void sortsAreCountedEachForItself() {
        good(TEN_MINUTES + FIVE_FAMILIES + EIGHT_LEASES);
        good(FIVE_FAMILIES + EIGHT_LEASES + TEN_MINUTES);
        StringBuilder mixed = new StringBuilder();
        for (int i = 0; i < 10; i++) {
            mixed.append("minute ").append(i % 6).append(";");
            mixed.append(i < 5 ? "family " + (char) ('a' + i) + " 1 1;" : "dust 1;");
            mixed.append(i < 8 ? "lease a " + i + ";" : "syrup 1;");
        }
        good(mixed.toString());
        fault(2, mixed + "~minute 1;");
        fault(2, mixed + "~family f 1 1;");
        fault(2, mixed + "~lease a 1;");
    }

    // "LAWS: COUGHS (1), WORTH (1), RENTS (zeal), CURES (0), if not told; the last one."
    private static void lastLawHolds() {
        String base = "minute 2;family f 7 1;lease f 0;";
        dueLaws("not told", base, 1, 1, 7, 0);
        dueLaws("coughs told", base + "coughs=3;", 3, 1, 7, 0);
        dueLaws("worth told", base + "worth=5;", 1, 5, 7, 0);
        dueLaws("rents told", base + "rents=4;", 1, 1, 4, 0);
        dueLaws("cures told", base + "cures=6;", 1, 1, 7, 6);
        dueLaws("the last one", "cures=1;rents=1;worth=2;coughs=4;" + base + "coughs=2;worth=8;rents=60;cures=70;", 2, 8, 60, 70);
        dueLaws("the last of many", base + "coughs=4;cures=8;rents=9;worth=9;".repeat(20) + "worth=3;coughs=0;cures=4;rents=5;",
                0, 3, 5, 4);
        dueLaws("as many as there is room for", base + "coughs=4;".repeat(96) + "coughs=2;", 2, 1, 7, 0);
        CoughParts x = Checks.of(base + "coughs=3;worth=5;rents=4;cures=6;");
        Checks.read(x, base);
        due("laws of the text ahead are gone", x.minute(0, 1) * 1000000 + x.worth(0, 0, 0) * 10000 + x.family(0, 5) * 100
                + x.family(0, 6), 1010700);
    }

    private static void dueLaws(String what, String text, int coughs, int worth, int rents, int cures) {
        CoughParts x = Checks.of(text);
        due("coughs, " + what, x.minute(0, 1), coughs);
        due("worth, " + what, x.worth(0, 0, 0), worth);
        due("rents, " + what, x.family(0, 5), rents);
        due("cures, " + what, x.family(0, 6), cures);
    }

    // "a 5th if of a LAW (at it)"
    private static void ifs() {
        String one = "if 1<0 then 2 else ";
        for (String law : new String[] {"coughs=", "worth=", "rents=", "cures="}) {
            good(law + "3;");
            good(law + one + "3;");
            good(law + one.repeat(4) + "3;");
            good((law + one.repeat(4) + "3;").repeat(4));
            fault(2, law + one.repeat(4) + "~" + one + "3;");
            fault(2, law + one.repeat(4) + "~if");
            fault(2, law + one.repeat(4) + "3;" + law + one.repeat(4) + "~" + one + "3;");
        }
        fault(1, "coughs=" + one.repeat(3) + "if 1<0 then ~if 1<0 then 2 else 3 else 4;");
        fault(1, "coughs=" + one.repeat(4) + "1 ~if 1<0 then 2 else 3;");
    }

    // "a 7th ( within one another (at it)"
    private static void brackets() {
        String six = "((((((1))))))";
        for (int open = 0; open <= 6; open++) {
            good("coughs=" + "(".repeat(open) + "1" + ")".repeat(open) + ";");
        }
        good("coughs=" + six + "+" + six + "*" + six + "-(1)/((1));");
        good("coughs=if " + six + "<" + six + " then " + six + " else " + six + ";worth=" + six + ";");
        good("coughs=(((((1)+(1)))+((1)*(1))));");
        fault(2, "coughs=((((((~(1)))))));");
        fault(2, "coughs=((((((1+2*~(1)))))));");
        fault(2, "coughs=" + six + "+((((((~(1)))))));");
        fault(2, "coughs=((1)+(((((~(3)))))));");
        fault(2, "coughs=if ((((((~(1))))))) < 1 then 1 else 1;");
        fault(2, "coughs=if 1 < ((((((~(1))))))) then 1 else 1;");
        fault(2, "coughs=if 1 < 1 then ((((((~(1))))))) else 1;");
        fault(2, "coughs=if 1 < 1 then 1 else ((((((~(1)))))));");
        fault(2, "coughs=((((((~(");
        fault(1, "coughs=((((((~");
        fault(1, "coughs=((((((1)))))~;");
        fault(1, "coughs=((((((1))))))~);");
    }

    // "DUST 0 .. 9 (0), SYRUP 0 .. 9 (0) .. the last one"
    private static void settings() {
        CoughParts x = Checks.of("minute 1;");
        due("dust not told", x.count(3), 0);
        due("syrup not told", x.count(4), 0);
        for (int much = 0; much <= 9; much++) {
            x = Checks.of("dust " + much + ";");
            due("dust " + much, x.count(3) * 10 + x.count(4), much * 10);
            x = Checks.of("syrup " + much + ";");
            due("syrup " + much, x.count(3) * 10 + x.count(4), much);
        }
        x = Checks.of("dust 9;syrup 8;dust 2;syrup 3;");
        due("the last ones", x.count(3) * 10 + x.count(4), 23);
        fault(5, "dust ~10;");
        fault(5, "syrup ~10;");
        fault(5, "dust ~10;dust 1;");
        fault(5, "dust 1;dust ~9999;");
    }

    // "SEED 0 .. 9999 (0): the last one"
    private static void seeds() {
        String ten = TEN_MINUTES + "coughs=2;";
        due("seed not told is 0", coughsOf(ten), coughsOf(ten + "seed 0;"));
        due("the last seed", coughsOf(ten + "seed 5;seed 9999;"), coughsOf(ten + "seed 9999;"));
        due("another seed, other coughs", coughsOf(ten + "seed 5;") != coughsOf(ten + "seed 9999;") ? 1 : 0, 1);
        due("another seed, other coughs", coughsOf(ten + "seed 0;") != coughsOf(ten + "seed 9999;") ? 1 : 0, 1);
        fault(1, "seed ~10000;");
        CoughParts x = Checks.of(ten + "seed 9999;");
        Checks.read(x, ten);
        due("not told, behind a text with a seed", coughsOf(x), coughsOf(ten + "seed 0;"));
        Checks.read(x, ten + "seed 7;?");
        Checks.read(x, ten);
        due("not told, behind a fault with a seed", coughsOf(x), coughsOf(ten + "seed 0;"));
    }

    private static long coughsOf(String text) {
        return coughsOf(Checks.of(text));
    }

    private static long coughsOf(CoughParts x) {
        long all = 0;
        for (int week = 0; week < 5; week++) {
            x.weeks(1);
            all = all << 10 | x.count(5);
        }
        return all;
    }

    // "2 ROOM: a 401st TOKEN"
    private static void tokensOfAText() {
        good(FOUR_HUNDRED);
        good(FOUR_HUNDRED + " \t\r\n");
        for (String first : WORDS.subList(0, 10)) {
            fault(2, FOUR_HUNDRED + "~" + first + " a 1;");
            fault(2, FOUR_HUNDRED + "~" + first);
        }
        String less = FOUR_HUNDRED.substring(7);
        good(less + "seed 1;");
        fault(2, less + "rents=1~;");
        fault(2, less + "rents=1~+1;");
        fault(2, less + "rents=(~(1));");
        fault(2, less + "rents=now~*now;");
        fault(2, less + "rents=if ~(1)<2 then 3 else 4;");
        fault(2, less + "family f 1 ~1;");
        fault(2, less + "lease f 1~;");
        good("seed 1;".repeat(133));
        fault(2, "seed 1;".repeat(133) + "seed ~1;");
        fault(2, "seed 1;".repeat(133) + "seed ~1;seed 1;seed 1;?");
        fault(2, "seed 1;".repeat(133) + "coughs~=1;");
        good("coughs=1" + "+1".repeat(198) + ";");
        fault(2, "coughs=1" + "+1".repeat(198) + "+~1;");
    }

    // "the first by its place .. of one place the least"
    private static void syntaxOrRoom() {
        fault(1, FOUR_HUNDRED + "~;");
        fault(1, FOUR_HUNDRED + "~?");
        fault(1, FOUR_HUNDRED + "~now");
        fault(1, FOUR_HUNDRED + "~abcdefghi");
        fault(1, FOUR_HUNDRED + "~12345");
        fault(1, "seed 1;".repeat(133) + "seed ~now;");
        fault(1, "seed 1;".repeat(133) + "seed~");
        fault(1, "seed 1;".repeat(133) + "seed  ~?");
        fault(1, "seed 1;".repeat(132) + "seed 1;~1;dust 1;");
        fault(2, TEN_MINUTES + "~minute x;");
        fault(1, TEN_MINUTES + "~;minute 1;");
        fault(2, FIVE_FAMILIES + "~family ?");
        fault(2, FIVE_FAMILIES + EIGHT_LEASES + "~lease 1 1;");
        fault(1, TEN_MINUTES + "seed ~;minute 1;");
        fault(2, "coughs=" + "if 1<0 then 2 else ".repeat(4) + "~if ;");
        fault(1, "coughs=" + "if 1<0 then 2 else ".repeat(3) + "if ~;if 1<0 then 2 else 3;");
        fault(2, "coughs=((((((~();");
        fault(1, "coughs=((((((1 ~(1;");
        fault(1, "minute 1 ~1;" + TEN_MINUTES);
    }

    // "If there is none, likewise: 3 .. 4 .. 5"
    private static void laterFaultsOnlyWithoutTheFirstTwo() {
        for (String later : LATER_FAULTS) {
            CoughParts x = new CoughParts();
            due("'" + later + "' alone has a later fault", Checks.read(x, later) >= 3 ? 1 : 0, 1);
            fault(1, later + "~?");
            fault(1, later + "minute 1~");
            fault(1, later + "seed ~;");
            fault(2, later + "minute 1;".repeat(later.startsWith("minute") ? 9 : 10) + "~minute 1;");
            fault(2, later + "cures=((((((~(1)))))));");
            fault(2, later + "cures=" + "if 1<0 then 2 else ".repeat(4) + "~if 1<0 then 2 else 3;");
        }
        fault(2, "minute 6;" + "seed 1;".repeat(132) + "seed ~1;");
    }

    // "3 TWICE: a NAME told already; (at the INT) a LEASE of a PART let already."
    private static void twice() {
        fault(3, "family f 1 1;family ~f 2 2;");
        fault(3, "family f 1 1;family g 1 1;family ~g 1 1;family f 1 1;");
        fault(3, "family a 1 1;family b 1 1;family c 1 1;family d 1 1;family ~a 1 1;");
        fault(3, "family abcdefgh 1 1;family ~abcdefgh 1 1;");
        good("family abcdefgh 1 1;family abcdefgg 1 1;");
        fault(3, "family f 1 1;lease f 0;lease f ~0;");
        fault(3, "family f 1 1;lease f 7;lease f ~7;");
        fault(3, "family f 1 1;family g 1 1;lease f 7;lease g ~7;");
        fault(3, "family f 1 1;lease f 7;lease f 0;lease f ~007;");
        good("family f 1 1;lease f 7;lease f 0;lease f 6;");
        good("family f 1 1;lease f 1;dust 1;dust 1;minute 1;minute 1;coughs=1;coughs=1;seed 1;seed 1;");
    }

    // "4 NAME: (at it) no such FAMILY told ahead (a NAME told more than once is that of the first one)"
    private static void noSuchName() {
        fault(4, "lease ~f 1;");
        fault(4, "lease ~f 1;family f 1 1;");
        fault(4, "family f 1 1;lease ~g 1;family g 1 1;");
        fault(4, "family f 1 1;lease ~ff 1;");
        fault(4, "family ff 1 1;lease ~f 1;");
        fault(4, "family f 1 1;lease f 1;lease ~g 2;");
        good("family f 1 1;family g 1 1;lease g 1;lease f 2;");
        fault(3, "family f 1 1;family ~f 1 1;lease f 1;");
    }

    // "5 WRONG (at the INT): a number not as told above."
    private static void wrongNumbers() {
        String[][] tells = {{"minute ", "5", "6", ";"}, {"family f ", "9", "10", " 0;"}, {"family f 0 ", "5", "6", ";"},
            {"family f 0 0;lease f ", "7", "8", ";"}, {"dust ", "9", "10", ";"}, {"syrup ", "9", "10", ";"}};
        for (String[] tell : tells) {
            good(tell[0] + "0" + tell[3]);
            good(tell[0] + tell[1] + tell[3]);
            good(tell[0] + "000" + tell[1] + tell[3]);
            fault(5, tell[0] + "~" + tell[2] + tell[3]);
            fault(5, tell[0] + "  ~00" + tell[2] + tell[3]);
            fault(5, tell[0] + "~9999" + tell[3]);
        }
        good("seed 0;seed 9999;");
        good("coughs=9999;worth=9999*9999;rents=0-9999;cures=0000;");
    }

    // "likewise": of these three too the first by its place
    private static void laterFaultsByPlace() {
        String two = "family f 1 1;family g 1 1;lease f 1;";
        fault(3, two + "family ~f 10 1;");
        fault(5, two + "family h ~10 1;family f 1 1;");
        fault(3, two + "family ~f 1 1;lease x 1;");
        fault(4, two + "lease ~x 1;family f 1 1;");
        fault(4, two + "lease ~x 9;");
        fault(5, two + "lease f ~9;lease x 1;");
        fault(4, two + "lease ~x 1;lease g 1;");
        fault(3, two + "lease g ~1;lease x 1;");
        fault(3, two + "lease g ~1;lease g 9;");
        fault(5, two + "lease g ~9;lease g 1;");
        fault(5, "minute ~7;minute 8;dust 10;");
        fault(5, "dust ~10;minute 7;");
    }

    // Promise 5: "The byte of the latest read()'s FAULT; NONE without."
    private static void placeOfTheLatestRead() {
        CoughParts x = new CoughParts();
        due("place() ahead of all", x.place(), -1);
        Checks.put(x, "minute ?");
        due("place() ahead of read()", x.place(), -1);
        x.read();
        due("place()", x.place(), 7);
        due("place() again", x.place(), 7);
        Checks.put(x, "minute 1;");
        due("place() goes on till the next read()", x.place(), 7);
        x.weeks(1);
        x.hold(0);
        x.restore(0);
        x.undo();
        due("place() and other calls", x.place(), 7);
        x.read();
        due("place() of a good text", x.place(), -1);
        Checks.read(x, "?");
        due("place() at byte 0", x.place(), 0);
        x.read();
        due("place() of an empty text", x.place(), -1);
    }
}
