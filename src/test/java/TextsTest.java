/** Texts with their faults and places, and laws with their answers (promises 4 and 5, the document's Terms). */
public final class TextsTest {
    private static final Checks CHECKS = new Checks("TextsTest");

    public static void main(String[] args) {
        tokens();
        syntax();
        endOfText();
        room();
        tokensTooMany();
        twiceNameWrong();
        whichFaultComesFirst();
        laws();
        lawsLookOnlyWhereTheyGo();
        lawsOfEachSort();
        deepestLaws();
        longestLaws();
        CHECKS.end();
    }

    private static void fault(int sort, String marked) {
        CHECKS.fault(sort, marked);
    }

    private static void good(String text) {
        CHECKS.good(text);
    }

    private static void tokens() {
        good("");
        good(" \t\r\n ");
        good("minute0;minute 1;\nminute\t0005\r;");
        good("family abcdefgh 9 5;lease abcdefgh 7;");
        good("coughs=if now<2then 3else 4;");
        good("cures=(((((( 1 ))))))+((((((2))))));");
        good("family minutes 1 1; family iff 1 1; family notes 0 0;");
        fault(1, "family ~abcdefghi 9 5;");
        fault(1, "minute ~00001;");
        fault(1, "minute 1; ~Minute 1;");
        fault(1, "family a~B 1 1;");
        fault(1, "minute 1~\u000b;");
        fault(1, "minute 1~\u0000;");
        fault(1, "minute 1;~\u00e9");
        fault(1, "minute 1;~\u00a0");
        fault(1, "minute 1~, minute 2;");
        fault(1, "~minut 1;");
        fault(1, "~minutes 1;");
    }

    private static void syntax() {
        fault(1, "~;");
        fault(1, "minute 1;~;");
        fault(1, "minute ~;");
        fault(1, "minute ~a;");
        fault(1, "minute 1 ~2;");
        fault(1, "minute ~-1;");
        fault(1, "family ~1 1 1;");
        fault(1, "family f ~g 1;");
        fault(1, "family f 1~;");
        fault(1, "family ~week 1 1;");
        fault(1, "family ~if 1 1;");
        fault(1, "family ~seed 1 1;");
        fault(1, "lease ~1 f;");
        fault(1, "lease f~;");
        fault(1, "coughs ~1;");
        fault(1, "coughs =~;");
        fault(1, "coughs = 1 ~2;");
        fault(1, "coughs = 1 + ~;");
        fault(1, "coughs = ~- 1;");
        fault(1, "coughs = 1 + ~* 1;");
        fault(1, "coughs = ~zealous;");
        fault(1, "coughs = ~minute;");
        fault(1, "coughs = (1~;");
        fault(1, "coughs = 1~);");
        fault(1, "coughs = (1)~);");
        fault(1, "coughs = (~);");
        fault(1, "coughs = 1 ~< 2;");
        fault(1, "coughs = (1 ~< 2);");
        fault(1, "coughs = if 1 ~then 2 else 3;");
        fault(1, "coughs = if 1 < 2 ~< 3 then 2 else 3;");
        fault(1, "coughs = if 1 < 2 then 3~;");
        fault(1, "coughs = if 1 < 2 then ~if 1 < 2 then 3 else 4 else 5;");
        fault(1, "coughs = if 1 < 2 then 3 else~;");
        fault(1, "coughs = (~if 1 < 2 then 3 else 4);");
        fault(1, "coughs = 1 + ~if 1 < 2 then 3 else 4;");
        fault(1, "coughs = 1 ~= 1;");
        fault(1, "dust ~= 1;");
        fault(1, "seed ~x;");
        fault(1, "~if 1 < 2 then 3 else 4;");
        good("coughs = if 1 < 2 then 3 else if 2 < 3 then 4 else 5;");
    }

    private static void endOfText() {
        fault(1, "minute 1~");
        fault(1, "minute 1  \n~");
        fault(1, "minute~");
        fault(1, "family f 1~");
        fault(1, "coughs = (1 + 2~");
        fault(1, "coughs = if 1 < 2 ~");
        fault(1, "seed 1;coughs~");
    }

    private static void room() {
        String ten = "minute 1;".repeat(10);
        String five = "family a 1 1;family b 1 1;family c 1 1;family d 1 1;family e 1 1;";
        String eight = "lease a 0;lease a 1;lease a 2;lease a 3;lease a 4;lease a 5;lease a 6;lease a 7;";
        good(ten + five + eight);
        fault(2, ten + "~minute 1;");
        fault(2, ten + "~minute ;");
        fault(2, five + "~family f 1 1;");
        fault(2, five + "~family a 1 1;");
        fault(2, five + eight + "~lease a 0;");
        fault(2, eight + "~lease a 0;");
        good("worth = " + "if 1 < 2 then 3 else ".repeat(4) + "4; rents = if 1 < 2 then 3 else 4;");
        fault(2, "worth = " + "if 1 < 2 then 3 else ".repeat(4) + "~if 1 < 2 then 3 else 4;");
        good("worth = ((((((1))))));");
        fault(2, "worth = ((((((~(1)))))));");
        fault(2, "worth = 1 + ((((((1 * ~(2))))))) ;");
        good("worth = ((((((1)))))) + ((((((1)))))) - (1) * (2);");
        good("worth = if ((((((1)))))) < ((((((2)))))) then ((((((3)))))) else ((((((4))))));");
    }

    private static void tokensTooMany() {
        String most = "dust 1;".repeat(133);
        good(most);
        fault(2, most + "dust ~1;");
        fault(1, most + "dust ~;");
        fault(1, most + "dust ~?");
        fault(1, most + "dust~");
        fault(1, most + "~1;");
        String law = "worth = 1" + "+1".repeat(198) + ";";
        good(law);
        fault(2, law + "~minute 1;");
        fault(2, "worth = 1" + "+1".repeat(198) + "+~1;");
        fault(2, "worth =(1" + "+1".repeat(198) + "~);");
        fault(1, "worth =(1" + "+1".repeat(198) + "~;");
    }

    private static void twiceNameWrong() {
        fault(3, "family f 1 1; family g 1 1; family ~f 1 1;");
        fault(3, "family f 1 1; lease f 3; lease f 4; lease f ~3;");
        fault(3, "family f 1 1; family g 1 1; lease f 3; lease g ~0003;");
        fault(4, "lease ~f 3; family f 1 1;");
        fault(4, "family f 1 1; lease ~ff 3;");
        fault(4, "lease ~f 8;");
        fault(5, "minute ~6;");
        fault(5, "minute ~9999;");
        fault(5, "family f ~10 5;");
        fault(5, "family f 9 ~6;");
        fault(5, "family f ~10 6;");
        fault(5, "family f 1 1; lease f ~8;");
        fault(5, "dust ~10; dust 1;");
        fault(5, "syrup ~10;");
        good("dust 9; syrup 9; seed 9999; seed 0; minute 5; coughs = 9999;");
    }

    private static void whichFaultComesFirst() {
        fault(1, "minute 6; minute 1 ~1;");
        fault(2, "minute 6;".repeat(10) + "~minute 1; oh");
        fault(1, "lease f 1; minute~");
        fault(5, "minute ~6; family f 1 1; family f 1 1; lease g 1;");
        fault(3, "family f 1 1; family ~f 10 6; lease g 9;");
        fault(4, "family f 1 1; lease ~g 1; lease f 1; minute 7;");
    }

    // ---- laws

    private static void law(int want, String law) {
        CoughParts x = Checks.of("minute 0; minute 3; dust 2; syrup 5; family e 8 1; family f 7 4; lease f 0; lease f 5; cures = " + law + ";");
        CHECKS.due("cures = " + law, x.family(1, 6), want);
    }

    private static void laws() {
        law(7, "1 + 2 * 3");
        law(9, "(1 + 2) * 3");
        law(5, "10 - 3 - 2");
        law(9, "10 - (3 - 2)");
        law(2, "20 / 5 / 2");
        law(8, "20 / 5 * 2");
        law(14, "2 * 10 - 3 * 2");
        law(3, "7 / 2");
        law(10, "13 + (0 - 7) / 2");
        law(13, "10 - 7 / (0 - 2)");
        law(99, "100");
        law(0, "1 - 2");
        law(8, "1+1*(1+1*(1+1*(1+1*(1+1*(1+1*(1+1*1))))))");
        law(15, "1-0*(1+1)+2*(3+4)");
        law(10, "(9999 / 10) / 99");
        law(99, "9999 * 9999 * 21");
        law(0, "9999 * 9999 * 22");
        law(99, "(0 - 9999 * 9999 * 22)");
        law(64, "0 - (0 - 64)");
        law(1, "if 1 < 2 then 1 else 2");
        law(2, "if 2 < 2 then 1 else 2");
        law(2, "if 2 < 1 then 1 else 2");
        law(3, "if 0 - 1 < 0 then 3 else 2");
        law(7, "if 2 < 1 then 5 else if 3 < 1 then 6 else if 1 < 3 then 7 else if 1 < 3 then 8 else 9");
        law(9, "if 2 < 1 then 5 else if 3 < 1 then 6 else if 4 < 3 then 7 else if 5 < 3 then 8 else 9");
        law(12, "1 + 2 - 3 * 4 / 5 + 11");
        CoughParts x = Checks.of("family f 1 1; cures = 1" + "+1-1".repeat(97) + "+1;");
        CHECKS.due("a law of 394 tokens", x.family(0, 6), 2);
    }

    private static void lawsLookOnlyWhereTheyGo() {
        law(0, "5 / 0");
        law(0, "90 + 5 / 0");
        law(0, "5 - 0 * (1 / (2 - 2))");
        law(5, "if 1 < 2 then 5 else 1 / 0");
        law(6, "if 2 < 1 then 1 / 0 else 6");
        law(0, "if 1 / 0 < 1 then 5 else 6");
        law(0, "if 1 < 1 / 0 then 5 else 6");
        law(0, "if 1 < 2 then 1 / 0 else 6");
        law(5, "if 1 < 2 then 5 else if 1 / 0 < 1 then 2 else 6");
        law(0, "if 2 < 1 then 5 else if 1 / 0 < 1 then 2 else 6");
        law(0, "0 / 0");
    }

    private static void lawsOfEachSort() {
        law(7, "zeal");
        law(4, "love");
        law(2, "part");
        law(1, "which");
        law(2, "dusty");
        law(5, "sweet");
        law(0, "now + matter + week");
        String text = "minute 0; minute 3; dust 2; syrup 5; family e 8 1; family f 7 4; lease f 0; lease f 5;";
        String[] vars = {"now", "matter", "dusty", "sweet", "zeal", "love", "week", "part", "which"};
        int[] worth = {1, 3, 2, 5, 7, 4, 3, 6, 1};
        int[] rents = {0, 0, 2, 5, 7, 4, 3, 2, 1};
        int[] coughs = {1, 3, 2, 4, 0, 0, 3, 0, 0};
        for (int i = 0; i < vars.length; i++) {
            CoughParts x = Checks.of(text + "worth = " + vars[i] + "; rents = 1; rents = " + vars[i] + "; coughs = " + vars[i] + ";");
            x.weeks(3);
            CHECKS.due("worth = " + vars[i], x.worth(1, 1, 6), worth[i]);
            CHECKS.due("rents = " + vars[i], x.family(1, 5), rents[i]);
            CHECKS.due("coughs = " + vars[i], x.minute(1, 1), coughs[i]);
        }
        CoughParts x = Checks.of(text);
        CHECKS.due("coughs not told", x.minute(1, 1), 1);
        CHECKS.due("worth not told", x.worth(1, 1, 6), 1);
        CHECKS.due("rents not told", x.family(1, 5), 7);
        CHECKS.due("cures not told", x.family(1, 6), 0);
        Checks.read(x, "minute 1; coughs = 3;");
        Checks.read(x, "minute 1;");
        CHECKS.due("a law of the text ahead is gone", x.minute(0, 1), 1);
    }

    // ---- laws as deep and as long as they may be

    private static void deepestLaws() {
        String[] eights = {deepest("1+1*", "1+1*1", ""), deepest("9-1*", "9-1*1", ""), deepest("7+9/", "7+9/9", ""),
            deepest("1+1*", "2-2/2+1*1", "*1/1+1-1"), deepest("0+1*", "8", ""), deepest("", "2", "*1+1"),
            deepest("zeal-2+1*", "zeal-1*1", "")};
        for (String eight : eights) {
            for (int ifs = 0; ifs < 4; ifs++) {
                inEveryPlace("if 1<0 then 9 else ".repeat(ifs), eight);
            }
            everyLaw(8, "if 1<0 then 9 else ".repeat(4) + eight);
        }
        String eight = eights[0];
        everyLaw(8, "if " + eight + "<" + eight + " then " + eight + "-8 else if 1+" + eight + "<" + eight + " then "
                + eight + "-8 else " + eight);
    }

    /** Six brackets within one another, at each level with what stands ahead of the bracket and behind it. */
    private static String deepest(String ahead, String inmost, String behind) {
        return (ahead + "(").repeat(6) + inmost + (")" + behind).repeat(6);
    }

    private static void inEveryPlace(String ifs, String eight) {
        everyLaw(8, ifs + eight);
        everyLaw(2, ifs + "if " + eight + "<9 then 2 else 3");
        everyLaw(3, ifs + "if " + eight + "<8 then 2 else 3");
        everyLaw(2, ifs + "if 7<" + eight + " then 2 else 3");
        everyLaw(3, ifs + "if 8<" + eight + " then 2 else 3");
        everyLaw(2, ifs + "if " + eight + "<1+" + eight + " then 2 else 3");
        everyLaw(3, ifs + "if " + eight + "<" + eight + " then 2 else 3");
        everyLaw(8, ifs + "if 0<1 then " + eight + " else 3");
        everyLaw(8, ifs + "if 1<0 then 3 else " + eight);
    }

    private static void everyLaw(int want, String law) {
        CoughParts x = Checks.of("family f 3 0;lease f 0;minute 0;worth=" + law + ";");
        CHECKS.due("worth=" + law, x.worth(0, 0, 0), want);
        CHECKS.due("have by worth=" + law, x.have(0), 4 * want);
        x = Checks.of("family f 3 0;rents=" + law + ";");
        CHECKS.due("rents=" + law, x.family(0, 5), want);
        x = Checks.of("family f 3 0;cures=" + law + ";");
        CHECKS.due("cures=" + law, x.family(0, 6), want);
        if (!law.contains("zeal")) {
            x = Checks.of("minute 0;coughs=" + law + ";");
            CHECKS.due("coughs=" + law, x.minute(0, 1), Math.min(4, want));
        }
    }

    private static void longestLaws() {
        String one = "1" + "+1-1".repeat(4);
        String longest = ("if " + one + "<" + one + " then 2 else ").repeat(4) + one;
        everyLaw(1, longest + "+1-1".repeat(50));
        everyLaw(1, "1" + "*7/7".repeat(96));
        everyLaw(1, "1" + "/1-0*9+0".repeat(48));
        CoughParts x = Checks.of("minute 0;coughs=2" + "+1-1".repeat(98) + ";");
        CHECKS.due("a law of 396 tokens", x.minute(0, 1), 2);
        x = Checks.of("minute 0;coughs=if 2" + "+1-1".repeat(96) + "<3 then 2 else 1;");
        CHECKS.due("an if of 391 tokens", x.minute(0, 1), 2);
    }
}
