/** Terms II: each sentence that names a boundary of LAWS, lots, WEEKS and CASES, tried on both of its sides. */
public final class LawBoundsTest {
    private static final Checks CHECKS = new Checks("LawBoundsTest");

    /** 2147483647 and -2147483648. */
    private static final String MOST = "(9999*9999*21+9999*4790+8416)";
    private static final String LEAST = "(0-9999*9999*21-9999*4790-8417)";

    public static void main(String[] args) {
        firstIfThatHolds();
        wrapAround();
        roundedTowardsZero();
        dividedByZero();
        whatIsNotLookedAt();
        heldTo();
        heldInAllThatIsAsked();
        varsOfEachLaw();
        lots();
        weeksAsTheSeedHasThem();
        asItWasWhenTheWeekBegan();
        lastPart();
        noMinutes();
        cases();
        CHECKS.end();
    }

    private static void due(String call, long got, long want) {
        CHECKS.due(call, got, want);
    }

    /** All four LAWS as one E, which is 4 at most for all of them. */
    private static void everyLaw(int want, String law) {
        String laws = "coughs=" + law + ";";
        CoughParts x = Checks.of("minute 0;family f 0 0;" + laws);
        due(laws, x.minute(0, 1), want);
        laws = "worth=" + law + ";";
        x = Checks.of("minute 0;family f 0 0;lease f 0;" + laws);
        due(laws, x.worth(0, 0, 0), want);
        due("have by " + laws, x.have(0), 4 * want);
        laws = "rents=" + law + ";cures=" + law + ";";
        if (laws.length() < 1900) {
            x = Checks.of("family f 0 0;" + laws);
            due(laws, x.family(0, 5), want);
            due(laws, x.family(0, 6), want);
        }
    }

    // "the E of the first if that holds (one less than the other), else the last one"
    private static void firstIfThatHolds() {
        everyLaw(1, "if 1<2 then 1 else 2");
        everyLaw(2, "if 2<2 then 1 else 2");
        everyLaw(2, "if 3<2 then 1 else 2");
        everyLaw(1, "if 0-1<0 then 1 else 2");
        everyLaw(2, "if 0<0-1 then 1 else 2");
        String[] ifs = {"if A<1 then 1 else ", "if B<1 then 2 else ", "if C<1 then 3 else ", "if D<1 then 0 else "};
        int[] answers = {1, 2, 3, 0};
        for (int holds = 0; holds < 16; holds++) {
            StringBuilder law = new StringBuilder();
            int want = 4;
            for (int i = 3; i >= 0; i--) {
                want = (holds >> i & 1) == 0 ? want : answers[i];
            }
            for (int i = 0; i < 4; i++) {
                law.append(ifs[i].replaceAll("[A-D]", (holds >> i & 1) == 0 ? "1" : "0"));
            }
            everyLaw(want, law + "4");
        }
    }

    // "ints of 32 bits that wrap"
    private static void wrapAround() {
        everyLaw(1, "if 0<" + MOST + " then 1 else 2");
        everyLaw(1, "if " + MOST + "+1<0 then 1 else 2");
        everyLaw(1, "if " + LEAST + "<0 then 1 else 2");
        everyLaw(1, "if 0<" + LEAST + "-1 then 1 else 2");
        everyLaw(1, "if " + LEAST + "<" + MOST + " then 1 else 2");
        everyLaw(2, "if " + MOST + "<" + LEAST + " then 1 else 2");
        everyLaw(1, "if " + MOST + "<" + LEAST + "-1+1-2 then 2 else 1");
        everyLaw(3, MOST + "+1-" + LEAST + "+3");
        everyLaw(1, "if 0-" + LEAST + "<0 then 1 else 2");
        everyLaw(1, "if " + LEAST + "*(0-1)<0 then 1 else 2");
        everyLaw(1, "if " + LEAST + "/(0-1)<0 then 1 else 2");
        everyLaw(2, "8192*8*8192*8+2");
        everyLaw(3, "8192*8*8192*4/(0-8192*8*8192*4)*3");
        everyLaw(4, MOST + "*" + MOST + "+3");
    }

    // "/ rounded towards 0"
    private static void roundedTowardsZero() {
        everyLaw(3, "7/2");
        everyLaw(1, "4+(0-7)/2");
        everyLaw(1, "4+7/(0-2)");
        everyLaw(3, "(0-7)/(0-2)");
        everyLaw(0, "1/2");
        everyLaw(2, "2+(0-1)/2");
        everyLaw(2, "2+1/(0-2)");
        everyLaw(0, "0/7");
        everyLaw(1, "9999/9999");
        everyLaw(0, "9998/9999");
        everyLaw(1, "7/2/2");
        everyLaw(2, "7/2*2/3");
    }

    // "a LAW in which something that is looked at is divided by 0 is 0"
    private static void dividedByZero() {
        for (String zero : new String[] {"0", "(1-1)", "now", "week", "dusty", "(0*7)"}) {
            everyLaw(0, "3/" + zero);
            everyLaw(0, "0/" + zero);
            everyLaw(0, "4+1/" + zero);
            everyLaw(0, "1/" + zero + "+4");
            everyLaw(0, "4-0*(1/" + zero + ")");
            everyLaw(0, "(((((4+1/" + zero + ")))))");
            everyLaw(0, "if 1/" + zero + "<1 then 2 else 3");
            everyLaw(0, "if 1<1/" + zero + " then 2 else 3");
            everyLaw(0, "if 0<1 then 1/" + zero + "+2 else 3");
            everyLaw(0, "if 1<0 then 2 else 1/" + zero + "+3");
            everyLaw(0, "if 1<0 then 2 else if 1<0 then 2 else if 1<0 then 2 else if 1/" + zero + "<1 then 2 else 3");
            everyLaw(0, "if 1<0 then 2 else if 1<0 then 2 else if 1<0 then 2 else if 0<1 then 2/" + zero + " else 3");
        }
    }

    private static void whatIsNotLookedAt() {
        everyLaw(2, "if 0<1 then 2 else 1/0");
        everyLaw(3, "if 1<0 then 1/0 else 3");
        everyLaw(2, "if 0<1 then 2 else if 1/0<1 then 3 else 4");
        everyLaw(2, "if 0<1 then 2 else if 1<1/0 then 3 else 4");
        everyLaw(3, "if 1<0 then 1/0 else if 0<1 then 3 else 1/0");
        everyLaw(4, "if 1<0 then 1/0 else if 1<0 then 1/0 else if 1<0 then 1/0 else if 1<0 then 1/0 else 4");
    }

    // COUGHS "held to 0 .. 4", WORTH "held to 0 .. 9", RENTS and CURES "held to 0 .. 99"
    private static void heldTo() {
        int[] numbers = {-9999, -100, -2, -1, 0, 1, 3, 4, 5, 8, 9, 10, 11, 98, 99, 100, 101, 9999};
        for (int number : numbers) {
            dueHeld(number, number < 0 ? "0-" + -number : "" + number);
        }
        dueHeld(Integer.MAX_VALUE, MOST);
        dueHeld(Integer.MIN_VALUE, LEAST);
        dueHeld(Integer.MIN_VALUE, MOST + "+1");
        dueHeld(Integer.MAX_VALUE, LEAST + "-1");
    }

    private static void dueHeld(int number, String law) {
        CoughParts x = Checks.of("minute 0;family f 0 0;lease f 0;coughs=" + law + ";worth=" + law + ";rents=" + law
                + ";cures=" + law + ";");
        due("coughs=" + law, x.minute(0, 1), Math.max(0, Math.min(4, number)));
        due("worth=" + law, x.worth(0, 0, 0), Math.max(0, Math.min(9, number)));
        due("rents=" + law, x.family(0, 5), Math.max(0, Math.min(99, number)));
        due("cures=" + law, x.family(0, 6), Math.max(0, Math.min(99, number)));
    }

    /** What is held to a bound is so in all that stands on it, not only where it is asked for by itself. */
    private static void heldInAllThatIsAsked() {
        CoughParts more = Checks.of("minute 0;minute 1;family f 0 0;lease f 1;coughs=5;worth=10;rents=100;cures=100;");
        due("odds(2)", more.odds(2), 16);
        due("have", more.have(0), 144);
        due("surely coughs", more.count(17), 3);
        due("coughs added", more.count(18), 8);
        due("likely", more.likely(1), 16);
        due("cure", more.cure(), 1);
        due("gains", more.gains(0, 1), 9 - 99);
        more.weeks(1);
        due("gained", more.family(0, 3), 9);
        due("paid", more.family(0, 4), 99);
        CoughParts less = Checks.of("minute 0;minute 1;family f 0 0;lease f 0;coughs=0-1;worth=0-1;rents=0-1;cures=0-1;");
        due("odds(1)", less.odds(1), 16);
        due("have", less.have(0), 0);
        due("surely coughs", less.count(17), 0);
        due("coughs added", less.count(18), 0);
        due("likely", less.likely(0) * 100 + less.likely(1), 16);
        due("cure", less.cure(), 0);
        due("gains", less.gains(0, 40), 0);
        less.weeks(1);
        due("gained and paid", less.family(0, 3) + less.family(0, 4), 0);
    }

    // "a VAR not told for a LAW is 0 in it; dusty, sweet .. and week, for all"
    private static void varsOfEachLaw() {
        String[] vars = {"now", "matter", "dusty", "sweet", "zeal", "love", "week", "part", "which"};
        int[] coughs = {9, 5, 8, 7, 0, 0, 43, 0, 0};
        int[] worth = {9, 5, 8, 7, 9, 5, 43, 6, 4};
        int[] rents = {0, 0, 8, 7, 9, 5, 43, 8, 4};
        for (int i = 0; i < vars.length; i++) {
            CoughParts x = ofVars("coughs", vars[i], coughs[i]);
            due("coughs of " + vars[i], x.minute(9, 1), 3);
            x = ofVars("worth", vars[i], worth[i]);
            due("worth of " + vars[i], x.worth(4, 9, 6), 3);
            x = ofVars("rents", vars[i], rents[i]);
            due("rents of " + vars[i], x.family(4, 5), 3);
            x = ofVars("cures", vars[i], rents[i]);
            due("cures of " + vars[i], x.family(4, 6), 3);
        }
        CoughParts none = Checks.of("family a 0 0;family b 0 0;lease a 2;rents=part;cures=part;");
        due("no leases", none.family(1, 5) * 10 + none.family(1, 6), 0);
        due("one lease, whichever part", none.family(0, 5) * 10 + none.family(0, 6), 11);
        CoughParts moved = Checks.of("minute 4;minute 1;coughs=now*2+matter-2;");
        moved.change(0, 1);
        due("now is the place, matter goes", moved.minute(0, 1) * 10 + moved.minute(1, 1), 4);
    }

    /** The law is 3 just if the VAR is as much as given: MINUTE 9, FAMILY 4, eight LEASES, week 43. */
    private static CoughParts ofVars(String law, String var, int much) {
        CoughParts x = Checks.of("minute 0;".repeat(9) + "minute 5;family a 1 1;family b 1 1;family c 1 1;family d 1 1;"
                + "family e 9 5;lease e 0;lease e 1;lease e 2;lease e 3;lease e 4;lease e 5;lease e 6;lease e 7;dust 8;syrup 7;"
                + law + "=if " + var + "<" + much + " then 1 else if " + much + "<" + var + " then 2 else 3;");
        x.weeks(40);
        x.weeks(3);
        return x;
    }

    // "he coughs if LOT 4 of the SEED and 16 * the week and the MINUTE is less than COUGHS"
    private static void lots() {
        for (int seed : new int[] {0, 1, 7, 4095, 9998, 9999}) {
            for (int quarters = 0; quarters <= 4; quarters++) {
                CoughParts x = Checks.of("minute 0;".repeat(10) + "coughs=" + quarters + ";seed " + seed + ";");
                for (int i = 0; i < 12; i++) {
                    int week = x.count(2);
                    for (int minute = 0; minute < 10; minute++) {
                        due("seed " + seed + " week " + week + " minute " + minute + " by " + quarters, x.minute(minute, 2),
                                Checks.lot(4, seed, 16 * week + minute) < quarters ? 1 : 0);
                    }
                    x.weeks(i % 3 == 2 ? 40 : 1);
                }
            }
        }
    }

    private static int coughs(int seed, int week, int minutes, int quarters) {
        int set = 0;
        for (int minute = 0; minute < minutes; minute++) {
            set |= Checks.lot(4, seed, 16 * week + minute) < quarters ? 1 << minute : 0;
        }
        return set;
    }

    private static int part(int set, int minute) {
        return Math.min(7, Integer.bitCount(set & (1 << minute) - 1));
    }

    // "each FAMILY gains WORTH of all MINUTES in PARTS that are theirs, and pays RENTS. It is the next week."
    private static void weeksAsTheSeedHasThem() {
        for (int minutes : new int[] {1, 2, 9, 10}) {
            CoughParts x = Checks.of("minute 0;".repeat(minutes) + "family a 2 0;family b 3 0;lease a 0;lease a 7;"
                    + "lease b 1;lease b 6;coughs=3;worth=part+1;seed 9999;");
            int[] gained = new int[2];
            for (int week = 0; week < 60; week++) {
                int set = coughs(9999, week, minutes, 3);
                for (int minute = 0; minute < minutes; minute++) {
                    int part = part(set, minute);
                    gained[0] += part == 0 || part == 7 ? part + 1 : 0;
                    gained[1] += part == 1 || part == 6 ? part + 1 : 0;
                }
                due("week", x.weeks(1), week + 1);
                due("coughs of week " + week, x.count(5), set);
                due("parts of week " + week, x.count(6), part(set, minutes - 1) + 1);
                due("a gained by week " + week, x.family(0, 3), gained[0]);
                due("b gained by week " + week, x.family(1, 3), gained[1]);
                due("paid by week " + week, x.family(0, 4) * 1000 + x.family(1, 4), 2000 * (week + 1) + 3 * (week + 1));
            }
        }
    }

    // "all by how it was as it began"
    private static void asItWasWhenTheWeekBegan() {
        CoughParts x = Checks.of("minute 0;minute 0;family f 1 0;lease f 0;lease f 1;coughs=week*4;worth=week;rents=week*10;");
        x.weeks(1);
        due("week 0: no cough", x.count(5), 0);
        due("week 0: parts", x.count(6), 1);
        due("week 0: gained and paid", x.family(0, 3) * 100 + x.family(0, 4), 0);
        x.weeks(1);
        due("week 1: coughs", x.count(5), 3);
        due("week 1: parts", x.count(6), 2);
        due("week 1: gained and paid", x.family(0, 3) * 100 + x.family(0, 4), 210);
        x.weeks(2);
        due("weeks 2, 3: gained and paid", x.family(0, 3) * 100 + x.family(0, 4), (2 + 4 + 6) * 100 + 10 + 20 + 30);
    }

    // "how many MINUTES ahead of it have a cough behind them, 7 at most"
    private static void lastPart() {
        for (int minutes = 1; minutes <= 10; minutes++) {
            CoughParts x = Checks.of("minute 0;".repeat(minutes) + "coughs=4;family f 0 0;worth=1;lease f 7;");
            int all = 1 << 2 * minutes;
            for (int minute = 0; minute < minutes; minute++) {
                for (int part = 0; part < 8; part++) {
                    due("falls " + minute + " in " + part, x.falls(minute, part), part == Math.min(7, minute) ? all : 0);
                }
            }
            due("a cough behind the last minute makes no part", x.odds(Math.min(8, minutes)), all);
            x.weeks(1);
            due("parts of " + minutes, x.count(6), Math.min(8, minutes));
            due("coughs of " + minutes, x.count(5), (1 << minutes) - 1);
            due("gained in part 7", x.family(0, 3), Math.max(0, minutes - 7));
        }
    }

    // "(no MINUTES: 0)"
    private static void noMinutes() {
        CoughParts x = Checks.of("family f 3 0;lease f 0;");
        due("odds(0)", x.odds(0), 1);
        due("weeks", x.weeks(2), 2);
        due("coughs of nothing", x.count(5), 0);
        due("parts of nothing", x.count(6), 0);
        due("gained nothing", x.family(0, 3), 0);
        due("paid all the same", x.family(0, 4), 6);
        due("partsIn(1)", x.partsIn(1), 0);
        due("mean", x.mean(), 0);
    }

    // "A CASE: each of 4 to the power of how many MINUTES there are"
    private static void cases() {
        int all = 1;
        for (int minutes = 0; minutes <= 10; minutes++) {
            CoughParts x = Checks.of("minute 0;".repeat(minutes) + "coughs=1;");
            due("cases of " + minutes, x.count(7), all);
            int sum = 0;
            for (int p = 0; p <= 8; p++) {
                sum += x.odds(p);
            }
            due("odds of " + minutes + ", added", sum, all);
            for (int part = 0; part < 8; part++) {
                int held = 0;
                for (int much = 0; much <= 10; much++) {
                    held += x.with(part, much);
                }
                due("with of " + minutes + ", added", held, all);
            }
            all *= 4;
        }
        for (int quarters = 0; quarters <= 4; quarters++) {
            CoughParts x = Checks.of("minute 0;minute 0;coughs=" + quarters + ";");
            due("as many of its four cases as told", x.odds(2), 4 * quarters);
            due("each minute for itself", x.when(0, 0), quarters == 0 || quarters == 4 ? 1 : 4);
        }
    }
}
