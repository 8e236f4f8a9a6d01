import java.lang.reflect.Method;
import java.nio.charset.StandardCharsets;
import java.util.ArrayList;
import java.util.Arrays;
import java.util.List;
import java.util.Random;

/** Asks the class and the slow model the same, run after run, and compares every answer. */
public final class FuzzTest {
    private static final int[] EDGES = {Integer.MIN_VALUE, -100, -3, -2, -1, 0, 1, 2, 3, 4, 5, 6, 7, 8, 9, 10, 11,
        19, 20, 21, 39, 40, 41, 255, 256, 1024, 2000, Integer.MAX_VALUE};

    /** Nothing is promised beyond these. */
    private static final int MOST_CALLS = 512;
    private static final int CALLS_TO_LOOK = 22 + 2 * 11 + 9 + 8 * 6;

    private final Random random;
    private final Checks checks;
    private final int run;
    private CoughParts x;
    private Model model;
    private int calls;

    private FuzzTest(int run, Checks checks) {
        this.run = run;
        this.checks = checks;
        this.random = new Random(run);
        renew();
    }

    public static void main(String[] args) throws ReflectiveOperationException {
        int from = args.length > 1 ? Integer.parseInt(args[1]) : 1;
        int runs = args.length > 2 ? Integer.parseInt(args[2]) : 400;
        Checks checks = new Checks("FuzzTest");
        for (int run = from; run < from + runs; run++) {
            FuzzTest test = new FuzzTest(run, checks);
            if (run % 2 == 0) {
                test.readTexts();
            } else {
                test.goThroughCalls();
            }
        }
        checks.end();
    }

    private void renew() {
        x = new CoughParts();
        model = new Model();
        calls = 0;
    }

    // ---- texts with and without faults

    private void readTexts() throws ReflectiveOperationException {
        for (int i = 0; i < 40; i++) {
            String text = random.nextInt(4) == 0 ? soup() : spoilt(text(random.nextInt(11)));
            if (calls + callsToRead(text) + CALLS_TO_LOOK > MOST_CALLS) {
                renew();
            }
            readBoth(text);
            lookAtAll();
        }
    }

    private static int callsToRead(String text) {
        return Math.min(100, text.length() / 20 + 1) + 3;
    }

    private long readBoth(String text) throws ReflectiveOperationException {
        byte[] bytes = text.getBytes(StandardCharsets.ISO_8859_1);
        int length = Math.min(bytes.length, 2000);
        for (int at = 0; at < length; at += 20) {
            call("feed", Checks.four(bytes, at), Checks.four(bytes, at + 4), Checks.four(bytes, at + 8),
                    Checks.four(bytes, at + 12), Checks.four(bytes, at + 16));
        }
        call("back", (20 - length % 20) % 20);
        long fault = call("read");
        long wrong = checks.wrong();
        call("place");
        if (checks.wrong() > wrong) {
            System.out.println("    fault " + fault + " of: " + text);
        }
        return fault;
    }

    private void lookAtAll() throws ReflectiveOperationException {
        for (int what = 0; what <= 21; what++) {
            call("count", what);
        }
        for (int minute = 0; minute <= model.count(0); minute++) {
            call("minute", minute, 0);
            call("minute", minute, 1);
        }
        for (int part = 0; part < 9; part++) {
            call("lease", part);
        }
        for (int family = 0; family <= model.count(1); family++) {
            for (int what = 0; what < 8; what++) {
                call("family", family, what);
            }
        }
    }

    /** Tokens without an order, but often ones that can follow. */
    private String soup() {
        String[] bits = {"minute", "family", "lease", "coughs", "worth", "rents", "cures", "dust", "syrup", "seed",
            "if", "then", "else", "now", "matter", "dusty", "week", "part", "which", "a", "abcdefgh", "abcdefghi", "0",
            "7", "9999", "12345", ";", "=", "+", "-", "*", "/", "<", "(", ")", "?", "A", "\u00e9", "\u0000"};
        String[] starts = {"minute 1", "family f 1 1", "lease f 1", "coughs = 1", "worth = if 1 < 2 then 3 else",
            "cures = (1 + 2", "rents =", "", "dust", "seed 1;", "coughs = if 1 + (2", "worth = if 1 < 2 then"};
        StringBuilder text = new StringBuilder(pick(starts));
        for (int i = random.nextInt(4); i >= 0; i--) {
            text.append(blank()).append(pick(bits));
        }
        return text.toString();
    }

    private String spoilt(String text) {
        StringBuilder spoilt = new StringBuilder(text);
        int times = random.nextInt(3);
        for (int i = 0; i < times && spoilt.length() > 0; i++) {
            int at = random.nextInt(spoilt.length());
            switch (random.nextInt(4)) {
                case 0 -> spoilt.deleteCharAt(at);
                case 1 -> spoilt.insert(at, "az09;=+-*/<() \n\t\r?if".charAt(random.nextInt(20)));
                case 2 -> spoilt.setCharAt(at, (char) random.nextInt(256));
                default -> spoilt.setLength(at);
            }
        }
        return spoilt.toString();
    }

    private String text(int minutes) {
        List<String> tells = new ArrayList<>();
        for (int i = 0; i < minutes; i++) {
            tells.add("minute " + (rarely() ? number() : random.nextInt(random.nextInt(6) + 1)));
        }
        if (rarely()) {
            tells.addAll(Arrays.asList("minute 1", "minute 1", "minute 1"));
        }
        int families = rarely() ? 6 : random.nextInt(12) == 0 ? 0 : 1 + random.nextInt(5);
        for (int i = 0; i < families; i++) {
            tells.add("family " + (rarely() ? "fa" : "f" + (char) ('a' + i)) + " " + (rarely() ? number() : random.nextInt(10))
                    + " " + (rarely() ? number() : random.nextInt(6)));
        }
        int leases = rarely() ? 9 : random.nextInt(9);
        int shift = random.nextInt(8);
        for (int i = 0; i < leases && (families > 0 || rarely()); i++) {
            tells.add("lease " + (rarely() ? "zz" : "f" + (char) ('a' + random.nextInt(Math.max(1, families)))) + " "
                    + (rarely() ? number() : (i * 3 + shift) % 8));
        }
        for (String law : new String[] {"coughs", "worth", "rents", "cures"}) {
            for (int i = random.nextInt(8) < 6 ? 1 : random.nextInt(3); i > 0; i--) {
                tells.add(random.nextInt(tells.size() + 1), law + blank() + "=" + blank() + law(law));
            }
        }
        for (String setting : new String[] {"dust", "syrup", "seed"}) {
            for (int i = random.nextInt(3); i > 0; i--) {
                tells.add(random.nextInt(tells.size() + 1),
                        setting + " " + (rarely() ? number() : random.nextInt(setting.equals("seed") ? 9999 : 10)));
            }
        }
        if (rarely()) {
            tells.add("cures = 1" + "+ 1".repeat(150 + random.nextInt(60)));
        }
        if (rarely()) {
            java.util.Collections.shuffle(tells, random);
        }
        StringBuilder text = new StringBuilder(blank());
        for (String tell : tells) {
            text.append(tell).append(blank()).append(';').append(blank());
        }
        return text.length() > 2000 ? text.substring(0, 2000) : text.toString();
    }

    private String law(String sort) {
        StringBuilder law = new StringBuilder();
        int ifs = rarely() ? 4 + random.nextInt(3) : random.nextInt(3);
        for (int i = 0; i < ifs; i++) {
            law.append("if ").append(sum(0)).append('<').append(sum(0)).append(" then ").append(sum(0)).append(" else ");
        }
        return law + (random.nextInt(4) == 0 ? sum(0) : likelyLaw(sort));
    }

    /** Laws whose answers are seldom all held to one end. */
    private String likelyLaw(String sort) {
        if (sort.equals("coughs")) {
            return pick("now", "matter", "dusty", "week - week/5*5", "2", "(now + 1) / 2", "4 - now")
                    + pick(" - sweet", "", "+ dusty", "- dusty/2");
        }
        if (sort.equals("worth")) {
            return pick("9 - matter", "1 + zeal - part", "8/(now + 1)", "dusty + sweet", "part", "(matter - love)*(matter - love)",
                    "3 + week/9 - dusty", "which + matter") + pick("", "", "- sweet/3", "+ now / 3");
        }
        return pick("zeal", "part * 2", "which", "30 - week", "dusty * 3 + part", "love", "0", "99 - zeal");
    }

    private String sum(int depth) {
        if (depth == 0 && random.nextInt(12) == 0) {
            return deepSum();
        }
        StringBuilder sum = new StringBuilder(unit(depth));
        for (int i = random.nextInt(depth > 1 ? 2 : 3); i > 0; i--) {
            sum.append(blank()).append(pick("+", "-", "*", "/")).append(blank()).append(unit(depth));
        }
        return sum.toString();
    }

    /** Brackets within one another; at each level a sum and a product wait, or now and then less. */
    private String deepSum() {
        boolean most = random.nextBoolean();
        int levels = rarely() ? 7 : most ? 6 : 3 + random.nextInt(4);
        String sum = pick("1+1*1", "9-now/2", "matter*love-3*which", "week", "5", "zeal+2/dusty");
        for (int i = 0; i < levels; i++) {
            sum = (most || random.nextBoolean() ? waiting() : pick("1-", "2*", "")) + "(" + sum + ")"
                    + pick("", "", "", "+1", "*2-now");
        }
        return sum;
    }

    private String waiting() {
        return pick("1+1*", "9-2*", "now+3/", "part-zeal/", "2+1*", "week+sweet-dusty*");
    }

    private String unit(int depth) {
        if (random.nextInt(200) == 0) {
            int open = 5 + random.nextInt(3);
            return "(".repeat(open) + "1" + ")".repeat(open);
        }
        return switch (random.nextInt(depth < 3 ? 5 : 4)) {
            case 0 -> rarely() ? number() : String.valueOf(random.nextInt(10));
            case 4 -> "(" + sum(depth + 1) + ")";
            default -> pick("now", "matter", "dusty", "sweet", "zeal", "love", "week", "part", "which");
        };
    }

    private String number() {
        return pick("0", "6", "7", "8", "9", "10", "00", "0005", "9999", "1234", "9876");
    }

    private String blank() {
        return pick(" ", " ", "", "  ", "\n", "\t", "\r\n");
    }

    private boolean rarely() {
        return random.nextInt(25) == 0;
    }

    private String pick(String... some) {
        return some[random.nextInt(some.length)];
    }

    // ---- runs of calls

    /**
     * What the arguments of each method mean: M minute, F family, P part, T matter, W what, C count's what, N weeks,
     * S seeds, K how many are known, O odds, L slot, B yes or no, X any number. A method may stand here often.
     */
    private static final String[] CALLS = {"back X", "place", "minute MW", "family FC", "lease P", "worth FMP", "change MM",
        "let PF", "let PX", "syrup B", "dust B", "weeks N", "weeks W", "undo", "undo", "odds O", "falls MP", "value FP", "have F",
        "mode MW", "mean", "both MM", "with PW", "with PC", "buy FW", "swap FW", "sure FT", "cover TW", "pepper F",
        "soothes F", "game FFW", "cure", "richest W", "likely W", "gains FN", "partsIn N", "year FNS", "tell MPB",
        "tell MWB", "tell MWB", "forget", "when KW", "when KW", "ask K", "hold L", "restore L", "count C", "count C"};

    private void goThroughCalls() throws ReflectiveOperationException {
        readBoth(goodText());
        while (calls + CALLS_TO_LOOK < MOST_CALLS) {
            if (random.nextInt(200) == 0) {
                readAnother();
            }
            String[] words = CALLS[random.nextInt(CALLS.length)].split(" ");
            if (words[0].equals("forget") && random.nextInt(4) > 0) {
                continue;
            }
            int arguments = words.length > 1 ? words[1].length() : 0;
            Object[] values = new Object[arguments];
            for (int j = 0; j < arguments; j++) {
                values[j] = argument(words[1].charAt(j));
            }
            call(words[0], values);
        }
        lookAtAll();
    }

    /** On an object with a past, mostly a good text. */
    private void readAnother() throws ReflectiveOperationException {
        String text = random.nextInt(3) == 0 ? spoilt(text(3)) : goodText();
        if (calls + callsToRead(text) + CALLS_TO_LOOK < MOST_CALLS) {
            readBoth(text);
        }
    }

    /** A text without a FAULT, as the model says. */
    private String goodText() {
        int minutes = random.nextInt(20) == 0 ? 7 + random.nextInt(4) : random.nextInt(7);
        for (int i = 0; i < 50; i++) {
            String text = text(minutes);
            if (Model.faultOf(text.getBytes(StandardCharsets.ISO_8859_1)) == 0) {
                return text;
            }
        }
        return "";
    }

    private Object argument(char kind) {
        if (kind == 'B') {
            return random.nextBoolean();
        }
        if (kind == 'X' || random.nextInt(30) == 0) {
            return EDGES[random.nextInt(EDGES.length)];
        }
        return switch (kind) {
            case 'M' -> random.nextInt(Math.max(1, model.count(0)));
            case 'F' -> random.nextInt(Math.max(1, model.count(1)));
            case 'P' -> random.nextInt(random.nextInt(8) + 1);
            case 'T' -> random.nextInt(6);
            case 'W' -> random.nextInt(random.nextInt(4) + 1);
            case 'C' -> random.nextInt(21);
            case 'N' -> random.nextInt(41);
            case 'S' -> random.nextInt(20) + 1;
            case 'K' -> random.nextInt(model.count(10) + 1);
            case 'O' -> random.nextInt(9);
            default -> random.nextInt(3);
        };
    }

    private long call(String name, Object... values) throws ReflectiveOperationException {
        Class<?>[] types = new Class<?>[values.length];
        for (int i = 0; i < values.length; i++) {
            types[i] = values[i] instanceof Boolean ? boolean.class : int.class;
        }
        calls++;
        long got = asLong(method(CoughParts.class, name, types).invoke(x, values));
        long want = asLong(method(Model.class, name, types).invoke(model, values));
        checks.due("run " + run + " " + name + Arrays.toString(values), got, want);
        return got;
    }

    private static Method method(Class<?> of, String name, Class<?>[] types) throws ReflectiveOperationException {
        Method method = of.getDeclaredMethod(name, types);
        method.setAccessible(true);
        return method;
    }

    private static long asLong(Object answer) {
        return answer instanceof Boolean b ? (b ? 1 : 0) : ((Integer) answer).longValue();
    }
}
