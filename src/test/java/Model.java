import java.util.ArrayList;
import java.util.Arrays;
import java.util.HashMap;
import java.util.HashSet;
import java.util.List;
import java.util.Map;
import java.util.Set;
import java.util.TreeMap;

/**
 * The document once more, written as slowly and plainly as can be: faults by an Earley recogniser over the
 * document's grammar, chances by going through every CASE one by one, undoing by whole copies.
 */
final class Model {
    static final int NO_NUMBER = -100000000;

    // ---- the text

    record Token(String kind, String spelt, int place) { }

    private static final Set<String> WORDS = new HashSet<>(Arrays.asList("minute", "family", "lease", "coughs",
            "worth", "rents", "cures", "dust", "syrup", "seed", "if", "then", "else", "now", "matter", "dusty",
            "sweet", "zeal", "love", "week", "part", "which"));

    private static final String[][] GRAMMAR = {
        {"text"}, {"text", "text", "TELL"},
        {"TELL", "minute", "INT", ";"}, {"TELL", "family", "NAME", "INT", "INT", ";"},
        {"TELL", "lease", "NAME", "INT", ";"}, {"TELL", "LAWWORD", "LAW", ";"},
        {"LAWWORD", "coughs"}, {"LAWWORD", "worth"}, {"LAWWORD", "rents"}, {"LAWWORD", "cures"},
        {"TELL", "dust", "INT", ";"}, {"TELL", "syrup", "INT", ";"}, {"TELL", "seed", "INT", ";"},
        {"LAW", "=", "IFS", "E"}, {"IFS"}, {"IFS", "IFS", "if", "E", "<", "E", "then", "E", "else"},
        {"E", "PART"}, {"E", "E", "+", "PART"}, {"E", "E", "-", "PART"},
        {"PART", "UNIT"}, {"PART", "PART", "*", "UNIT"}, {"PART", "PART", "/", "UNIT"},
        {"UNIT", "INT"}, {"UNIT", "VAR"}, {"UNIT", "(", "E", ")"},
        {"VAR", "now"}, {"VAR", "matter"}, {"VAR", "dusty"}, {"VAR", "sweet"}, {"VAR", "zeal"},
        {"VAR", "love"}, {"VAR", "week"}, {"VAR", "part"}, {"VAR", "which"},
    };

    private static List<Token> tokens(byte[] bytes) {
        List<Token> list = new ArrayList<>();
        String all = new String(bytes, java.nio.charset.StandardCharsets.ISO_8859_1);
        java.util.regex.Matcher matcher = java.util.regex.Pattern
                .compile("[a-z]+|[0-9]+|[\\x00-\\xff&&[^\\t\\n\\r ]]").matcher(all);
        while (matcher.find()) {
            String spelt = matcher.group();
            String kind = "?";
            if (spelt.matches("[a-z]{1,8}")) {
                kind = WORDS.contains(spelt) ? spelt : "NAME";
            } else if (spelt.matches("[0-9]{1,4}")) {
                kind = "INT";
            } else if (spelt.matches("[;=+*/<()-]")) {
                kind = spelt;
            }
            list.add(new Token(kind, spelt, matcher.start()));
        }
        list.add(new Token("END", "", bytes.length));
        return list;
    }

    private record Item(int rule, int dot, int from) { }

    private static String nextOf(Item item) {
        String[] rule = GRAMMAR[item.rule()];
        return item.dot() + 1 < rule.length ? rule[item.dot() + 1] : null;
    }

    private static boolean isSort(String symbol) {
        for (String[] rule : GRAMMAR) {
            if (rule[0].equals(symbol)) {
                return true;
            }
        }
        return false;
    }

    private static void addAll(List<Item> row, Set<Item> seen, List<Item> more) {
        for (Item item : more) {
            if (seen.add(item)) {
                row.add(item);
            }
        }
    }

    private static List<Item> complete(List<Item> begin, List<List<Item>> rows, int at) {
        List<Item> row = new ArrayList<>();
        Set<Item> seen = new HashSet<>();
        addAll(row, seen, begin);
        rows.add(row);
        boolean grown = true;
        while (grown) {
            int size = row.size();
            for (int i = 0; i < row.size(); i++) {
                Item item = row.get(i);
                String next = nextOf(item);
                List<Item> more = new ArrayList<>();
                if (next == null) {
                    for (Item waiting : new ArrayList<>(rows.get(item.from()))) {
                        if (GRAMMAR[item.rule()][0].equals(nextOf(waiting))) {
                            more.add(new Item(waiting.rule(), waiting.dot() + 1, waiting.from()));
                        }
                    }
                } else if (isSort(next)) {
                    for (int rule = 0; rule < GRAMMAR.length; rule++) {
                        if (GRAMMAR[rule][0].equals(next)) {
                            more.add(new Item(rule, 0, at));
                        }
                    }
                }
                addAll(row, seen, more);
            }
            grown = row.size() > size;
        }
        return row;
    }

    /** The index of the first token with which no text goes on; as many as there are, if there is none. */
    private static int firstBad(List<Token> tokens) {
        List<List<Item>> rows = new ArrayList<>();
        List<Item> row = complete(List.of(new Item(0, 0, 0), new Item(1, 0, 0)), rows, 0);
        for (int i = 0; i < tokens.size(); i++) {
            String kind = tokens.get(i).kind();
            if (kind.equals("END")) {
                boolean whole = false;
                for (Item item : row) {
                    whole |= GRAMMAR[item.rule()][0].equals("text") && item.from() == 0 && nextOf(item) == null;
                }
                return whole ? tokens.size() : i;
            }
            List<Item> stepped = new ArrayList<>();
            for (Item item : row) {
                if (kind.equals(nextOf(item))) {
                    stepped.add(new Item(item.rule(), item.dot() + 1, item.from()));
                }
            }
            if (stepped.isEmpty()) {
                return i;
            }
            row = complete(stepped, rows, i + 1);
        }
        return tokens.size();
    }

    private static int firstWithoutRoom(List<Token> tokens) {
        Map<String, Integer> most = Map.of("minute", 10, "family", 5, "lease", 8);
        Map<String, Integer> told = new HashMap<>();
        int ifs = 0;
        int open = 0;
        for (int i = 0; i < tokens.size(); i++) {
            String kind = tokens.get(i).kind();
            if (kind.equals("END") || kind.equals("?")) {
                break;
            }
            if (i == 400) {
                return i;
            }
            if (most.containsKey(kind) && told.merge(kind, 1, Integer::sum) > most.get(kind)) {
                return i;
            }
            ifs = kind.equals("=") ? 0 : kind.equals("if") ? ifs + 1 : ifs;
            open = kind.equals("(") ? open + 1 : kind.equals(")") ? open - 1 : kind.equals(";") ? 0 : open;
            if (ifs > 4 || open > 6) {
                return i;
            }
        }
        return tokens.size();
    }

    private interface Law {
        int of(int[] vars);
    }

    private static final class ByZero extends RuntimeException {
        private static final long serialVersionUID = 1;
    }

    private static final List<String> VARS =
            List.of("now", "matter", "dusty", "sweet", "zeal", "love", "week", "part", "which");

    private static final class Family {
        String name;
        int zeal;
        int love;
    }

    private static final class Told {
        final List<Integer> matters = new ArrayList<>();
        final List<Family> families = new ArrayList<>();
        final TreeMap<Integer, Integer> owners = new TreeMap<>();
        final Map<String, Law> laws = new HashMap<>(
                Map.of("coughs", v -> 1, "worth", v -> 1, "rents", v -> v[4], "cures", v -> 0));
        int dust;
        int syrup;
        int seed;
    }

    private List<Token> tokens;
    private int at;

    private Token next() {
        return tokens.get(at++);
    }

    private boolean isNext(String... kinds) {
        return Arrays.asList(kinds).contains(tokens.get(at).kind());
    }

    private Law law() {
        next();
        return lawRest();
    }

    private Law lawRest() {
        if (!isNext("if")) {
            return sum();
        }
        next();
        Law left = sum();
        next();
        Law right = sum();
        next();
        Law then = sum();
        next();
        Law rest = lawRest();
        return v -> left.of(v) < right.of(v) ? then.of(v) : rest.of(v);
    }

    private Law sum() {
        Law law = product();
        while (isNext("+", "-")) {
            Law left = law;
            boolean plus = next().kind().equals("+");
            Law right = product();
            law = v -> plus ? left.of(v) + right.of(v) : left.of(v) - right.of(v);
        }
        return law;
    }

    private Law product() {
        Law law = unit();
        while (isNext("*", "/")) {
            Law left = law;
            boolean times = next().kind().equals("*");
            Law right = unit();
            law = times ? v -> left.of(v) * right.of(v) : v -> divided(left.of(v), right.of(v));
        }
        return law;
    }

    private static int divided(int left, int right) {
        if (right == 0) {
            throw new ByZero();
        }
        return (int) ((long) left / (long) right);
    }

    private Law unit() {
        Token token = next();
        if (token.kind().equals("INT")) {
            int number = Integer.parseInt(token.spelt());
            return v -> number;
        }
        if (token.kind().equals("(")) {
            Law law = sum();
            next();
            return law;
        }
        int var = VARS.indexOf(token.kind());
        return v -> v[var];
    }

    private int fault;
    private int faultPlace;

    private void meant(int sort, Token token) {
        if (fault == 0) {
            fault = sort;
            faultPlace = token.place();
        }
    }

    private int number(int most) {
        Token token = next();
        int number = Integer.parseInt(token.spelt());
        if (number > most) {
            meant(5, token);
        }
        return number;
    }

    private Told meaning() {
        Told told = new Told();
        at = 0;
        while (!isNext("END")) {
            String sort = next().kind();
            switch (sort) {
                case "minute" -> told.matters.add(number(5));
                case "family" -> {
                    Family family = new Family();
                    Token name = next();
                    family.name = name.spelt();
                    if (told.families.stream().anyMatch(f -> f.name.equals(name.spelt()))) {
                        meant(3, name);
                    }
                    family.zeal = number(9);
                    family.love = number(5);
                    told.families.add(family);
                }
                case "lease" -> {
                    Token name = next();
                    int which = -1;
                    for (int i = told.families.size() - 1; i >= 0; i--) {
                        which = told.families.get(i).name.equals(name.spelt()) ? i : which;
                    }
                    if (which < 0) {
                        meant(4, name);
                    }
                    Token part = tokens.get(at);
                    int number = number(7);
                    if (told.owners.containsKey(number)) {
                        meant(3, part);
                    }
                    told.owners.put(number, which);
                }
                case "dust" -> told.dust = number(9);
                case "syrup" -> told.syrup = number(9);
                case "seed" -> told.seed = number(9999);
                default -> told.laws.put(sort, law());
            }
            next();
        }
        return told;
    }

    // ---- what goes on

    private static final class Now {
        int[] matters;
        int[] owners = {-2, -2, -2, -2, -2, -2, -2, -2};
        int dust;
        int syrup;
        int week;
        int[] gained = new int[5];
        int[] paid = new int[5];
        int coughed;
        int parts = -2;

        Now copy() {
            Now other = new Now();
            other.matters = matters.clone();
            other.owners = owners.clone();
            other.dust = dust;
            other.syrup = syrup;
            other.week = week;
            other.gained = gained.clone();
            other.paid = paid.clone();
            other.coughed = coughed;
            other.parts = parts;
            return other;
        }
    }

    private byte[] tape = {};
    private Told text = new Told();
    private Now now = new Now();
    private final List<Now> undos = new ArrayList<>();
    private final Now[] slots = new Now[3];
    private final List<int[]> told = new ArrayList<>();
    private int place = -1;

    Model() {
        now.matters = new int[0];
    }

    private int n() {
        return now.matters.length;
    }

    private boolean noMinute(int minute) {
        return minute < 0 || minute >= n();
    }

    private boolean noFamily(int family) {
        return family < 0 || family >= text.families.size();
    }

    private static boolean noPart(int part) {
        return part < 0 || part > 7;
    }

    private int law(String law, int most, int... vars) {
        try {
            return Math.max(0, Math.min(most, text.laws.get(law).of(vars)));
        } catch (ByZero zero) {
            return 0;
        }
    }

    private int coughs(Now s, int minute) {
        return law("coughs", 4, minute, s.matters[minute], s.dust, s.syrup, 0, 0, s.week, 0, 0);
    }

    private int worth(Now s, int family, int minute, int part) {
        Family f = text.families.get(family);
        return law("worth", 9, minute, s.matters[minute], s.dust, s.syrup, f.zeal, f.love, s.week, part, family);
    }

    private int ofFamily(Now s, String law, int family) {
        Family f = text.families.get(family);
        int leases = (int) Arrays.stream(s.owners).filter(o -> o == family).count();
        return law(law, 99, 0, 0, s.dust, s.syrup, f.zeal, f.love, s.week, leases, family);
    }

    private static int lot(int n, int seed, int which) {
        int h = seed;
        for (int it : new int[] {167, which}) {
            h = (h ^ it) * 1103515245 + 12345;
            h = h ^ (h >>> 15);
        }
        return (h >>> 1) % n;
    }

    private static int part(int set, int minute) {
        int part = 0;
        for (int m = 0; m < minute; m++) {
            part += set >> m & 1;
        }
        return Math.min(7, part);
    }

    private int parts(int set) {
        return n() == 0 ? 0 : part(set, n() - 1) + 1;
    }

    private void preach(Now s, int seed) {
        int set = 0;
        for (int m = 0; m < n(); m++) {
            if (lot(4, seed, 16 * s.week + m) < coughs(s, m)) {
                set |= 1 << m;
            }
        }
        for (int f = 0; f < text.families.size(); f++) {
            for (int m = 0; m < n(); m++) {
                if (s.owners[part(set, m)] == f) {
                    s.gained[f] += worth(s, f, m, part(set, m));
                }
            }
            s.paid[f] += ofFamily(s, "rents", f);
        }
        s.coughed = set;
        s.parts = parts(set);
        s.week++;
    }

    private Now later(int n, int seed) {
        Now s = now.copy();
        for (int i = 0; i < n; i++) {
            preach(s, seed);
        }
        return s;
    }

    private static final Map<String, int[]> WEIGHED = new HashMap<>();

    /** How many CASES each set of coughs has: every CASE is gone through. */
    private int[] cases(Now s) {
        int[] coughs = new int[n()];
        for (int m = 0; m < n(); m++) {
            coughs[m] = coughs(s, m);
        }
        return WEIGHED.computeIfAbsent(Arrays.toString(coughs), key -> {
            int[] sets = new int[1 << coughs.length];
            for (int c = 0; c < 1 << 2 * coughs.length; c++) {
                int set = 0;
                for (int m = 0; m < coughs.length; m++) {
                    set |= (c >> 2 * m & 3) < coughs[m] ? 1 << m : 0;
                }
                sets[set]++;
            }
            return sets;
        });
    }

    private interface Holds {
        boolean in(int set);
    }

    private int inCases(Holds holds) {
        int[] cases = cases(now);
        int sum = 0;
        for (int set = 0; set < cases.length; set++) {
            sum += holds.in(set) ? cases[set] : 0;
        }
        return sum;
    }

    private int value(Now s, int family, int part) {
        int[] cases = cases(s);
        int sum = 0;
        for (int set = 0; set < cases.length; set++) {
            for (int m = 0; m < n(); m++) {
                sum += cases[set] > 0 && part(set, m) == part ? cases[set] * worth(s, family, m, part) : 0;
            }
        }
        return sum;
    }

    private int have(Now s, int family) {
        int sum = 0;
        for (int p = 0; p < 8; p++) {
            sum += s.owners[p] == family ? value(s, family, p) : 0;
        }
        return sum;
    }

    private int bitsOf(Now s, int owner) {
        int bits = 0;
        for (int p = 0; p < 8; p++) {
            bits |= s.owners[p] == owner ? 1 << p : 0;
        }
        return bits;
    }

    // ---- the face

    public int feed(int a, int b, int c, int d, int e) {
        if (tape.length + 20 > 2000) {
            return -1;
        }
        java.nio.ByteBuffer buffer = java.nio.ByteBuffer.allocate(tape.length + 20);
        buffer.put(tape).putInt(a).putInt(b).putInt(c).putInt(d).putInt(e);
        tape = buffer.array();
        return tape.length;
    }

    public int back(int n) {
        if (n < 0 || n > tape.length) {
            return -1;
        }
        tape = Arrays.copyOf(tape, tape.length - n);
        return tape.length;
    }

    public int read() {
        tokens = tokens(tape);
        tape = new byte[0];
        fault = 0;
        faultPlace = -1;
        int bad = firstBad(tokens);
        int full = firstWithoutRoom(tokens.subList(0, Math.min(bad, tokens.size())));
        Told draft = null;
        if (full < Math.min(bad, tokens.size())) {
            meant(2, tokens.get(full));
        } else if (bad < tokens.size()) {
            meant(1, tokens.get(bad));
        } else {
            draft = meaning();
        }
        place = faultPlace;
        if (fault != 0) {
            return fault;
        }
        text = draft;
        now = new Now();
        now.matters = text.matters.stream().mapToInt(i -> i).toArray();
        text.owners.forEach((part, owner) -> now.owners[part] = owner);
        now.dust = text.dust;
        now.syrup = text.syrup;
        undos.clear();
        told.clear();
        Arrays.fill(slots, null);
        return 0;
    }

    /** The FAULT that a text would have, without an object that is asked for it. */
    static int faultOf(byte[] text) {
        Model model = new Model();
        model.tape = text;
        return model.read();
    }

    public int place() {
        return place;
    }

    public int minute(int minute, int what) {
        if (noMinute(minute) || what < 0 || what > 2) {
            return -1;
        }
        int coughs = coughs(now, minute);
        int lot = lot(4, text.seed, 16 * now.week + minute);
        return what == 0 ? now.matters[minute] : what == 1 ? coughs : lot < coughs ? 1 : 0;
    }

    public int family(int family, int what) {
        if (noFamily(family)) {
            return -1;
        }
        return switch (what) {
            case 0 -> text.families.get(family).zeal;
            case 1 -> text.families.get(family).love;
            case 2 -> bitsOf(now, family);
            case 3 -> now.gained[family];
            case 4 -> now.paid[family];
            case 5 -> ofFamily(now, "rents", family);
            case 6 -> ofFamily(now, "cures", family);
            default -> -1;
        };
    }

    public int lease(int part) {
        return noPart(part) ? -1 : now.owners[part];
    }

    public int worth(int family, int minute, int part) {
        return noFamily(family) || noMinute(minute) || noPart(part) ? -1 : worth(now, family, minute, part);
    }

    private void done() {
        undos.add(now);
        if (undos.size() > 40) {
            undos.remove(0);
        }
        now = now.copy();
    }

    private static void exchange(Now s, int minute, int other) {
        int matter = s.matters[minute];
        s.matters[minute] = s.matters[other];
        s.matters[other] = matter;
    }

    public boolean change(int minute, int other) {
        if (noMinute(minute) || noMinute(other) || now.matters[minute] == now.matters[other]) {
            return false;
        }
        done();
        exchange(now, minute, other);
        return true;
    }

    public boolean let(int part, int family) {
        int owner = family == -1 ? -2 : family;
        if (noPart(part) || (family != -1 && noFamily(family)) || now.owners[part] == owner) {
            return false;
        }
        done();
        now.owners[part] = owner;
        return true;
    }

    public boolean syrup(boolean more) {
        if (now.syrup == (more ? 9 : 0)) {
            return false;
        }
        done();
        now.syrup += more ? 1 : -1;
        return true;
    }

    public boolean dust(boolean more) {
        if (now.dust == (more ? 9 : 0)) {
            return false;
        }
        done();
        now.dust += more ? 1 : -1;
        return true;
    }

    public int weeks(int n) {
        if (n < 0 || n > 40) {
            return -1;
        }
        if (n > 0) {
            done();
            now = later(n, text.seed);
        }
        return now.week;
    }

    public boolean undo() {
        if (undos.isEmpty()) {
            return false;
        }
        now = undos.remove(undos.size() - 1);
        return true;
    }

    public int odds(int p) {
        return p < 0 || p > 8 ? -1 : inCases(set -> parts(set) == p);
    }

    public int falls(int minute, int part) {
        return noMinute(minute) || noPart(part) ? -1 : inCases(set -> part(set, minute) == part);
    }

    public int value(int family, int part) {
        return noFamily(family) || noPart(part) ? -1 : value(now, family, part);
    }

    public int have(int family) {
        return noFamily(family) ? -1 : have(now, family);
    }

    public int mode(int minute, int what) {
        if (noMinute(minute) || what < 0 || what > 1) {
            return -1;
        }
        int best = 7;
        for (int p = 6; p >= 0; p--) {
            best = falls(minute, p) >= falls(minute, best) ? p : best;
        }
        return what == 0 ? best : falls(minute, best);
    }

    public int mean() {
        int[] cases = cases(now);
        int sum = 0;
        for (int set = 0; set < cases.length; set++) {
            sum += cases[set] * parts(set);
        }
        return sum;
    }

    public int both(int minute, int other) {
        return noMinute(minute) || noMinute(other) ? -1 : inCases(set -> part(set, minute) == part(set, other));
    }

    public int with(int part, int much) {
        if (noPart(part) || much < 0 || much > 10) {
            return -1;
        }
        return inCases(set -> {
            int in = 0;
            for (int m = 0; m < n(); m++) {
                in += part(set, m) == part ? 1 : 0;
            }
            return in == much;
        });
    }

    public int buy(int family, int what) {
        if (noFamily(family) || what < 0 || what > 1) {
            return -1;
        }
        int best = -2;
        for (int p = 7; p >= 0; p--) {
            if (now.owners[p] == -2 && (best < 0 || value(now, family, p) >= value(now, family, best))) {
                best = p;
            }
        }
        return what == 0 || best < 0 ? best : value(now, family, best);
    }

    public int swap(int family, int what) {
        if (noFamily(family) || what < 0 || what > 1) {
            return -1;
        }
        int most = have(now, family);
        int best = -2;
        for (int a = 0; a < n(); a++) {
            for (int b = a + 1; b < n(); b++) {
                Now s = now.copy();
                exchange(s, a, b);
                int much = have(s, family);
                if (much > most) {
                    most = much;
                    best = 10 * a + b;
                }
            }
        }
        return what == 0 || best == -2 ? best : most;
    }

    private int meets(int parts, int matter) {
        return inCases(set -> {
            for (int m = 0; m < n(); m++) {
                if (now.matters[m] == matter && (parts >> part(set, m) & 1) == 1) {
                    return true;
                }
            }
            return false;
        });
    }

    public int sure(int family, int matter) {
        if (noFamily(family) || matter < 0 || matter > 5) {
            return -1;
        }
        return meets(bitsOf(now, family), matter) == 1 << 2 * n() ? 1 : 0;
    }

    public int cover(int matter, int what) {
        if (matter < 0 || matter > 5 || what < 0 || what > 1) {
            return -1;
        }
        for (int size = 1; size <= 8; size++) {
            for (int parts = 0; parts < 256; parts++) {
                if (Integer.bitCount(parts) == size && meets(parts, matter) == 1 << 2 * n()) {
                    return what == 0 ? size : parts;
                }
            }
        }
        return -2;
    }

    private int haveBy(int family, int dust, int syrup) {
        Now s = now.copy();
        s.dust = Math.min(9, s.dust + dust);
        s.syrup = Math.min(9, s.syrup + syrup);
        return have(s, family);
    }

    public int pepper(int family) {
        return noFamily(family) ? NO_NUMBER : haveBy(family, 1, 0) - have(now, family);
    }

    public int soothes(int family) {
        return noFamily(family) ? NO_NUMBER : haveBy(family, 0, 1) - have(now, family);
    }

    public int game(int family, int other, int what) {
        if (noFamily(family) || noFamily(other) || family == other || what < 0 || what > 2) {
            return -1;
        }
        int[] best = null;
        for (int dust = 0; dust <= 3; dust++) {
            int syrup = 0;
            for (int more = 1; more <= 3; more++) {
                syrup = haveBy(other, dust, more) > haveBy(other, dust, syrup) ? more : syrup;
            }
            int[] one = {dust, syrup, haveBy(family, dust, syrup)};
            best = best == null || one[2] > best[2] ? one : best;
        }
        return best[what];
    }

    public int cure() {
        int bits = 0;
        for (int f = 0; f < text.families.size(); f++) {
            bits |= ofFamily(now, "cures", f) > Math.floorDiv(have(now, f), 1 << 2 * n()) ? 1 << f : 0;
        }
        return bits;
    }

    public int richest(int what) {
        if (what < 0 || what > 1) {
            return -1;
        }
        int best = -2;
        for (int f = text.families.size() - 1; f >= 0; f--) {
            best = best < 0 || have(now, f) >= have(now, best) ? f : best;
        }
        return what == 0 || best < 0 ? best : have(now, best);
    }

    public int likely(int what) {
        if (what < 0 || what > 1) {
            return -1;
        }
        int[] cases = cases(now);
        int best = 0;
        for (int set = 1; set < cases.length; set++) {
            best = cases[set] > cases[best] ? set : best;
        }
        return what == 0 ? best : cases[best];
    }

    public int gains(int family, int n) {
        if (noFamily(family) || n < 0 || n > 40) {
            return NO_NUMBER;
        }
        Now s = later(n, text.seed);
        return s.gained[family] - now.gained[family] - (s.paid[family] - now.paid[family]);
    }

    public int partsIn(int n) {
        return n < 0 || n > 40 ? -1 : later(n, text.seed).parts;
    }

    public int year(int family, int n, int s) {
        if (noFamily(family) || n < 0 || n > 40 || s < 1 || s > 20) {
            return -1;
        }
        int sum = 0;
        for (int seed = text.seed; seed < text.seed + s; seed++) {
            Now then = later(n, seed);
            sum += then.gained[family] > then.paid[family] ? 1 : 0;
        }
        return sum;
    }

    public int tell(int minute, int part, boolean so) {
        if (told.size() == 20 || noMinute(minute) || noPart(part)) {
            return -1;
        }
        told.add(new int[] {minute, part, so ? 1 : 0});
        return told.size() - 1;
    }

    public int forget() {
        int were = told.size();
        told.clear();
        return were;
    }

    private List<Integer> sets(int k) {
        List<Integer> sets = new ArrayList<>();
        int[] cases = cases(now);
        for (int set = 0; set < cases.length; set++) {
            boolean so = cases[set] > 0;
            for (int[] one : told.subList(0, k)) {
                so &= (part(set, one[0]) == one[1] ? 1 : 0) == one[2];
            }
            if (so) {
                sets.add(set);
            }
        }
        return sets;
    }

    public int when(int k, int what) {
        if (k < 0 || k > told.size() || what < 0 || what > 3) {
            return -1;
        }
        List<Integer> sets = sets(k);
        if (what == 0) {
            return sets.size();
        }
        if (sets.isEmpty()) {
            return -2;
        }
        int all = (1 << n()) - 1;
        int any = 0;
        for (int set : sets) {
            all &= set;
            any |= set;
        }
        return what == 1 ? sets.get(0) : what == 2 ? all : (1 << n()) - 1 - any;
    }

    public int ask(int k) {
        if (k < 0 || k > told.size()) {
            return -1;
        }
        List<Integer> sets = sets(k);
        if (sets.isEmpty() || n() == 0) {
            return -2;
        }
        int best = -1;
        int least = Integer.MAX_VALUE;
        for (int m = 0; m < n(); m++) {
            int bit = 1 << m;
            int yes = (int) sets.stream().filter(set -> (set & bit) != 0).count();
            int worst = Math.max(yes, sets.size() - yes);
            if (worst < least) {
                least = worst;
                best = m;
            }
        }
        return best;
    }

    public boolean hold(int slot) {
        if (slot < 0 || slot > 2) {
            return false;
        }
        slots[slot] = now.copy();
        return true;
    }

    public boolean restore(int slot) {
        if (slot < 0 || slot > 2 || slots[slot] == null) {
            return false;
        }
        now = slots[slot].copy();
        undos.clear();
        return true;
    }

    public int count(int what) {
        int bits = 0;
        int sum = 0;
        switch (what) {
            case 0: return n();
            case 1: return text.families.size();
            case 2: return now.week;
            case 3: return now.dust;
            case 4: return now.syrup;
            case 5: return now.coughed;
            case 6: return now.parts;
            case 7: return (int) Math.pow(4, n());
            case 8: return tape.length;
            case 9: return undos.size();
            case 10: return told.size();
            case 11: return (int) Arrays.stream(slots).filter(s -> s != null).count();
            case 12: return 255 - bitsOf(now, -2);
            case 13: return Arrays.stream(now.gained).sum();
            case 14: return Arrays.stream(now.paid).sum();
            case 15:
                for (int matter : now.matters) {
                    bits |= 1 << matter;
                }
                return bits;
            case 16: return (int) Arrays.stream(now.owners).filter(o -> o == -2).count();
            case 17:
                for (int m = 0; m < n(); m++) {
                    bits |= coughs(now, m) == 4 ? 1 << m : 0;
                }
                return bits;
            case 18:
                for (int m = 0; m < n(); m++) {
                    sum += coughs(now, m);
                }
                return sum;
            case 19:
                for (int f = 0; f < text.families.size(); f++) {
                    bits |= bitsOf(now, f) == 0 ? 1 << f : 0;
                }
                return bits;
            case 20: return text.families.stream().mapToInt(f -> f.zeal).sum();
            default: return -1;
        }
    }
}
