import java.lang.reflect.Method;
import java.util.ArrayList;
import java.util.List;

/**
 * What each promise refuses by its arguments: the last value that is allowed, the first that is not, on both sides,
 * and the least and the greatest int, in texts from empty to full.
 */
public final class ArgumentsTest {
    private static final Checks CHECKS = new Checks("ArgumentsTest");
    private static final int NONE = -1;
    private static final int NO_NUMBER = -100000000;

    /**
     * Each call with its arguments and what it says if it refuses. M is a MINUTE, F a FAMILY, P a PART 0 .. 7, T a MATTER
     * 0 .. 5, O a number 0 .. 8, H 0 .. 10, N 0 .. 40, S 1 .. 20, C 0 .. 20, K as many as are TOLD, L a SLOT, B yes and no,
     * X bytes of the tape; 1, 2, 3, 6 are a 'what' from 0 up to there.
     */
    private static final String[] CALLS = {"back X none", "minute M2 none", "family F6 none", "lease P none", "worth FMP none",
        "weeks N none", "odds O none", "falls MP none", "value FP none", "have F none", "mode M1 none", "both MM none",
        "with PH none", "buy F1 none", "swap F1 none", "sure FT none", "cover T1 none", "pepper F number", "soothes F number",
        "game FF2 none", "richest 1 none", "likely 1 none", "gains FN number", "partsIn N none", "year FNS none",
        "tell MPB none", "when K3 none", "ask K none", "hold L false", "restore L false", "count C none"};

    private final int minutes;
    private final int families;
    private final int told;
    private CoughParts x;
    private int calls;

    private ArgumentsTest(int minutes, int families, int told) {
        this.minutes = minutes;
        this.families = families;
        this.told = told;
        renew();
    }

    public static void main(String[] args) throws ReflectiveOperationException {
        int[][] sizes = {{0, 0, 0}, {0, 5, 0}, {10, 0, 20}, {1, 1, 1}, {2, 2, 19}, {4, 3, 3}, {10, 5, 20}};
        for (int[] size : sizes) {
            for (String call : CALLS) {
                new ArgumentsTest(size[0], size[1], size[2]).tryAll(call.split(" "));
            }
            new ArgumentsTest(size[0], size[1], size[2]).changes();
            new ArgumentsTest(size[0], size[1], size[2]).lets();
        }
        CHECKS.end();
    }

    /** A new object now and then, since nothing is promised beyond 512 calls. */
    private void renew() {
        StringBuilder text = new StringBuilder("coughs=2;");
        for (int minute = 0; minute < minutes; minute++) {
            text.append("minute ").append(minute % 6).append(";");
        }
        for (int family = 0; family < families; family++) {
            text.append("family ").append((char) ('a' + family)).append(" 1 1;");
        }
        x = Checks.of(text.toString());
        for (int i = 0; i < told; i++) {
            x.tell(i % minutes, 0, true);
        }
        x.hold(0);
        x.hold(1);
        x.hold(2);
        x.feed(0, 0, 0, 0, 0);
        calls = 60;
    }

    private int least(char kind) {
        return kind == 'S' ? 1 : 0;
    }

    private int most(char kind) {
        return switch (kind) {
            case 'M' -> minutes - 1;
            case 'F' -> families - 1;
            case 'P' -> 7;
            case 'T' -> 5;
            case 'O' -> 8;
            case 'H' -> 10;
            case 'N' -> 40;
            case 'S', 'C', 'X' -> 20;
            case 'K' -> told;
            case 'L' -> 2;
            default -> kind - '0';
        };
    }

    private List<Object> values(char kind) {
        List<Object> values = new ArrayList<>();
        if (kind == 'B') {
            values.add(true);
            values.add(false);
            return values;
        }
        for (int value : new int[] {Integer.MIN_VALUE, -100000000, least(kind) - 2, least(kind) - 1, most(kind) + 1,
            most(kind) + 2, 100, 256, 65536, Integer.MAX_VALUE, least(kind), least(kind) + 1, most(kind) - 1, most(kind)}) {
            if (!values.contains(value)) {
                values.add(value);
            }
        }
        return values;
    }

    private boolean isAllowed(char kind, Object value) {
        return value instanceof Boolean || (least(kind) <= (Integer) value && (Integer) value <= most(kind));
    }

    private void tryAll(String[] call) throws ReflectiveOperationException {
        tryFrom(call, new ArrayList<>());
    }

    private void tryFrom(String[] call, List<Object> values) throws ReflectiveOperationException {
        if (values.size() == call[1].length()) {
            tryOne(call, values);
            return;
        }
        for (Object value : values(call[1].charAt(values.size()))) {
            values.add(value);
            tryFrom(call, values);
            values.remove(values.size() - 1);
        }
    }

    private void tryOne(String[] call, List<Object> values) throws ReflectiveOperationException {
        boolean allowed = true;
        Class<?>[] types = new Class<?>[values.size()];
        for (int i = 0; i < types.length; i++) {
            allowed &= isAllowed(call[1].charAt(i), values.get(i));
            types[i] = values.get(i) instanceof Boolean ? boolean.class : int.class;
        }
        if (call[0].equals("game") && values.get(0).equals(values.get(1))) {
            allowed = false;
        }
        if (call[0].equals("tell") && told == 20) {
            allowed = false;
        }
        if (calls > 500 || call[0].equals("back") || (call[0].equals("tell") && allowed)) {
            renew();
        }
        calls++;
        Method method = CoughParts.class.getMethod(call[0], types);
        Object answer = method.invoke(x, values.toArray());
        CHECKS.due(call[0] + values + " of " + minutes + ", " + families + ", " + told + " answered " + answer
                + ": is refused", answer.equals(refusal(call[2])), !allowed);
    }

    private static Object refusal(String sort) {
        if (sort.equals("false")) {
            return false;
        }
        return sort.equals("none") ? NONE : NO_NUMBER;
    }

    // Promise 10: "false, and nothing happens: alike matters, no such ones"
    private void changes() {
        for (Object first : values('M')) {
            for (Object second : values('M')) {
                if (calls > 500) {
                    renew();
                }
                int minute = (Integer) first;
                int other = (Integer) second;
                boolean allowed = isAllowed('M', first) && isAllowed('M', second) && minute % 6 != other % 6;
                CHECKS.due("change(" + minute + ", " + other + ") of " + minutes, x.change(minute, other), allowed);
                if (allowed) {
                    x.undo();
                }
                calls += 2;
            }
        }
    }

    // Promise 11: "false, and nothing happens: it is so, no such ones", "(NONE: to nobody)"
    private void lets() {
        for (Object part : values('P')) {
            for (Object family : values('F')) {
                if (calls > 500) {
                    renew();
                }
                boolean allowed = isAllowed('P', part) && isAllowed('F', family);
                CHECKS.due("let(" + part + ", " + family + ") of " + families, x.let((Integer) part, (Integer) family), allowed);
                if (allowed) {
                    CHECKS.due("let again: it is so", x.let((Integer) part, (Integer) family), false);
                    CHECKS.due("let to nobody", x.let((Integer) part, NONE), true);
                    CHECKS.due("let to nobody again", x.let((Integer) part, NONE), false);
                }
                calls += 4;
            }
        }
    }
}
