import java.util.List;
import java.util.function.Consumer;
import java.util.function.ToLongFunction;

/** "and nothing happens", "changes nothing but", "nothing happens" (III): what a call leaves as it was, and what it puts back. */
public final class UnchangedTest {
    private static final Checks CHECKS = new Checks("UnchangedTest");
    private static final int NO_NUMBER = -100000000;

    private static final String TEXT = "minute 0;minute 3;minute 3;minute 5;seed 5;family a 4 3;family b 2 0;lease a 0;lease b 1;"
            + "lease a 7;dust 1;syrup 8;coughs=matter/2+dusty-1;worth=2+matter-part+sweet-7;cures=part*3;";

    private static final Consumer<CoughParts> NEW = x -> { };
    private static final Consumer<CoughParts> READ = x -> Checks.read(x, TEXT);
    private static final Consumer<CoughParts> BUSY = READ.andThen(x -> {
        x.weeks(3);
        x.hold(1);
        x.change(0, 1);
        x.let(2, 1);
        x.weeks(2);
        x.dust(true);
        x.tell(2, 1, true);
        x.tell(3, 2, false);
        Checks.put(x, "seed 6;minute 2;minute");
    });
    private static final Consumer<CoughParts> TOP = x -> Checks.read(x, TEXT + "dust 9;syrup 9;");
    private static final Consumer<CoughParts> BOTTOM = x -> Checks.read(x, TEXT + "dust 0;syrup 0;");
    private static final Consumer<CoughParts> ALL_TOLD = READ.andThen(x -> {
        for (int i = 0; i < 20; i++) {
            x.tell(i % 4, i / 8, i % 4 < i / 8);
        }
    });
    private static final Consumer<CoughParts> FULL_TAPE = READ.andThen(x -> {
        Checks.put(x, TEXT + " ".repeat(1999 - TEXT.length()) + "?");
    });
    private static final Consumer<CoughParts> NEARLY_FULL_TAPE = FULL_TAPE.andThen(x -> x.back(19));
    private static final Consumer<CoughParts> FORTY_DONE = READ.andThen(x -> {
        for (int i = 0; i < 40; i++) {
            x.change(i % 3, 3);
        }
    });

    public static void main(String[] args) {
        looksSeeWhatIsDone();
        feedAndBack();
        change();
        let();
        syrupAndDust();
        weeks();
        nothingToUndo();
        tellAndForget();
        holdAndRestore();
        questions();
        faultyTexts();
        goodTexts();
        undoOfEachThing();
        lastFortyCanBeUndone();
        undoGoesRoundTheRow();
        whatIsHeld();
        slotsAreEachForThemselves();
        CHECKS.end();
    }

    private static void due(String call, long got, long want) {
        CHECKS.due(call, got, want);
    }

    private static long bit(boolean answer) {
        return answer ? 1 : 0;
    }

    /** The call says so, and all is as it was. */
    private static void refused(String call, Consumer<CoughParts> state, long want, ToLongFunction<CoughParts> act) {
        CoughParts x = new CoughParts();
        state.accept(x);
        due(call, act.applyAsLong(x), want);
        Looks.alike(CHECKS, call, Looks.ALL, state, state.andThen(act::applyAsLong));
    }

    /** Else the looks of this test would be worth nothing. */
    private static void looksSeeWhatIsDone() {
        seen("change", Looks::goesOn, x -> x.change(0, 3));
        seen("let", Looks::goesOn, x -> x.let(0, 1));
        seen("syrup", Looks::goesOn, x -> x.syrup(false));
        seen("dust", Looks::goesOn, x -> x.dust(false));
        seen("weeks", Looks::goesOn, x -> x.weeks(1));
        seen("two weeks", Looks::past, x -> x.weeks(2));
        seen("tell", Looks::told, x -> x.tell(0, 0, true));
        seen("forget", Looks::told, CoughParts::forget);
        seen("undo", Looks::past, CoughParts::undo);
        seen("hold", Looks::slots, x -> x.hold(0));
        seen("hold anew", Looks::slots, x -> x.hold(1));
        seen("restore", Looks::goesOn, x -> x.restore(1));
        seen("feed", Looks::tape, x -> x.feed(0, 0, 0, 0, 0));
        seen("back", Looks::tape, x -> x.back(1));
        seen("back 13", Looks::tape, x -> x.back(13));
        seen("read", Looks::tape, CoughParts::read);
    }

    private static void seen(String what, Looks.Look look, Consumer<CoughParts> act) {
        Looks.differ(CHECKS, what, look, BUSY, BUSY.andThen(act));
    }

    // Promises 2, 3: "NONE, and nothing comes", "NONE, and nothing goes"
    private static void feedAndBack() {
        refused("feed to 2020 bytes", FULL_TAPE, -1, x -> x.feed(0x6d696e75, 0x74652031, 0x3b202020, 0, 0));
        refused("feed to 2001 bytes", NEARLY_FULL_TAPE, -1, x -> x.feed(0x6d696e75, 0x74652031, 0x3b202020, 0, 0));
        refused("back(2001)", FULL_TAPE, -1, x -> x.back(2001));
        refused("back(0)", FULL_TAPE, 2000, x -> x.back(0));
        refused("back(1) of none", NEW, -1, x -> x.back(1));
        refused("back(0) of none", NEW, 0, x -> x.back(0));
        for (int n : new int[] {-1, -20, 23, 24, Integer.MIN_VALUE, Integer.MAX_VALUE}) {
            refused("back(" + n + ") of 22", BUSY, -1, x -> x.back(n));
        }
        CoughParts x = new CoughParts();
        BUSY.accept(x);
        due("22 bytes", x.count(8), 22);
        due("back(22)", x.back(22), 0);
    }

    // Promise 10
    private static void change() {
        refused("change of one with itself", BUSY, 0, x -> bit(x.change(1, 1)));
        refused("change of alike matters", BUSY, 0, x -> bit(x.change(0, 2)));
        refused("change of alike matters", BUSY, 0, x -> bit(x.change(2, 0)));
        refused("change(0, 1) of none", NEW, 0, x -> bit(x.change(0, 1)));
        for (int none : new int[] {-1, 4, 5, Integer.MIN_VALUE, Integer.MAX_VALUE}) {
            refused("change(0, " + none + ")", BUSY, 0, x -> bit(x.change(0, none)));
            refused("change(" + none + ", 0)", BUSY, 0, x -> bit(x.change(none, 0)));
            refused("change(" + none + ", " + none + ")", BUSY, 0, x -> bit(x.change(none, none)));
        }
        Looks.alike(CHECKS, "change either way", Looks.ALL, BUSY.andThen(x -> x.change(1, 3)), BUSY.andThen(x -> x.change(3, 1)));
    }

    // Promise 11
    private static void let() {
        refused("let to whom it is let", BUSY, 0, x -> bit(x.let(0, 0)));
        refused("let to whom it is let", BUSY, 0, x -> bit(x.let(2, 1)));
        refused("let to nobody what is nobody's", BUSY, 0, x -> bit(x.let(6, -1)));
        refused("let(0, NONE) of nobody", NEW, 0, x -> bit(x.let(0, -1)));
        refused("let(0, 0) of no families", NEW, 0, x -> bit(x.let(0, 0)));
        for (int none : new int[] {-2, 2, 5, Integer.MIN_VALUE, Integer.MAX_VALUE}) {
            refused("let(0, " + none + ")", BUSY, 0, x -> bit(x.let(0, none)));
            refused("let(6, " + none + ")", BUSY, 0, x -> bit(x.let(6, none)));
        }
        for (int none : new int[] {-2, -1, 8, 9, Integer.MIN_VALUE, Integer.MAX_VALUE}) {
            refused("let(" + none + ", 0)", BUSY, 0, x -> bit(x.let(none, 0)));
            refused("let(" + none + ", NONE)", BUSY, 0, x -> bit(x.let(none, -1)));
        }
    }

    // Promises 12, 13: "9 are there, 0 are there"
    private static void syrupAndDust() {
        refused("syrup more than 9", TOP, 0, x -> bit(x.syrup(true)));
        refused("dust more than 9", TOP, 0, x -> bit(x.dust(true)));
        refused("syrup less than 0", BOTTOM, 0, x -> bit(x.syrup(false)));
        refused("dust less than 0", BOTTOM, 0, x -> bit(x.dust(false)));
        CoughParts x = new CoughParts();
        for (int i = 1; i <= 9; i++) {
            due("syrup to " + i, bit(x.syrup(true)) * 100 + x.count(4) * 10 + x.count(3), 100 + 10 * i);
        }
        due("a 10th", bit(x.syrup(true)), 0);
        for (int i = 1; i <= 9; i++) {
            due("dust to " + i, bit(x.dust(true)) * 100 + x.count(3) * 10 + x.count(4), 109 + 10 * i);
        }
        due("a 10th", bit(x.dust(true)), 0);
        for (int i = 8; i >= 0; i--) {
            due("syrup to " + i, bit(x.syrup(false)) * 100 + x.count(4) * 10 + x.count(3), 109 + 10 * i);
        }
        due("below 0", bit(x.syrup(false)), 0);
        for (int i = 8; i >= 0; i--) {
            due("dust to " + i, bit(x.dust(false)) * 100 + x.count(3) * 10 + x.count(4), 100 + 10 * i);
        }
        due("below 0", bit(x.dust(false)), 0);
        due("done", x.count(9), 36);
    }

    // Promise 14: "0 is no thing done", "NONE, and nothing happens: no such n"
    private static void weeks() {
        refused("weeks(0)", BUSY, 5, x -> x.weeks(0));
        refused("weeks(0)", NEW, 0, x -> x.weeks(0));
        refused("weeks(0)", FORTY_DONE, 0, x -> x.weeks(0));
        for (int n : new int[] {-1, 41, 42, Integer.MIN_VALUE, Integer.MAX_VALUE}) {
            refused("weeks(" + n + ")", BUSY, -1, x -> x.weeks(n));
        }
        Consumer<CoughParts> oneByOne = BUSY.andThen(x -> {
            for (int i = 0; i < 40; i++) {
                x.weeks(1);
            }
        });
        Looks.alike(CHECKS, "forty weeks, one by one", new Looks.Look[] {Looks::goesOn}, BUSY.andThen(x -> x.weeks(40)), oneByOne);
        CoughParts x = new CoughParts();
        BUSY.accept(x);
        due("weeks(40)", x.weeks(40), 45);
        due("weeks(1)", x.weeks(1), 46);
    }

    // Promise 15: "false: there is none"
    private static void nothingToUndo() {
        refused("undo() of a new object", NEW, 0, x -> bit(x.undo()));
        refused("undo() of a new text", READ, 0, x -> bit(x.undo()));
        Consumer<CoughParts> restored = BUSY.andThen(x -> x.restore(1));
        refused("undo() after restore", restored, 0, x -> bit(x.undo()));
        Consumer<CoughParts> undone = BUSY.andThen(x -> {
            for (int i = 0; i < 5; i++) {
                x.undo();
            }
        });
        refused("undo() of all", undone, 0, x -> bit(x.undo()));
    }

    // Promises 37, 38
    private static void tellAndForget() {
        refused("a 21st", ALL_TOLD, -1, x -> x.tell(0, 0, true));
        refused("a 21st", ALL_TOLD, -1, x -> x.tell(3, 7, false));
        refused("tell of no minutes", NEW, -1, x -> x.tell(0, 0, true));
        for (int none : new int[] {-1, 4, Integer.MIN_VALUE, Integer.MAX_VALUE}) {
            refused("tell(" + none + ", 0)", BUSY, -1, x -> x.tell(none, 0, true));
        }
        for (int none : new int[] {-1, 8, Integer.MIN_VALUE, Integer.MAX_VALUE}) {
            refused("tell(0, " + none + ")", BUSY, -1, x -> x.tell(0, none, false));
        }
        refused("forget() of none", READ, 0, CoughParts::forget);
        Looks.Look[] allButTold = {Looks::goesOn, Looks::past, Looks::slots, Looks::tape};
        Looks.alike(CHECKS, "tell", allButTold, BUSY, BUSY.andThen(x -> x.tell(1, 1, true)));
        Looks.alike(CHECKS, "forget", allButTold, BUSY, BUSY.andThen(CoughParts::forget));
        Looks.alike(CHECKS, "forget and tell anew", Looks.ALL, BUSY, BUSY.andThen(x -> {
            due("forget()", x.forget(), 2);
            due("the first one again", x.tell(2, 1, true), 0);
            due("the second one again", x.tell(3, 2, false), 1);
        }));
    }

    // Promises 41, 42
    private static void holdAndRestore() {
        for (int none : new int[] {-1, 3, 4, Integer.MIN_VALUE, Integer.MAX_VALUE}) {
            refused("hold(" + none + ")", BUSY, 0, x -> bit(x.hold(none)));
            refused("restore(" + none + ")", BUSY, 0, x -> bit(x.restore(none)));
        }
        refused("restore(0), nothing is held", BUSY, 0, x -> bit(x.restore(0)));
        refused("restore(2), nothing is held", BUSY, 0, x -> bit(x.restore(2)));
        refused("restore(0) of a new object", NEW, 0, x -> bit(x.restore(0)));
        Looks.Look[] allButSlots = {Looks::goesOn, Looks::told, Looks::past, Looks::tape};
        for (int slot = 0; slot < 3; slot++) {
            int which = slot;
            Looks.alike(CHECKS, "hold(" + slot + ")", allButSlots, BUSY, BUSY.andThen(x -> x.hold(which)));
        }
    }

    // III: "What would be (nothing happens)", and all else that is only asked
    private static void questions() {
        for (Consumer<CoughParts> state : List.of(NEW, BUSY, TOP, ALL_TOLD, FORTY_DONE, NEARLY_FULL_TAPE)) {
            Looks.alike(CHECKS, "questions", Looks.ALL, state, state.andThen(UnchangedTest::askOfTheText));
            Looks.alike(CHECKS, "questions of chances", Looks.ALL, state, state.andThen(UnchangedTest::askOfChances));
            Looks.alike(CHECKS, "questions of families", Looks.ALL, state, state.andThen(UnchangedTest::askOfFamilies));
            Looks.alike(CHECKS, "questions of weeks", Looks.ALL, state, state.andThen(UnchangedTest::askOfWeeks));
        }
    }

    private static void askOfTheText(CoughParts x) {
        x.place();
        for (int i = -1; i <= 4; i++) {
            x.minute(i, i);
            x.minute(1, i);
            x.family(i, i);
            x.family(1, i);
            x.lease(i);
            x.worth(i, i, i);
            x.count(i);
            x.count(10 + i);
        }
    }

    private static void askOfChances(CoughParts x) {
        for (int i = -1; i <= 4; i++) {
            x.odds(i);
            x.falls(i, i);
            x.mode(i, 1);
            x.both(i, 3);
            x.with(i, i);
            x.likely(i);
            x.when(i, i);
            x.ask(i);
        }
        x.mean();
    }

    private static void askOfFamilies(CoughParts x) {
        for (int i = -1; i <= 2; i++) {
            x.value(i, 1);
            x.have(i);
            x.buy(i, 0);
            x.swap(i, 1);
            x.sure(i, 3);
            x.cover(i, 0);
            x.pepper(i);
            x.soothes(i);
            x.game(i, 1, 2);
            x.game(0, i, 0);
            x.richest(i);
        }
        x.cure();
    }

    private static void askOfWeeks(CoughParts x) {
        for (int n : new int[] {-1, 0, 1, 40, 41}) {
            x.gains(0, n);
            x.gains(2, n);
            x.partsIn(n);
            x.year(1, n, 20);
            x.year(1, n, 21);
        }
    }

    // "A text with a FAULT changes nothing but the tape"; Promise 4: "The tape, which is empty then"
    private static void faultyTexts() {
        String[] texts = {"?", "minute 1;".repeat(11), "family f 1 1;family f 1 1;", "family f 1 1;dust 3;lease g 1;",
            "minute 4;minute 4;seed 9;coughs=4;worth=9;rents=9;cures=9;family zz 9 5;lease zz 5;syrup 2;dust 10;"};
        for (int i = 0; i < texts.length; i++) {
            int sort = i + 1;
            String text = texts[i];
            Consumer<CoughParts> faulty = x -> {
                x.back(x.count(8));
                due("fault of " + text, Checks.read(x, text), sort);
                due("the tape is empty", x.count(8), 0);
            };
            for (Consumer<CoughParts> state : List.of(NEW, BUSY, TOP, ALL_TOLD, FORTY_DONE)) {
                Looks.alike(CHECKS, "fault " + sort, Looks.ALL_BUT_TAPE, state, state.andThen(faulty));
                Looks.alike(CHECKS, "fault " + sort + " and weeks", new Looks.Look[] {Looks::goesOn}, state.andThen(x -> x.weeks(7)),
                        state.andThen(faulty).andThen(x -> x.weeks(7)));
            }
        }
        CoughParts x = new CoughParts();
        Checks.put(x, "minute 1;?");
        due("read()", x.read(), 1);
        due("read() of the empty tape", x.read(), 0);
    }

    // "else it is in place of the one ahead: week 0, nothing preached; nothing can be undone, nothing is TOLD,
    // SLOTS hold nothing"
    private static void goodTexts() {
        String[] texts = {"", TEXT, "minute 4;", "family f 3 3;lease f 3;", "dust 4;syrup 2;seed 77;minute 1;coughs=2;"};
        for (String text : texts) {
            Consumer<CoughParts> fresh = x -> Checks.read(x, text);
            for (Consumer<CoughParts> state : List.of(BUSY, TOP, ALL_TOLD, FORTY_DONE)) {
                Looks.alike(CHECKS, "'" + text + "' in place", Looks.ALL, fresh, state.andThen(x -> {
                    x.back(x.count(8));
                    due("read()", Checks.read(x, text), 0);
                }));
            }
        }
        CoughParts x = new CoughParts();
        BUSY.andThen(y -> y.back(y.count(8))).accept(x);
        due("read()", x.read(), 0);
        int[] counts = {0, 0, 0, 0, 0, 0, -2, 1, 0, 0, 0, 0, 0, 0, 0, 0, 8, 0, 0, 0, 0};
        for (int what = 0; what < counts.length; what++) {
            due("count(" + what + ") of an empty text", x.count(what), counts[what]);
        }
    }

    // Promise 15: "The last thing done (change, let, syrup, dust, weeks) is undone"
    private static void undoOfEachThing() {
        for (Consumer<CoughParts> thing : things()) {
            Looks.alike(CHECKS, "done and undone", Looks.ALL, BUSY, BUSY.andThen(thing).andThen(x -> {
                due("undo()", bit(x.undo()), 1);
            }));
            Looks.alike(CHECKS, "done, undone, done", Looks.ALL, BUSY.andThen(thing), BUSY.andThen(thing).andThen(x -> {
                x.undo();
                thing.accept(x);
            }));
        }
        Looks.alike(CHECKS, "all of them undone", Looks.ALL, BUSY, BUSY.andThen(x -> {
            for (Consumer<CoughParts> thing : things()) {
                thing.accept(x);
            }
            for (int i = 0; i < things().size(); i++) {
                due("undo()", bit(x.undo()), 1);
            }
        }));
    }

    private static List<Consumer<CoughParts>> things() {
        return List.of(x -> x.change(0, 3), x -> x.let(0, 1), x -> x.let(7, -1), x -> x.let(6, 0), x -> x.syrup(true),
                x -> x.syrup(false), x -> x.dust(true), x -> x.dust(false), x -> x.weeks(1), x -> x.weeks(40));
    }

    // "(the last 40 can be)"
    private static void lastFortyCanBeUndone() {
        for (int many : new int[] {0, 1, 39, 40, 41, 42, 79, 80, 81, 120}) {
            CoughParts x = new CoughParts();
            for (int i = 1; i <= many; i++) {
                x.weeks(1);
                due("can be undone", x.count(9), Math.min(40, i));
            }
            int can = Math.min(40, many);
            for (int i = 1; i <= can; i++) {
                due("undo " + i + " of " + many, bit(x.undo()), 1);
                due("week then", x.count(2), many - i);
                due("can be undone then", x.count(9), can - i);
            }
            due("no more of " + many, bit(x.undo()), 0);
            due("the week stays", x.count(2), many - can);
        }
    }

    private static void undoGoesRoundTheRow() {
        CoughParts x = new CoughParts();
        int[] weeks = new int[200];
        int done = 0;
        int kept = 0;
        for (int i = 0; i < 100; i++) {
            boolean back = i % 7 > 3;
            if (back) {
                due("undo()", bit(x.undo()), kept > 0 ? 1 : 0);
                done -= kept > 0 ? 1 : 0;
                kept -= kept > 0 ? 1 : 0;
            } else {
                int n = 1 + i * 5 % 40;
                weeks[done + 1] = weeks[done] + n;
                due("weeks()", x.weeks(n), weeks[done + 1]);
                done++;
                kept = Math.min(40, kept + 1);
            }
            due("week", x.count(2), weeks[done]);
            due("can be undone", x.count(9), kept);
        }
    }

    // Promises 41, 42: "All that goes on (not what is TOLD, nor the tape)", "(that stays there; nothing can be undone then)"
    private static void whatIsHeld() {
        Consumer<CoughParts> other = x -> {
            for (Consumer<CoughParts> thing : things()) {
                thing.accept(x);
            }
        };
        Looks.Look[] goesOn = {Looks::goesOn, Looks::told, Looks::tape};
        for (int slot = 0; slot < 3; slot++) {
            int which = slot;
            Consumer<CoughParts> held = BUSY.andThen(x -> due("hold", bit(x.hold(which)), 1));
            Consumer<CoughParts> restored = held.andThen(other).andThen(x -> due("restore", bit(x.restore(which)), 1));
            Looks.alike(CHECKS, "restored", goesOn, held, restored);
            Looks.alike(CHECKS, "slots after it", new Looks.Look[] {Looks::slots}, held, restored);
            Looks.alike(CHECKS, "restored twice", Looks.ALL, restored, restored.andThen(other).andThen(x -> x.restore(which)));
            Looks.alike(CHECKS, "gone on from", goesOn, held.andThen(x -> x.weeks(9)), restored.andThen(x -> x.weeks(9)));
            CoughParts x = new CoughParts();
            restored.accept(x);
            due("things that can be undone", x.count(9), 0);
            due("undo()", bit(x.undo()), 0);
            x.weeks(1);
            due("what is done then can be", x.count(9) * 10 + bit(x.undo()), 11);
        }
        CoughParts x = new CoughParts();
        BUSY.accept(x);
        x.hold(0);
        x.tell(0, 0, true);
        x.feed(0, 0, 0, 0, 0);
        x.restore(0);
        due("what is told stays", x.count(10), 3);
        due("the tape stays", x.count(8), 42);
    }

    private static void slotsAreEachForThemselves() {
        CoughParts x = new CoughParts();
        READ.accept(x);
        for (int slot = 0; slot < 3; slot++) {
            due("slots that hold something", x.count(11), slot);
            x.weeks(slot + 1);
            x.hold(2 - slot);
        }
        due("all three", x.count(11), 3);
        int[] weeks = {6, 3, 1};
        for (int slot : new int[] {0, 2, 1, 1, 0, 2}) {
            due("restore(" + slot + ")", bit(x.restore(slot)), 1);
            due("its week", x.count(2), weeks[slot]);
        }
        x.weeks(1);
        due("hold(0) anew", bit(x.hold(0)), 1);
        due("no more slots by it", x.count(11), 3);
        x.restore(1);
        x.restore(0);
        due("the last one held", x.count(2), 2);
        CoughParts empty = new CoughParts();
        due("hold of a new object", bit(empty.hold(0)), 1);
        empty.weeks(4);
        due("restore of it", bit(empty.restore(0)), 1);
        due("nothing preached", empty.count(6), -2);
        due("pepper of it", empty.pepper(0), NO_NUMBER);
    }
}
