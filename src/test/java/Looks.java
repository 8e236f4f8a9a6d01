import java.util.function.Consumer;

/** All that can be seen of an object, to find out whether a call changed something. Each look is below 512 calls. */
final class Looks {
    private Looks() { }

    /** A way to look at an object, which may be used up by it. */
    interface Look {
        String at(CoughParts x);
    }

    /** All that goes on, with what can be undone, but without TOLD, the tape and place(). */
    static String goesOn(CoughParts x) {
        StringBuilder row = new StringBuilder();
        for (int what = 0; what <= 20; what++) {
            if (what != 8 && what != 9 && what != 10 && what != 11) {
                row.append(' ').append(x.count(what));
            }
        }
        row.append(" |");
        for (int minute = 0; minute < x.count(0); minute++) {
            row.append(' ').append(x.minute(minute, 0)).append(' ').append(x.minute(minute, 1)).append(' ')
                    .append(x.minute(minute, 2));
        }
        row.append(" |");
        for (int family = 0; family < x.count(1); family++) {
            for (int what = 0; what <= 6; what++) {
                row.append(' ').append(x.family(family, what));
            }
            row.append(' ').append(x.have(family));
        }
        row.append(" |");
        for (int part = 0; part < 8; part++) {
            row.append(' ').append(x.lease(part));
        }
        return row.toString();
    }

    /** What is TOLD, as far as WHEN shows it. */
    static String told(CoughParts x) {
        StringBuilder row = new StringBuilder();
        for (int k = 0; k <= x.count(10); k++) {
            for (int what = 0; what <= 3; what++) {
                row.append(' ').append(x.when(k, what));
            }
            row.append(' ').append(x.ask(k));
        }
        return row.append(" and ").append(x.forget()).toString();
    }

    /** What was ahead of the last things done, the last four of them one by one. */
    static String past(CoughParts x) {
        StringBuilder row = new StringBuilder("things " + x.count(9));
        boolean goesOn = true;
        for (int i = 0; i <= 40 && goesOn; i++) {
            goesOn = x.undo();
            row.append(i < 4 ? goesOn + ":" + goesOn(x) : "" + goesOn);
        }
        return row.append(" first:").append(goesOn(x)).toString();
    }

    static String slots(CoughParts x) {
        StringBuilder row = new StringBuilder("slots " + x.count(11));
        for (int slot = 0; slot < 3; slot++) {
            row.append(' ').append(x.restore(slot)).append(goesOn(x));
        }
        return row.toString();
    }

    static String tape(CoughParts x) {
        StringBuilder row = new StringBuilder("place " + x.place() + " bytes " + x.count(8));
        return row.append(" read ").append(x.read()).append(" at ").append(x.place()).append(goesOn(x)).toString();
    }

    static final Look[] ALL = {Looks::goesOn, Looks::told, Looks::past, Looks::slots, Looks::tape};
    static final Look[] ALL_BUT_TAPE = {Looks::goesOn, Looks::told, Looks::past, Looks::slots};

    /** Whether two ways to come to an object come to the same, whichever way it is looked at. */
    static void alike(Checks checks, String what, Look[] looks, Consumer<CoughParts> one, Consumer<CoughParts> other) {
        for (int i = 0; i < looks.length; i++) {
            CoughParts first = new CoughParts();
            one.accept(first);
            CoughParts second = new CoughParts();
            other.accept(second);
            String due = looks[i].at(first);
            String got = looks[i].at(second);
            checks.due(what + ", look " + i + ": " + got + " for " + due, due.equals(got), true);
        }
    }

    static void differ(Checks checks, String what, Look look, Consumer<CoughParts> one, Consumer<CoughParts> other) {
        CoughParts first = new CoughParts();
        one.accept(first);
        CoughParts second = new CoughParts();
        other.accept(second);
        checks.due(what + " can be seen", look.at(first).equals(look.at(second)), false);
    }
}
