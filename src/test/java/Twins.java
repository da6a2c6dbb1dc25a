import java.util.NoSuchElementException;
import java.util.function.Consumer;
import java.util.function.Supplier;

/** Two objects made alike: one takes a call that is to change nothing, then both are taken apart and compared. */
final class Twins {
    private static final int SPACES = 0x20202020;

    private Twins() {
    }

    static void refuses(Check check, String call, Class<? extends Exception> want, Supplier<ClipHibernation> maker,
            Consumer<ClipHibernation> action) {
        ClipHibernation called = maker.get();
        String got = "nothing";
        try {
            action.accept(called);
        } catch (RuntimeException thrown) {
            got = thrown.getClass().getName();
        }
        check.dueText(call + " throws", got, want.getName());
        check.dueText("everything after " + call, everything(called), everything(maker.get()));
    }

    static void changesNothing(Check check, String call, Supplier<ClipHibernation> maker, Consumer<ClipHibernation> action) {
        ClipHibernation called = maker.get();
        action.accept(called);
        check.dueText("everything after " + call, everything(called), everything(maker.get()));
    }

    /** Undoes all, restores the snapshot and runs the input: nothing is left to ask of the object then. */
    static String everything(ClipHibernation x) {
        StringBuilder text = new StringBuilder(Look.at(x));
        text.append("report ").append(Look.report(x));
        tellError(text, x);
        text.append(" undo ").append(x.undoCount()).append('\n');
        for (int left = x.undo(); left != ClipHibernation.NONE; left = x.undo()) {
            text.append("undone, left ").append(left).append('\n').append(Look.at(x));
        }
        try {
            text.append("snapshot ").append(x.restoreSnapshot()).append('\n').append(Look.at(x));
        } catch (NoSuchElementException none) {
            text.append("no snapshot\n");
        }
        text.append("input ").append(x.append(SPACES, SPACES, SPACES, SPACES, SPACES));
        text.append(" runs ").append(x.runScript());
        tellError(text, x);
        return text.append('\n').append(Look.at(x)).toString();
    }

    private static void tellError(StringBuilder text, ClipHibernation x) {
        text.append(" error ").append(x.scriptErrorKind()).append(" at ").append(x.scriptErrorOffset());
    }
}
