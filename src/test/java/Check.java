import java.util.Objects;
import java.util.function.Consumer;

/** Counts the answers that are not as due and tells them. */
final class Check {
    private int asked;
    private int wrong;
    private String heading = "";

    /** What stands before each answer that is told from now on. */
    void head(String text) {
        heading = text;
    }

    int asked() {
        return asked;
    }

    void due(String call, long got, long want) {
        tell(call, got == want, got, want);
    }

    void dueReal(String call, double got, double want) {
        tell(call, got == want, got, want);
    }

    void dueText(String call, String got, String want) {
        tell(call, Objects.equals(got, want), got, want);
    }

    /** The same for a call on a new object: everything is looked at, on an object of its own for each call. */
    void refuses(String call, Class<? extends Exception> want, Consumer<ClipHibernation> action) {
        Twins.refuses(this, call, want, ClipHibernation::new, action);
    }

    /** The call is to throw just this exception and to leave all as it was; few calls, since 512 is all that x has. */
    void refuses(String call, Class<? extends Exception> want, ClipHibernation x, Runnable action) {
        String before = Look.shortly(x);
        String got = "nothing";
        try {
            action.run();
        } catch (RuntimeException thrown) {
            got = thrown.getClass().getName();
        }
        dueText(call + " throws", got, want.getName());
        dueText("the archive after " + call, Look.shortly(x), before);
    }

    void end() {
        System.out.println(asked + " answers, " + wrong + " not as due");
        if (wrong != 0 || asked == 0) {
            System.exit(1);
        }
    }

    private void tell(String call, boolean right, Object got, Object want) {
        asked++;
        if (!right) {
            wrong++;
            System.out.println(heading + call + " answered " + got + ", due is " + want);
        }
    }
}
