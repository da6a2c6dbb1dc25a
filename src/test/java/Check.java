import java.util.Objects;

/** Counts the answers that are not as due and tells them. */
final class Check {
    private int asked;
    private int wrong;
    private String heading = "";

    /** What stands before each answer that is told from now on. */
    void head(String text) {
        heading = text;
    }

    int asked() {
        return asked;
    }

    void due(String call, long got, long want) {
        tell(call, got == want, got, want);
    }

    void dueReal(String call, double got, double want) {
        tell(call, got == want, got, want);
    }

    void dueText(String call, String got, String want) {
        tell(call, Objects.equals(got, want), got, want);
    }

    /** The call is to throw just this exception and to leave everything as it was. */
    void refuses(String call, Class<? extends Exception> want, ClipHibernation x, Runnable action) {
        String before = Look.at(x);
        int undoable = x.undoCount();
        String got = "nothing";
        try {
            action.run();
        } catch (RuntimeException thrown) {
            got = thrown.getClass().getName();
        }
        dueText(call + " throws", got, want.getName());
        dueText("the archive after " + call, Look.at(x), before);
        due("undoCount() after " + call, x.undoCount(), undoable);
    }

    void end() {
        System.out.println(asked + " answers, " + wrong + " not as due");
        if (wrong != 0 || asked == 0) {
            System.exit(1);
        }
    }

    private void tell(String call, boolean right, Object got, Object want) {
        asked++;
        if (!right) {
            wrong++;
            System.out.println(heading + call + " answered " + got + ", due is " + want);
        }
    }
}
