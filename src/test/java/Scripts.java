/** Scripts that are to run, and scripts that are to fail at a marked place. */
final class Scripts {
    private Scripts() {
    }

    static ClipHibernation good(Check check, String text) {
        ClipHibernation x = new ClipHibernation();
        Typed.run(x, "nonsense");
        int answer = Typed.run(x, text);
        check.due("runScript() of " + text, answer, x.clipCount());
        check.due("scriptErrorKind() of " + text, x.scriptErrorKind(), 0);
        check.due("scriptErrorOffset() of " + text, x.scriptErrorOffset(), -1);
        check.due("undoCount() after " + text, x.undoCount(), 1);
        check.due("the input after " + text, x.append(0, 0, 0, 0, 0), 20);
        return x;
    }

    static void good(Check check, String text, String look) {
        check.dueText("the archive of " + text, Look.at(good(check, text)), look);
    }

    static void bad(Check check, String text, int kind, int offset) {
        ClipHibernation x = new ClipHibernation();
        x.addFood(7);
        x.writeReel(0);
        String before = Look.at(x) + Look.report(x);
        check.due("runScript() of " + text, Typed.run(x, text), -1);
        check.due("scriptErrorKind() of " + text, x.scriptErrorKind(), kind);
        check.due("scriptErrorOffset() of " + text, x.scriptErrorOffset(), offset);
        check.due("undoCount() after " + text, x.undoCount(), 1);
        check.due("the input after " + text, x.append(0, 0, 0, 0, 0), 20);
        check.dueText("the archive after " + text, Look.at(x) + Look.report(x), before);
    }

    /** The error is at the mark ^, which is left out of the text. */
    static void badAtMark(Check check, String marked, int kind) {
        int offset = marked.indexOf('^');
        bad(check, marked.substring(0, offset) + marked.substring(offset + 1), kind, offset);
    }
}
