/** Promise 1: a new object. */
public final class NewObjectTest {
    public static void main(String[] args) {
        Check check = new Check();
        ClipHibernation x = new ClipHibernation();
        check.dueText("a new archive", Look.at(x), "week 2 food 80 burned 16 wakings 1 violations 0\n"
                + "clip 123 state 1 fat 38 hash 29 in 0/2 scene -1\n"
                + "clip 3214 state 0 fat 38 hash 603 in -1/-1 scene 1\n"
                + "clip 44 state 1 fat 38 hash 128 in 1/3 scene -1\n"
                + "clip 12345678 state 1 fat 38 hash 221 in 1/1 scene -1\n"
                + "clip 9 state 0 fat 52 hash 9 in -1/-1 scene -1\n"
                + "reel -2 -1 0\n"
                + "reel -1 3 -1 2 -1\n"
                + "scene 2\n"
                + "scene 0\n");
        check.due("undoCount()", x.undoCount(), 0);
        check.due("undo()", x.undo(), -1);
        check.due("reportByte(0)", x.reportByte(0), -1);
        check.due("scriptErrorKind()", x.scriptErrorKind(), 0);
        check.due("scriptErrorOffset()", x.scriptErrorOffset(), -1);
        check.due("truncateInput(0)", x.truncateInput(0), 0);
        check.refuses("truncateInput(1)", IllegalArgumentException.class, x, () -> x.truncateInput(1));
        check.refuses("restoreSnapshot()", java.util.NoSuchElementException.class, x, () -> x.restoreSnapshot());
        check.due("append of 20 bytes", x.append(0, 0, 0, 0, 0), 20);

        ClipHibernation y = Typed.made("archive; clip 123; clip 3214; clip 44; clip 12345678; clip 9; reel 3; reel 5; "
                + "scene 2; scene 1; sleep 0 0; sleep 1 0; sleep 2 1; sleep 3 1; weeks 2; cut 1 30; feed 4 20;");
        check.dueText("the archive of that script", Look.at(y), Look.at(new ClipHibernation()));

        ClipHibernation z = new ClipHibernation();
        z.addFood(5);
        z.addClip(7);
        check.due("another object's food()", new ClipHibernation().food(), 80);
        check.due("another object's clipCount()", new ClipHibernation().clipCount(), 5);
        check.end();
    }
}
