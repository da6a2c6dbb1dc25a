import java.util.ArrayList;
import java.util.List;
import java.util.NoSuchElementException;

/** Promises 16 to 19: undo, undoCount, saveSnapshot and restoreSnapshot. */
public final class UndoTest {
    private static final Check check = new Check();

    private interface Change {
        void make(ClipHibernation x);
    }

    public static void main(String[] args) {
        everyChangeIsUndone();
        latestEight();
        undoLeavesTheRest();
        snapshot();
        check.end();
    }

    private static void everyChangeIsUndone() {
        List<Change> changes = new ArrayList<>();
        changes.add(x -> Typed.run(x, "archive;clip 7;"));
        changes.add(x -> x.addClip(123));
        changes.add(x -> x.addReel(9));
        changes.add(x -> x.addScene(9));
        changes.add(x -> x.sleep(4, 1));
        changes.add(x -> x.wake(3));
        changes.add(x -> x.cut(0, 20));
        changes.add(x -> x.cut(0, 9999));
        changes.add(x -> x.air(0));
        changes.add(x -> x.air(1));
        changes.add(x -> x.feed(1, 50));
        changes.add(x -> x.addFood(1));
        changes.add(x -> x.paint(1, 0, 9));
        changes.add(x -> x.paint(1, 0, 3));
        changes.add(x -> x.passWeeks(50));
        for (int number = 0; number < changes.size(); number++) {
            ClipHibernation x = new ClipHibernation();
            String before = Look.at(x);
            changes.get(number).make(x);
            check.due("undoCount() after change " + number, x.undoCount(), 1);
            check.due("undo() of change " + number, x.undo(), 0);
            check.dueText("the archive after undo of change " + number, Look.at(x), before);
            check.due("undo() of nothing", x.undo(), -1);
            check.dueText("the archive after undo of nothing", Look.at(x), before);
        }
    }

    private static String weekAndFood(ClipHibernation x) {
        return x.week() + " " + x.food();
    }

    private static void latestEight() {
        ClipHibernation x = new ClipHibernation();
        List<String> looks = new ArrayList<>();
        for (int change = 1; change <= 11; change++) {
            looks.add(weekAndFood(x));
            x.addFood(change);
            check.due("undoCount() after " + change, x.undoCount(), Math.min(change, 8));
        }
        for (int left = 7; left >= 5; left--) {
            check.due("undo()", x.undo(), left);
            check.dueText("week and food", weekAndFood(x), looks.get(3 + left));
        }
        for (int change = 0; change < 2; change++) {
            looks.set(8 + change, weekAndFood(x));
            x.passWeeks(1 + change);
        }
        check.due("undoCount()", x.undoCount(), 7);
        for (int left = 6; left >= 0; left--) {
            check.due("undo()", x.undo(), left);
            check.dueText("week and food", weekAndFood(x), looks.get(3 + left));
        }
        check.due("undo()", x.undo(), -1);
        check.due("undoCount()", x.undoCount(), 0);
        check.due("food() with the first three changes", x.food(), 80 + 1 + 2 + 3);
    }

    private static void undoLeavesTheRest() {
        ClipHibernation x = new ClipHibernation();
        x.addFood(1);
        x.append(1, 2, 3, 4, 5);
        x.writeReel(1);
        x.saveSnapshot();
        check.due("undoCount() after what is no change", x.undoCount(), 1);
        String report = Look.report(x);
        x.undo();
        check.due("the input after undo", x.append(1, 2, 3, 4, 5), 40);
        check.dueText("the report after undo", Look.report(x), report);
        check.due("restoreSnapshot() after undo", x.restoreSnapshot(), 2);
        check.due("food() of the snapshot", x.food(), 81);
        check.due("the input after restoring", x.append(1, 2, 3, 4, 5), 60);
        check.dueText("the report after restoring", Look.report(x), report);
    }

    private static void snapshot() {
        ClipHibernation x = new ClipHibernation();
        check.refuses("restoreSnapshot()", NoSuchElementException.class, x, () -> x.restoreSnapshot());
        x.addFood(3);
        check.refuses("restoreSnapshot()", NoSuchElementException.class, x, () -> x.restoreSnapshot());
        x.passWeeks(3);
        String saved = Look.at(x);
        check.due("saveSnapshot()", x.saveSnapshot(), 5);
        check.due("undoCount() after saveSnapshot()", x.undoCount(), 2);
        x.cut(0, 20);
        x.addClip(77);
        x.addReel(3);
        x.addScene(3);
        x.paint(5, 0, 1);
        x.passWeeks(20);
        check.due("restoreSnapshot()", x.restoreSnapshot(), 5);
        check.dueText("the archive restored", Look.at(x), saved);
        check.due("undoCount() after restoring", x.undoCount(), 0);
        check.due("undo() after restoring", x.undo(), -1);
        check.dueText("the archive after undo of nothing", Look.at(x), saved);
        Typed.run(x, "archive;clip 1;");
        check.due("undoCount()", x.undoCount(), 1);
        check.due("restoreSnapshot() again", x.restoreSnapshot(), 5);
        check.dueText("the archive restored again", Look.at(x), saved);
        x.passWeeks(1);
        check.due("undo()", x.undo(), 0);
        check.dueText("the archive after undo", Look.at(x), saved);
        x.passWeeks(2);
        check.due("saveSnapshot() in place of the earlier one", x.saveSnapshot(), 7);
        x.passWeeks(2);
        check.due("restoreSnapshot()", x.restoreSnapshot(), 7);
        check.due("week()", x.week(), 7);
    }
}
