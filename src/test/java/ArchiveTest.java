/** Promises 22 to 27: week, food, clipCount, reelCount, sceneCount and springs. */
public final class ArchiveTest {
    public static void main(String[] args) {
        Check check = new Check();
        ClipHibernation x = new ClipHibernation();
        check.due("week()", x.week(), 2);
        check.due("food()", x.food(), 80);
        check.due("clipCount()", x.clipCount(), 5);
        check.due("reelCount()", x.reelCount(), 2);
        check.due("sceneCount()", x.sceneCount(), 2);
        check.due("springs(0)", x.springs(0), 2);
        check.due("springs(1)", x.springs(1), 0);
        for (int wrong : new int[] {-1, 2, Integer.MIN_VALUE, Integer.MAX_VALUE}) {
            check.refuses("springs(" + wrong + ")", IndexOutOfBoundsException.class, fresh -> fresh.springs(wrong));
        }
        x.passWeeks(7);
        x.addFood(11);
        x.addClip(1);
        x.addReel(1);
        x.addScene(6);
        x.addScene(7);
        check.due("week()", x.week(), 9);
        check.due("food()", x.food(), 91);
        check.due("clipCount()", x.clipCount(), 6);
        check.due("reelCount()", x.reelCount(), 3);
        check.due("sceneCount()", x.sceneCount(), 4);
        check.due("springs(0)", x.springs(0), 2);
        check.due("springs(1)", x.springs(1), 1);
        check.due("springs(2)", x.springs(2), 6);
        check.due("springs(3)", x.springs(3), 7);
        check.due("undoCount() after questions", x.undoCount(), 6);

        ClipHibernation y = Typed.made("archive;");
        check.due("week()", y.week(), 0);
        check.due("food()", y.food(), 100);
        check.due("clipCount()", y.clipCount(), 0);
        check.due("reelCount()", y.reelCount(), 0);
        check.due("sceneCount()", y.sceneCount(), 0);
        check.refuses("springs(0) without scenes", IndexOutOfBoundsException.class, y, () -> y.springs(0));
        check.end();
    }
}
