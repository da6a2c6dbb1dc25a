import java.util.ArrayList;
import java.util.List;
import java.util.NoSuchElementException;
import java.util.function.Consumer;

/** The sentences of "Terms" on undo, and promises 16 to 19. */
final class UndoEdges {
    private UndoEdges() {
    }

    static void tell(Sentences s) {
        int t = Sentences.TERMS;
        s.noEdge(t, "Undo.");
        s.of(t, "The methods from `runScript` to `passWeeks` are changes.", UndoEdges::whatIsAChange);
        s.of(t, "Each call of a change that does not throw an exception, and each successful script, can be undone, the latest "
                + "one first;", UndoEdges::latestFirst);
        s.of(t, "the latest 8 are remembered.", UndoEdges::latestEight);
        s.of(t, "Undoing restores everything except the input buffer, the script error, the report and the snapshot.",
                UndoEdges::whatUndoLeaves);
        s.of(t, "A call that throws an exception changes nothing.", UndoEdges::throwingChangesNothing);
        s.of(t, "If several exceptions apply to a call, the one that is listed first is thrown.", UndoEdges::firstException);
        s.of(16, "Undoes the latest change that has not been undone.", UndoEdges::undoesTheLatest);
        s.of(16, "Returns the number of changes that can still be undone, or NONE if there was nothing to undo.",
                UndoEdges::undoAnswers);
        s.of(17, "Returns the number of changes that can be undone.", UndoEdges::undoCounts);
        s.of(18, "Saves a snapshot of everything that undo restores, in place of an earlier one.", UndoEdges::laterSnapshot);
        s.of(18, "This is not a change.", UndoEdges::savingIsNoChange);
        s.of(18, "Returns the week.", UndoEdges::saveAnswers);
        s.of(19, "Restores the snapshot, which stays saved.", UndoEdges::snapshotStays);
        s.of(19, "Nothing can be undone afterwards.", UndoEdges::nothingToUndo);
        s.of(19, "Returns the week, as it is in the snapshot.", UndoEdges::restoreAnswers);
        s.of(19, "Throws `NoSuchElementException` if no snapshot was saved", UndoEdges::noSnapshot);
    }

    private static List<Consumer<ClipHibernation>> changes() {
        List<Consumer<ClipHibernation>> all = new ArrayList<>();
        all.add(x -> Typed.run(x, "archive;clip 7;"));
        all.add(x -> x.addClip(123));
        all.add(x -> x.addReel(9));
        all.add(x -> x.addScene(9));
        all.add(x -> x.sleep(4, 1));
        all.add(x -> x.wake(3));
        all.add(x -> x.cut(0, 20));
        all.add(x -> x.air(0));
        all.add(x -> x.feed(1, 50));
        all.add(x -> x.addFood(1));
        all.add(x -> x.paint(1, 0, 9));
        all.add(x -> x.passWeeks(50));
        return all;
    }

    private static void whatIsAChange(Check check) {
        for (Consumer<ClipHibernation> change : changes()) {
            ClipHibernation x = new ClipHibernation();
            String before = Look.at(x);
            change.accept(x);
            check.due("a change that is not seen", Look.at(x).equals(before) ? 1 : 0, 0);
            check.due("undoCount() after a change", x.undoCount(), 1);
            check.due("undo()", x.undo(), 0);
            check.dueText("the archive undone", Look.at(x), before);
        }
        Twins.changesNothing(check, "all questions", Made::rich, UndoEdges::askAll);
        ClipHibernation x = new ClipHibernation();
        x.append(0, 0, 0, 0, 0);
        x.truncateInput(0);
        x.saveSnapshot();
        x.writeReel(0);
        x.undo();
        check.due("undoCount() after what is no change", x.undoCount(), 0);
        x.addFood(1);
        x.undo();
        check.due("undoCount() after undo", x.undoCount(), 0);
    }

    private static void askAll(ClipHibernation x) {
        x.undoCount();
        x.scriptErrorKind();
        x.scriptErrorOffset();
        for (int clip = 0; clip < x.clipCount(); clip++) {
            askOfClip(x, clip);
        }
        for (int reel = 0; reel < x.reelCount(); reel++) {
            askOfReel(x, reel);
        }
        x.springs(0);
        x.springs(1);
        x.matchingSleepers(20);
        x.wokenBy(0, 20);
        x.burnedFat();
        x.wakings();
        x.fadedClips();
        x.meanFat();
        x.sleepShare();
        x.violations();
        x.reportByte(0);
        x.reportByte(-1);
    }

    private static void askOfClip(ClipHibernation x, int clip) {
        x.sceneOf(clip);
        x.commonRun(clip, 3);
        x.nearestClip(clip);
        x.twinsOf(clip);
        x.weeksToFade(clip);
        x.home(clip, 1);
        x.whyNoSleep(clip, 1);
        x.bedFor(clip, 1);
        x.looksFor(clip, 1);
        x.bestReel(clip);
        x.matches(clip, 20);
        x.firstMatch(clip, 20);
        x.bestPattern(clip);
    }

    private static void askOfReel(ClipHibernation x, int reel) {
        x.bedCount(reel);
        x.bed(reel, 0);
        x.sleepers(reel);
        x.longestLook(reel);
        x.looksIfAired(reel);
        x.longestCluster(reel);
    }

    private static void latestFirst(Check check) {
        ClipHibernation x = new ClipHibernation();
        List<String> looks = new ArrayList<>();
        for (int change = 4; change <= 6; change++) {
            looks.add(Look.at(x));
            changes().get(change).accept(x);
        }
        for (int left = 2; left >= 0; left--) {
            check.due("undo()", x.undo(), left);
            check.dueText("the archive", Look.at(x), looks.get(left));
        }
        unseenChanges(check);
    }

    private static void unseenChanges(Check check) {
        ClipHibernation x = new ClipHibernation();
        String before = Look.at(x);
        x.cut(1, 1);
        x.cut(0, 9999);
        x.paint(1, 0, 3);
        x.air(1);
        check.dueText("the archive after changes that are not seen", Look.at(x), before);
        check.due("undoCount() after changes that are not seen", x.undoCount(), 4);
        check.due("runScript() of a bad script", Typed.run(x, "archive;clip 0;"), -1);
        check.due("undoCount() after a bad script", x.undoCount(), 4);
        check.due("runScript() of a good script", Typed.run(x, "archive;"), 0);
        check.due("undoCount() after a good script", x.undoCount(), 5);
    }

    private static void latestEight(Check check) {
        for (int count = 7; count <= 18; count++) {
            ClipHibernation x = new ClipHibernation();
            for (int change = 1; change <= count; change++) {
                x.addFood(change);
            }
            int kept = Math.min(count, 8);
            check.due("undoCount() after " + count, x.undoCount(), kept);
            for (int left = kept - 1; left >= 0; left--) {
                check.due("undo() after " + count, x.undo(), left);
                int standing = count - kept + left;
                check.due("food() with " + standing + " standing", x.food(), 80 + standing * (standing + 1) / 2);
            }
            check.due("undo() of nothing after " + count, x.undo(), -1);
        }
    }

    private static void whatUndoLeaves(Check check) {
        ClipHibernation x = new ClipHibernation();
        String before = Look.at(x);
        x.passWeeks(1);
        x.saveSnapshot();
        x.writeReel(1);
        String report = Look.report(x);
        Typed.run(x, "archive;clip 0;");
        x.append(0, 0, 0, 0, 0);
        check.due("undo()", x.undo(), 0);
        check.dueText("the archive", Look.at(x), before);
        check.dueText("the report", Look.report(x), report);
        check.due("scriptErrorKind()", x.scriptErrorKind(), 2);
        check.due("scriptErrorOffset()", x.scriptErrorOffset(), 13);
        check.due("append", x.append(0, 0, 0, 0, 0), 40);
        check.due("restoreSnapshot()", x.restoreSnapshot(), 3);
        check.due("week()", x.week(), 3);

        // the limits of scenes and the colours of clips come back, too
        ClipHibernation y = Typed.made("archive;clip 123;scene 9;repeat 2(reel 1;);");
        String made = Look.at(y);
        check.due("undo() of the script", y.undo(), 0);
        check.dueText("the archive", Look.at(y), before);
        y.wake(0);
        y.sleep(0, 0);
        y.cut(0, 123);
        y.undo();
        y.passWeeks(2);
        check.due("springs(0)", y.springs(0), 2);
        check.due("springs(1)", y.springs(1), 1);
        check.due("what the script made is gone", made.equals(Look.at(y)) ? 1 : 0, 0);
    }

    private static void throwingChangesNothing(Check check) {
        refuses(check, "truncateInput", Wrong.BAD, x -> x.truncateInput(601));
        refuses(check, "addClip", Wrong.BAD, x -> x.addClip(10));
        refuses(check, "addReel", Wrong.BAD, x -> x.addReel(10));
        refuses(check, "addScene", Wrong.BAD, x -> x.addScene(10));
        refuses(check, "sleep", Wrong.NO_SUCH, x -> x.sleep(4, 2));
        refuses(check, "sleep", Wrong.REFUSED, x -> x.sleep(0, 1));
        refuses(check, "wake", Wrong.NO_SUCH, x -> x.wake(5));
        refuses(check, "wake", Wrong.REFUSED, x -> x.wake(1));
        refuses(check, "cut", Wrong.NO_SUCH, x -> x.cut(2, 20));
        refuses(check, "cut", Wrong.BAD, x -> x.cut(0, 10000));
        refuses(check, "air", Wrong.NO_SUCH, x -> x.air(2));
        refuses(check, "feed", Wrong.NO_SUCH, x -> x.feed(5, 1));
        refuses(check, "feed", Wrong.BAD, x -> x.feed(1, 51));
        refuses(check, "feed", Wrong.REFUSED, x -> x.feed(0, 1));
        refuses(check, "addFood", Wrong.BAD, x -> x.addFood(1000));
        refuses(check, "paint", Wrong.NO_SUCH, x -> x.paint(1, 4, 1));
        refuses(check, "paint", Wrong.BAD, x -> x.paint(1, 0, 10));
        refuses(check, "paint", Wrong.REFUSED, x -> x.paint(0, 0, 1));
        refuses(check, "passWeeks", Wrong.BAD, x -> x.passWeeks(51));
        refuses(check, "writeReel", Wrong.NO_SUCH, x -> x.writeReel(2));
        refuses(check, "looksIfAired", Wrong.NO_SUCH, x -> x.looksIfAired(2));
        refuses(check, "wokenBy", Wrong.BAD, x -> x.wokenBy(0, 0));
        refusesFull(check, "addClip", x -> x.addClip(1));
        refusesFull(check, "addReel", x -> x.addReel(1));
        refusesFull(check, "addScene", x -> x.addScene(1));
        Twins.refuses(check, "addFood", Wrong.REFUSED, () -> Typed.made("archive;repeat 10(food 989;);"), x -> x.addFood(10));
        Twins.refuses(check, "passWeeks", Wrong.REFUSED, () -> Typed.made("archive;repeat 19(weeks 50;);"),
                x -> x.passWeeks(50));
        Twins.refuses(check, "restoreSnapshot", NoSuchElementException.class, ClipHibernation::new, x -> x.restoreSnapshot());
    }

    private static void refuses(Check check, String call, Class<? extends Exception> want, Consumer<ClipHibernation> action) {
        Twins.refuses(check, call, want, Made::rich, action);
    }

    private static void refusesFull(Check check, String call, Consumer<ClipHibernation> action) {
        Twins.refuses(check, call + " in a full archive", Wrong.REFUSED, Made::full, action);
    }

    private static void firstException(Check check) {
        Twins.refuses(check, "addClip(0) of 12", Wrong.BAD, Made::full, x -> x.addClip(0));
        Twins.refuses(check, "addReel(0) of 4", Wrong.BAD, Made::full, x -> x.addReel(0));
        Twins.refuses(check, "addScene(10) of 5", Wrong.BAD, Made::full, x -> x.addScene(10));
        refuses(check, "sleep(0, 2), asleep", Wrong.NO_SUCH, x -> x.sleep(0, 2));
        refuses(check, "sleep(5, 2)", Wrong.NO_SUCH, x -> x.sleep(5, 2));
        refuses(check, "cut(2, 0)", Wrong.NO_SUCH, x -> x.cut(2, 0));
        refuses(check, "feed(5, 0)", Wrong.NO_SUCH, x -> x.feed(5, 0));
        refuses(check, "feed(0, 51), asleep", Wrong.BAD, x -> x.feed(0, 51));
        refuses(check, "paint(5, 0, 0)", Wrong.NO_SUCH, x -> x.paint(5, 0, 0));
        refuses(check, "paint(1, 4, 0)", Wrong.NO_SUCH, x -> x.paint(1, 4, 0));
        refuses(check, "paint(0, 3, 1), asleep", Wrong.NO_SUCH, x -> x.paint(0, 3, 1));
        refuses(check, "paint(0, 0, 10), asleep", Wrong.BAD, x -> x.paint(0, 0, 10));
        refuses(check, "matches(5, 0)", Wrong.NO_SUCH, x -> x.matches(5, 0));
        refuses(check, "wokenBy(2, 0)", Wrong.NO_SUCH, x -> x.wokenBy(2, 0));
        refuses(check, "firstMatch(5, 10000)", Wrong.NO_SUCH, x -> x.firstMatch(5, 10000));
        Twins.refuses(check, "addFood(1000) of 9999", Wrong.BAD, () -> Typed.made("archive;repeat 11(food 899;);"),
                x -> x.addFood(1000));
        Twins.refuses(check, "passWeeks(51) in week 999", Wrong.BAD, () -> Typed.made("archive;repeat 19(weeks 50;);weeks 49;"),
                x -> x.passWeeks(51));
    }

    private static void undoesTheLatest(Check check) {
        ClipHibernation x = new ClipHibernation();
        x.addFood(1);
        x.addFood(10);
        x.addFood(100);
        x.undo();
        check.due("food() without the third", x.food(), 91);
        x.undo();
        check.due("food() without the second", x.food(), 81);
        x.addFood(200);
        x.undo();
        check.due("food() without the fourth", x.food(), 81);
        x.undo();
        check.due("food() without the first", x.food(), 80);
        x.undo();
        check.due("food() with nothing to undo", x.food(), 80);
    }

    private static void undoAnswers(Check check) {
        ClipHibernation x = new ClipHibernation();
        check.due("undo() of a new object", x.undo(), -1);
        x.addFood(1);
        check.due("undo() of one", x.undo(), 0);
        check.due("undo() of none", x.undo(), -1);
        for (int change = 0; change < 9; change++) {
            x.addFood(1);
        }
        check.due("undo() of the most", x.undo(), 7);
        Twins.changesNothing(check, "undo() of nothing", ClipHibernation::new, y -> y.undo());
    }

    private static void undoCounts(Check check) {
        ClipHibernation x = new ClipHibernation();
        check.due("undoCount() of a new object", x.undoCount(), 0);
        for (int change = 1; change <= 20; change++) {
            x.addFood(1);
            check.due("undoCount() after " + change, x.undoCount(), Math.min(change, 8));
        }
        for (int left = 7; left >= 0; left--) {
            x.undo();
            check.due("undoCount() with " + left + " left", x.undoCount(), left);
        }
        x.undo();
        check.due("undoCount() after undo of nothing", x.undoCount(), 0);
    }

    private static void laterSnapshot(Check check) {
        ClipHibernation x = new ClipHibernation();
        x.saveSnapshot();
        x.passWeeks(1);
        String later = Look.at(x);
        x.saveSnapshot();
        x.addClip(9);
        x.addReel(9);
        x.addScene(9);
        x.passWeeks(50);
        x.restoreSnapshot();
        check.dueText("the later snapshot", Look.at(x), later);
        x.writeReel(1);
        String report = Look.report(x);
        x.append(0, 0, 0, 0, 0);
        x.restoreSnapshot();
        check.dueText("the report after restoring", Look.report(x), report);
        check.due("the input after restoring", x.append(0, 0, 0, 0, 0), 40);
    }

    private static void savingIsNoChange(Check check) {
        ClipHibernation x = new ClipHibernation();
        x.saveSnapshot();
        check.due("undoCount() after saving", x.undoCount(), 0);
        check.due("undo() after saving", x.undo(), -1);
        for (int change = 0; change < 8; change++) {
            x.addFood(1);
        }
        x.saveSnapshot();
        check.due("undoCount() of eight after saving", x.undoCount(), 8);
        for (int change = 0; change < 8; change++) {
            x.undo();
        }
        check.due("food() of the beginning", x.food(), 80);
    }

    private static void saveAnswers(Check check) {
        check.due("saveSnapshot() in week 0", Made.empty().saveSnapshot(), 0);
        check.due("saveSnapshot() in week 2", new ClipHibernation().saveSnapshot(), 2);
        check.due("saveSnapshot() in week 999", Typed.made("archive;repeat 19(weeks 50;);weeks 49;").saveSnapshot(), 999);
    }

    private static void snapshotStays(Check check) {
        ClipHibernation x = new ClipHibernation();
        String saved = Look.at(x);
        x.saveSnapshot();
        for (int times = 0; times < 3; times++) {
            changes().get(times).accept(x);
            x.passWeeks(50);
            x.restoreSnapshot();
            check.dueText("the archive restored", Look.at(x), saved);
        }
    }

    private static void nothingToUndo(Check check) {
        for (int count : new int[] {0, 1, 8, 9}) {
            ClipHibernation x = new ClipHibernation();
            x.saveSnapshot();
            for (int change = 0; change < count; change++) {
                x.addFood(1);
            }
            x.restoreSnapshot();
            check.due("undoCount() after " + count + " and restoring", x.undoCount(), 0);
            check.due("undo() after " + count + " and restoring", x.undo(), -1);
            x.addFood(5);
            check.due("undo() of a change after restoring", x.undo(), 0);
            check.due("food()", x.food(), 80);
        }
    }

    private static void restoreAnswers(Check check) {
        ClipHibernation x = Made.empty();
        x.saveSnapshot();
        x.passWeeks(3);
        check.due("restoreSnapshot() of week 0", x.restoreSnapshot(), 0);
        ClipHibernation y = Typed.made("archive;repeat 19(weeks 50;);weeks 49;");
        y.saveSnapshot();
        y.undo();
        check.due("restoreSnapshot() of week 999", y.restoreSnapshot(), 999);
        check.due("week()", y.week(), 999);
    }

    private static void noSnapshot(Check check) {
        Twins.refuses(check, "restoreSnapshot()", NoSuchElementException.class, ClipHibernation::new, x -> x.restoreSnapshot());
        Twins.refuses(check, "restoreSnapshot() after a script", NoSuchElementException.class, Made::full,
                x -> x.restoreSnapshot());
        ClipHibernation x = new ClipHibernation();
        x.saveSnapshot();
        check.due("restoreSnapshot() of one saved", x.restoreSnapshot(), 2);
    }
}
