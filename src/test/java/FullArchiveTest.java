/** An archive in which everything is as many and as large as it can be, and one in which nothing is. */
public final class FullArchiveTest {
    private static final Check check = new Check();

    public static void main(String[] args) {
        ClipHibernation x = Made.full();
        check.due("clipCount()", x.clipCount(), 12);
        check.due("reelCount()", x.reelCount(), 4);
        check.due("sceneCount()", x.sceneCount(), 5);
        int home = x.hash(11) % 9;
        for (int clip = 0; clip < 12; clip++) {
            check.due("home(" + clip + ", 3)", x.home(clip, 3), home);
            check.due("twinsOf(" + clip + ")", x.twinsOf(clip), 4095 - (1 << clip));
            check.due("nearestClip(" + clip + ")", x.nearestClip(clip), clip == 0 ? 1 : 0);
            check.due("commonRun(" + clip + ", 11)", x.commonRun(clip, 11), 8);
            check.due("bestPattern(" + clip + ")", x.bestPattern(clip), -1);
            check.due("firstMatch(" + clip + ", 9999)", x.firstMatch(clip, 9999), 0);
            check.due("bestReel(" + clip + ")", x.bestReel(clip), 0);
        }
        for (int clip = 0; clip < 9; clip++) {
            check.due("sleep(" + clip + ", 3)", x.sleep(clip, 3), (home + clip) % 9);
        }
        for (int clip = 9; clip < 12; clip++) {
            check.due("whyNoSleep(" + clip + ", 3)", x.whyNoSleep(clip, 3), ClipHibernation.NO_BED);
            check.due("looksFor(" + clip + ", 3)", x.looksFor(clip, 3), 9);
            check.due("sleep(" + clip + ", 2)", x.sleep(clip, 2), (home + clip) % 9);
        }
        aired(x, home);
        check.due("matchingSleepers(9999)", x.matchingSleepers(9999), 4095);
        check.due("writeReel(3)", x.writeReel(3), 80);
        check.dueReal("sleepShare()", x.sleepShare(), 1.0);
        check.due("passWeeks(1)", x.passWeeks(1), 0);
        check.due("violations()", x.violations(), 0);
        for (int scene = 0; scene < 5; scene++) {
            check.due("springs(" + scene + ")", x.springs(scene), 9);
        }
        check.due("wokenBy(4, 9) with nine springs", Integer.bitCount(x.wokenBy(4, 9)), 9);
        check.due("cut(4, 9) begins in reel 2", x.cut(4, 9) & 7 << 9, 7 << 9);
        check.due("passWeeks(38)", x.passWeeks(38), 9);
        check.due("passWeeks(1)", x.passWeeks(1), 3);
        check.due("fadedClips()", x.fadedClips(), 4095);
        check.dueReal("meanFat()", x.meanFat(), 0.0);
        check.due("burnedFat()", x.burnedFat(), 480);
        check.due("violations()", x.violations(), 0);
        nothing();
        check.end();
    }

    private static ClipHibernation crowded() {
        return Typed.made(Made.FULL + "sleep 0 3;sleep 1 3;sleep 2 3;sleep 3 3;sleep 4 3;sleep 5 3;sleep 6 3;sleep 7 3;"
                + "sleep 8 3;sleep 9 2;sleep 10 2;sleep 11 2;");
    }

    private static void aired(ClipHibernation x, int home) {
        String before = Look.at(x);
        check.dueText("the same by a script", Look.at(crowded()), before);
        check.due("longestCluster(3)", x.longestCluster(3), 9);
        check.due("longestLook(3)", x.longestLook(3), 9);
        check.due("looksIfAired(3)", x.looksIfAired(3), 45);
        for (int reel = 0; reel < 4; reel++) {
            ClipHibernation y = crowded();
            check.due("air(" + reel + ")", y.air(reel), 0);
            check.dueText("the archive after air(" + reel + ")", Look.at(y), before);
        }
        ClipHibernation z = crowded();
        z.wake(9);
        z.air(1);
        check.due("bed of reel 2 beside an aired one", z.bed(2, home), ClipHibernation.WARM);
        check.due("sleep(9, 2)", z.sleep(9, 2), home);
        check.dueText("the archive", Look.at(z), before);
    }

    private static void nothing() {
        ClipHibernation x = Typed.made("archive;");
        check.due("passWeeks(1)", x.passWeeks(1), 0);
        check.due("matchingSleepers(1)", x.matchingSleepers(1), 0);
        check.due("fadedClips()", x.fadedClips(), 0);
        check.dueReal("meanFat()", x.meanFat(), 0.0);
        check.dueReal("sleepShare()", x.sleepShare(), 0.0);
        check.due("violations()", x.violations(), 0);
        check.refuses("air(0)", IndexOutOfBoundsException.class, x, () -> x.air(0));
        check.refuses("writeReel(0)", IndexOutOfBoundsException.class, x, () -> x.writeReel(0));
        check.refuses("cut(0, 1)", IndexOutOfBoundsException.class, x, () -> x.cut(0, 1));
        check.refuses("sleep(0, 0)", IndexOutOfBoundsException.class, x, () -> x.sleep(0, 0));
    }
}
