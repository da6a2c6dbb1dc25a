/** Promises 40 to 50: what is asked of reels and beds. */
public final class BedsTest {
    private static final Check check = new Check();

    public static void main(String[] args) {
        wrongNumbers();
        newArchive();
        bedsAndSleepers();
        homes();
        refusals();
        looks();
        aired();
        clusters();
        bestReels();
        check.end();
    }

    private interface Question {
        void ask(ClipHibernation x, int number);
    }

    private static void refusesWrong(String name, int count, Question question) {
        for (int wrong : new int[] {-1, count, Integer.MIN_VALUE, Integer.MAX_VALUE}) {
            check.refuses(name + " of " + wrong, IndexOutOfBoundsException.class, x -> question.ask(x, wrong));
        }
    }

    private static void wrongNumbers() {
        refusesWrong("bedCount", 2, (x, reel) -> x.bedCount(reel));
        refusesWrong("bed: reel", 2, (x, reel) -> x.bed(reel, 0));
        refusesWrong("bed: bed of reel 0", 3, (x, bed) -> x.bed(0, bed));
        refusesWrong("bed: bed of reel 1", 5, (x, bed) -> x.bed(1, bed));
        refusesWrong("sleepers", 2, (x, reel) -> x.sleepers(reel));
        refusesWrong("home: clip", 5, (x, clip) -> x.home(clip, 0));
        refusesWrong("home: reel", 2, (x, reel) -> x.home(0, reel));
        refusesWrong("whyNoSleep: clip", 5, (x, clip) -> x.whyNoSleep(clip, 0));
        refusesWrong("whyNoSleep: reel", 2, (x, reel) -> x.whyNoSleep(0, reel));
        refusesWrong("bedFor: clip", 5, (x, clip) -> x.bedFor(clip, 0));
        refusesWrong("bedFor: reel", 2, (x, reel) -> x.bedFor(0, reel));
        refusesWrong("looksFor: clip", 5, (x, clip) -> x.looksFor(clip, 0));
        refusesWrong("looksFor: reel", 2, (x, reel) -> x.looksFor(0, reel));
        refusesWrong("longestLook", 2, (x, reel) -> x.longestLook(reel));
        refusesWrong("looksIfAired", 2, (x, reel) -> x.looksIfAired(reel));
        refusesWrong("longestCluster", 2, (x, reel) -> x.longestCluster(reel));
        refusesWrong("bestReel", 5, (x, clip) -> x.bestReel(clip));
    }

    private static void newArchive() {
        ClipHibernation x = new ClipHibernation();
        check.due("bedCount(0)", x.bedCount(0), 3);
        check.due("bedCount(1)", x.bedCount(1), 5);
        int[] beds = {-1, 3, -1, 2, -1};
        for (int bed = 0; bed < 5; bed++) {
            check.due("bed(1, " + bed + ")", x.bed(1, bed), beds[bed]);
        }
        check.due("bed(0, 0)", x.bed(0, 0), ClipHibernation.WARM);
        check.due("sleepers(0)", x.sleepers(0), 1);
        check.due("sleepers(1)", x.sleepers(1), 12);
        check.due("undoCount() after questions", x.undoCount(), 0);
    }

    private static void bedsAndSleepers() {
        ClipHibernation x = Typed.made("archive;repeat 12(clip 9;);reel 9;reel 9;repeat 2(air 0;);sleep 11 0;sleep 3 1;"
                + "sleep 4 1;sleep 0 0;");
        check.due("sleepers(0)", x.sleepers(0), 1 << 11 | 1);
        check.due("sleepers(1)", x.sleepers(1), 1 << 3 | 1 << 4);
        check.due("bed(0, 0)", x.bed(0, 0), 11);
        check.due("bed(0, 1)", x.bed(0, 1), 0);
        x.wake(11);
        check.due("sleepers(0)", x.sleepers(0), 1);
        x.wake(0);
        check.due("sleepers(0)", x.sleepers(0), 0);
        check.due("bed(0, 8)", x.bed(0, 8), ClipHibernation.COLD);
    }

    private static void homes() {
        ClipHibernation x = Typed.made("archive;clip 99;clip 123;clip 44;clip 9;reel 9;reel 7;reel 1;reel 5;");
        int[] hashes = {288, 29, 128, 9};
        int[] counts = {9, 7, 1, 5};
        for (int clip = 0; clip < 4; clip++) {
            for (int reel = 0; reel < 4; reel++) {
                check.due("home(" + clip + ", " + reel + ")", x.home(clip, reel), hashes[clip] % counts[reel]);
            }
        }
        x.sleep(0, 1);
        check.due("home(0, 1) of a sleeper", x.home(0, 1), 1);
        check.due("home(1, 1) behind a sleeper", x.home(1, 1), 1);
        x.paint(1, 2, 4);
        check.due("home(1, 1) after painting", x.home(1, 1), 2);
        x.passWeeks(50);
        check.due("home(3, 0) of a faded clip", x.home(3, 0), 0);
    }

    private static void refusals() {
        ClipHibernation x = new ClipHibernation();
        check.due("whyNoSleep(0, 1) asleep", x.whyNoSleep(0, 1), ClipHibernation.NOT_AWAKE);
        check.due("bedFor(0, 1) asleep", x.bedFor(0, 1), -1);
        check.due("whyNoSleep(1, 1)", x.whyNoSleep(1, 1), ClipHibernation.ALLOWED);
        check.due("bedFor(1, 1)", x.bedFor(1, 1), 4);
        check.due("bedFor(1, 0)", x.bedFor(1, 0), 0);
        check.due("bedFor(4, 0)", x.bedFor(4, 0), 0);
        check.due("bedFor(4, 1)", x.bedFor(4, 1), 4);

        ClipHibernation y = Typed.made("archive;repeat 5(clip 1;);reel 2;sleep 0 0;");
        check.due("bedFor(1, 0)", y.bedFor(1, 0), 0);
        y.sleep(1, 0);
        check.due("whyNoSleep(2, 0)", y.whyNoSleep(2, 0), ClipHibernation.NO_BED);
        check.due("bedFor(2, 0)", y.bedFor(2, 0), -1);
        check.due("whyNoSleep(1, 0) asleep in a full reel", y.whyNoSleep(1, 0), ClipHibernation.NOT_AWAKE);
        y.feed(3, 2);
        y.feed(4, 1);
        y.passWeeks(8);
        check.due("fat(2)", y.fat(2), 8);
        check.due("fat(3)", y.fat(3), 10);
        check.due("fat(4)", y.fat(4), 9);
        check.due("whyNoSleep(2, 0) thin in a full reel", y.whyNoSleep(2, 0), ClipHibernation.TOO_THIN);
        check.due("whyNoSleep(4, 0) with fat 9", y.whyNoSleep(4, 0), ClipHibernation.TOO_THIN);
        check.due("whyNoSleep(3, 0) with fat 10", y.whyNoSleep(3, 0), ClipHibernation.NO_BED);
        y.wake(0);
        check.due("whyNoSleep(3, 0)", y.whyNoSleep(3, 0), ClipHibernation.ALLOWED);
        check.due("bedFor(3, 0)", y.bedFor(3, 0), 1);
        check.due("bedFor(2, 0) thin", y.bedFor(2, 0), -1);
        y.passWeeks(3);
        check.due("whyNoSleep(3, 0) faded", y.whyNoSleep(3, 0), ClipHibernation.NOT_AWAKE);
        check.due("bedFor(3, 0) faded", y.bedFor(3, 0), -1);
        check.due("bed(0, 1) after questions", y.bed(0, 1), ClipHibernation.WARM);
    }

    private static void looks() {
        ClipHibernation x = new ClipHibernation();
        check.due("looksFor(0, 0)", x.looksFor(0, 0), 1);
        // reel 0 is WARM, COLD, clip 0; the home of clip 4 is bed 0
        check.due("looksFor(4, 0) until COLD", x.looksFor(4, 0), 2);
        // the home of clip 2 is 128 % 3 = 2
        check.due("looksFor(2, 0) round the end", x.looksFor(2, 0), 3);
        check.due("looksFor(4, 1) at COLD", x.looksFor(4, 1), 1);
        check.due("longestLook(0)", x.longestLook(0), 1);
        check.due("longestLook(1)", x.longestLook(1), 1);

        // home 1 for all; beds: 1, 2, 3, 0 in turn
        ClipHibernation y = Typed.made("archive;clip 1;clip 1;clip 1;clip 1;clip 1;reel 4;reel 4;sleep 0 0;sleep 1 0;"
                + "sleep 2 0;");
        check.due("longestLook(1) of nobody", y.longestLook(1), 0);
        check.due("looksFor(3, 0) until COLD", y.looksFor(3, 0), 4);
        y.sleep(3, 0);
        for (int clip = 0; clip < 4; clip++) {
            check.due("looksFor(" + clip + ", 0)", y.looksFor(clip, 0), clip + 1);
        }
        check.due("looksFor(4, 0) in a full reel", y.looksFor(4, 0), 4);
        check.due("longestLook(0)", y.longestLook(0), 4);
        y.wake(0);
        y.wake(1);
        check.due("looksFor(3, 0) past WARM beds", y.looksFor(3, 0), 4);
        check.due("looksFor(0, 0) that left", y.looksFor(0, 0), 4);
        y.wake(3);
        check.due("longestLook(0)", y.longestLook(0), 3);
        y.wake(2);
        check.due("longestLook(0) of nobody", y.longestLook(0), 0);
        check.due("looksFor(0, 0) with all WARM", y.looksFor(0, 0), 4);
    }

    private static void aired() {
        ClipHibernation x = new ClipHibernation();
        check.due("looksIfAired(0)", x.looksIfAired(0), 1);
        check.due("looksIfAired(1)", x.looksIfAired(1), 2);
        ClipHibernation y = Typed.made("archive;clip 1;clip 1;clip 1;clip 2;reel 4;reel 4;sleep 0 0;sleep 1 0;sleep 2 0;"
                + "sleep 3 0;wake 0;wake 1;");
        check.due("looksIfAired(1) of nobody", y.looksIfAired(1), 0);
        // clips 2 and 3 would lie in their homes
        check.due("looksIfAired(0)", y.looksIfAired(0), 2);
        check.due("looksFor(2, 0) as it is", y.looksFor(2, 0), 3);
        check.due("bed(0, 1) as it is", y.bed(0, 1), ClipHibernation.WARM);
        y.sleep(0, 0);
        y.sleep(1, 0);
        // in the order of their numbers: beds 1, 2, 3, and clip 3 with home 2 in bed 0
        check.due("looksIfAired(0)", y.looksIfAired(0), 1 + 2 + 3 + 3);
        // whatever their fat is
        ClipHibernation z = Typed.made("archive;clip 1;clip 1;reel 2;sleep 0 0;sleep 1 0;weeks 39;wake 0;");
        check.due("looksIfAired(0) of a thin clip", z.looksIfAired(0), 1);
        check.due("bed(0, 1)", z.bed(0, 1), ClipHibernation.WARM);
        check.due("undoCount()", z.undoCount(), 1);
        check.due("looksFor(1, 0)", z.looksFor(1, 0), 2);
    }

    private static void clusters() {
        ClipHibernation x = new ClipHibernation();
        // WARM, COLD, clip 0: beds 2 and 0
        check.due("longestCluster(0)", x.longestCluster(0), 2);
        check.due("longestCluster(1)", x.longestCluster(1), 1);
        ClipHibernation y = Typed.made("archive;clip 1;clip 2;clip 4;clip 5;clip 6;clip 9;reel 9;reel 9;reel 2;reel 1;"
                + "sleep 0 0;sleep 1 0;sleep 2 0;sleep 3 0;sleep 4 0;");
        check.due("longestCluster(0)", y.longestCluster(0), 3);
        check.due("longestCluster(1) of COLD beds", y.longestCluster(1), 0);
        y.wake(3);
        check.due("longestCluster(0) with a WARM bed", y.longestCluster(0), 3);
        y.sleep(5, 0);
        check.due("longestCluster(0) in two places", y.longestCluster(0), 3);
        y.air(0);
        check.due("longestCluster(0) aired", y.longestCluster(0), 3);
        check.due("longestCluster(3)", y.longestCluster(3), 0);
        y.sleep(3, 3);
        check.due("longestCluster(3) of one bed", y.longestCluster(3), 1);
        y.wake(5);
        y.sleep(5, 2);
        check.due("longestCluster(2) of one of two beds", y.longestCluster(2), 1);
        y.wake(0);
        y.sleep(0, 2);
        check.due("longestCluster(2) of all beds", y.longestCluster(2), 2);
    }

    private static void bestReels() {
        ClipHibernation x = new ClipHibernation();
        check.due("bestReel(0) asleep", x.bestReel(0), -1);
        check.due("bestReel(1)", x.bestReel(1), 0);
        check.due("bestReel(4)", x.bestReel(4), 0);
        ClipHibernation y = Typed.made("archive;repeat 6(clip 1;);clip 1;reel 3;reel 2;reel 1;reel 4;sleep 0 0;sleep 1 2;"
                + "sleep 2 0;sleep 3 1;sleep 4 3;");
        // passed: 2 in reel 0, 1 in reel 1, full, 1 in reel 3
        check.due("bestReel(5) of several", y.bestReel(5), 1);
        y.sleep(5, 1);
        check.due("bestReel(6)", y.bestReel(6), 3);
        y.wake(0);
        check.due("bestReel(6) with its home WARM", y.bestReel(6), 0);
        y.sleep(0, 0);
        y.sleep(6, 3);
        y.passWeeks(8);
        y.wake(1);
        check.due("bestReel(1)", y.bestReel(1), 2);
        y.passWeeks(6);
        check.due("fat(1)", y.fat(1), 8);
        check.due("bestReel(1) too thin", y.bestReel(1), -1);
        y.passWeeks(2);
        check.due("bestReel(1) faded", y.bestReel(1), -1);
        ClipHibernation full = Typed.made("archive;clip 1;clip 2;reel 1;sleep 0 0;");
        check.due("bestReel(1) without a bed", full.bestReel(1), -1);
        ClipHibernation none = Typed.made("archive;clip 1;");
        check.due("bestReel(0) without reels", none.bestReel(0), -1);
        // eight beds may be passed
        ClipHibernation far = Typed.made("archive;repeat 9(clip 1;);reel 9;sleep 0 0;sleep 1 0;sleep 2 0;sleep 3 0;"
                + "sleep 4 0;sleep 5 0;sleep 6 0;sleep 7 0;");
        check.due("bestReel(8) behind eight beds", far.bestReel(8), 0);
        check.due("bedFor(8, 0)", far.bedFor(8, 0), 0);
    }
}
