import java.util.function.ToIntFunction;

/** Promises 28 to 39: what is asked of clips. */
public final class ClipsTest {
    private static final Check check = new Check();

    public static void main(String[] args) {
        wrongClips();
        plainAnswers();
        hashes();
        places();
        commonRuns();
        twins();
        fading();
        check.end();
    }

    private interface Question {
        void ask(ClipHibernation x, int clip);
    }

    private static void refusesWrongClips(String name, Question question) {
        for (int wrong : new int[] {-1, 5, 12, Integer.MIN_VALUE, Integer.MAX_VALUE}) {
            check.refuses(name + " of clip " + wrong, IndexOutOfBoundsException.class, x -> question.ask(x, wrong));
        }
        ClipHibernation none = Typed.made("archive;");
        check.refuses(name + " without clips", IndexOutOfBoundsException.class, none, () -> question.ask(none, 0));
    }

    private static void wrongClips() {
        refusesWrongClips("state", (x, clip) -> x.state(clip));
        refusesWrongClips("colours", (x, clip) -> x.colours(clip));
        refusesWrongClips("length", (x, clip) -> x.length(clip));
        refusesWrongClips("hash", (x, clip) -> x.hash(clip));
        refusesWrongClips("fat", (x, clip) -> x.fat(clip));
        refusesWrongClips("reelOf", (x, clip) -> x.reelOf(clip));
        refusesWrongClips("bedOf", (x, clip) -> x.bedOf(clip));
        refusesWrongClips("sceneOf", (x, clip) -> x.sceneOf(clip));
        refusesWrongClips("commonRun first", (x, clip) -> x.commonRun(clip, 0));
        refusesWrongClips("commonRun second", (x, clip) -> x.commonRun(0, clip));
        refusesWrongClips("nearestClip", (x, clip) -> x.nearestClip(clip));
        refusesWrongClips("twinsOf", (x, clip) -> x.twinsOf(clip));
        refusesWrongClips("weeksToFade", (x, clip) -> x.weeksToFade(clip));
    }

    private static void dueEach(String name, ClipHibernation x, ToIntFunction<Integer> question, int... want) {
        check.due("clipCount()", x.clipCount(), want.length);
        for (int clip = 0; clip < want.length; clip++) {
            check.due(name + "(" + clip + ")", question.applyAsInt(clip), want[clip]);
        }
    }

    private static void plainAnswers() {
        ClipHibernation x = new ClipHibernation();
        dueEach("state", x, x::state, 1, 0, 1, 1, 0);
        dueEach("colours", x, x::colours, 123, 3214, 44, 12345678, 9);
        dueEach("length", x, x::length, 3, 4, 2, 8, 1);
        dueEach("hash", x, x::hash, 29, 603, 128, 221, 9);
        dueEach("fat", x, x::fat, 38, 38, 38, 38, 52);
        dueEach("reelOf", x, x::reelOf, 0, -1, 1, 1, -1);
        dueEach("bedOf", x, x::bedOf, 2, -1, 3, 1, -1);
        dueEach("sceneOf", x, x::sceneOf, -1, 1, -1, -1, -1);
        x.passWeeks(50);
        dueEach("state", x, x::state, 2, 2, 2, 2, 2);
        dueEach("colours of the faded", x, x::colours, 123, 3214, 44, 12345678, 9);
        dueEach("fat of the faded", x, x::fat, 0, 0, 0, 0, 0);
        dueEach("reelOf of the faded", x, x::reelOf, -1, -1, -1, -1, -1);
        dueEach("bedOf of the faded", x, x::bedOf, -1, -1, -1, -1, -1);
        dueEach("sceneOf of the faded", x, x::sceneOf, -1, 1, -1, -1, -1);
    }

    private static void hashes() {
        ClipHibernation x = Typed.made("archive;clip 1;clip 9;clip 11;clip 99;clip 999;clip 99999999;clip 98765432;");
        dueEach("hash", x, x::hash, Made.hash("1"), Made.hash("9"), Made.hash("11"), Made.hash("99"), Made.hash("999"),
                Made.hash("99999999"), Made.hash("98765432"));
        check.due("hash of 99 by hand", x.hash(3), 288);
        check.due("hash of 999 by hand", x.hash(4), 8937 - 8 * 997);
    }

    private static void places() {
        ClipHibernation x = Typed.made("archive;clip 8;clip 8;clip 8;clip 1;reel 9;reel 1;reel 1;reel 9;sleep 0 3;sleep 1 3;"
                + "sleep 2 2;sleep 3 0;");
        dueEach("reelOf", x, x::reelOf, 3, 3, 2, 0);
        dueEach("bedOf", x, x::bedOf, 8, 0, 0, 1);
        x.wake(1);
        dueEach("reelOf", x, x::reelOf, 3, -1, 2, 0);
        dueEach("bedOf", x, x::bedOf, 8, -1, 0, 1);
    }

    private static void commonRuns() {
        ClipHibernation x = new ClipHibernation();
        int[][] want = {{3, 1, 0, 3, 0}, {1, 4, 1, 1, 0}, {0, 1, 2, 1, 0}, {3, 1, 1, 8, 0}, {0, 0, 0, 0, 1}};
        for (int clip = 0; clip < 5; clip++) {
            for (int other = 0; other < 5; other++) {
                check.due("commonRun(" + clip + ", " + other + ")", x.commonRun(clip, other), want[clip][other]);
            }
        }
        dueEach("nearestClip", x, x::nearestClip, 3, 0, 1, 0, 0);
        x.passWeeks(50);
        check.due("commonRun(0, 3) of the faded", x.commonRun(0, 3), 3);
        check.due("nearestClip(0) of the faded", x.nearestClip(0), 3);

        ClipHibernation y = Typed.made("archive;clip 91235;clip 12312354;clip 5321;clip 12;clip 99999999;clip 99999;"
                + "clip 35;clip 78;");
        check.due("commonRun(0, 1)", y.commonRun(0, 1), 4);
        check.due("commonRun(0, 2)", y.commonRun(0, 2), 1);
        check.due("commonRun(4, 5)", y.commonRun(4, 5), 5);
        check.due("commonRun(0, 6) at the end", y.commonRun(0, 6), 2);
        check.due("commonRun(7, 0)", y.commonRun(7, 0), 0);
        check.due("nearestClip(6) of several", y.nearestClip(6), 0);
        check.due("nearestClip(4)", y.nearestClip(4), 5);
        check.due("nearestClip(7) without a common run", y.nearestClip(7), 0);
        check.due("nearestClip(0)", y.nearestClip(0), 1);
        // colours of a clip that was there before do not count
        ClipHibernation again = Typed.made("archive;clip 1234;");
        again.addClip(1234);
        again.undo();
        again.addClip(12);
        again.addClip(91234);
        check.due("commonRun(0, 1) of a clip made anew", again.commonRun(0, 1), 2);
        check.due("commonRun(1, 0) of a clip made anew", again.commonRun(1, 0), 2);
        check.due("commonRun(1, 2) of a clip made anew", again.commonRun(1, 2), 2);
        check.due("firstMatch(1, 34) of a clip made anew", again.firstMatch(1, 34), -1);
        ClipHibernation one = Typed.made("archive;clip 5;");
        check.due("nearestClip(0) of one clip", one.nearestClip(0), -1);
        ClipHibernation two = Typed.made("archive;clip 5;clip 6;");
        check.due("nearestClip(0) of two", two.nearestClip(0), 1);
        check.due("nearestClip(1) of two", two.nearestClip(1), 0);
    }

    private static void twins() {
        String same = null;
        for (int number = 1; same == null; number++) {
            String text = Integer.toString(number);
            if (text.indexOf('0') < 0 && number != 123 && Made.hash(text) == 29) {
                same = text;
            }
        }
        ClipHibernation x = Typed.made("archive;clip 123;clip " + same + ";clip 44;clip 123;clip 44;clip 321;");
        dueEach("twinsOf", x, x::twinsOf, 2 | 8, 1 | 8, 16, 1 | 2, 4, 0);
        x.passWeeks(10);
        dueEach("twinsOf of the faded", x, x::twinsOf, 2 | 8, 1 | 8, 16, 1 | 2, 4, 0);
        ClipHibernation y = Typed.made("archive;clip 44;clip 45;");
        y.paint(1, 1, 4);
        check.due("twinsOf(0) after painting", y.twinsOf(0), 2);
    }

    private static void fading() {
        ClipHibernation x = new ClipHibernation();
        dueEach("weeksToFade", x, x::weeksToFade, 38, 10, 38, 38, 13);
        x.feed(4, 1);
        check.due("weeksToFade(4) with fat 53", x.weeksToFade(4), 14);
        x.passWeeks(9);
        dueEach("weeksToFade", x, x::weeksToFade, 29, 1, 29, 29, 5);
        x.passWeeks(1);
        dueEach("weeksToFade", x, x::weeksToFade, 28, 0, 28, 28, 4);
        x.wake(0);
        check.due("weeksToFade(0) awake with fat 28", x.weeksToFade(0), 7);
        for (int clip = 2; clip < 5; clip++) {
            int weeks = x.weeksToFade(clip);
            x.saveSnapshot();
            x.passWeeks(weeks - 1);
            check.due("state a week before", x.state(clip) == ClipHibernation.FADED ? 1 : 0, 0);
            x.passWeeks(1);
            check.due("state then", x.state(clip), ClipHibernation.FADED);
            x.restoreSnapshot();
        }
        ClipHibernation late = Typed.made("archive;repeat 19(weeks 50;);weeks 49;clip 1;");
        check.due("weeksToFade(0) in the last week", late.weeksToFade(0), 10);
    }
}
