/** Promises 51 to 55: matches, matchingSleepers, wokenBy, firstMatch and bestPattern. */
public final class CutsTest {
    private static final Check check = new Check();
    private static final int[] NO_PATTERNS = {0, -1, 10000, 12345, Integer.MIN_VALUE, Integer.MAX_VALUE};

    public static void main(String[] args) {
        wrongNumbers();
        matches();
        sleepers();
        woken();
        bestPatterns();
        check.end();
    }

    private static void wrongNumbers() {
        for (int wrong : new int[] {-1, 5, Integer.MIN_VALUE, Integer.MAX_VALUE}) {
            check.refuses("matches(" + wrong + ", 1)", IndexOutOfBoundsException.class, x -> x.matches(wrong, 1));
            check.refuses("matches(" + wrong + ", 0)", IndexOutOfBoundsException.class, x -> x.matches(wrong, 0));
            check.refuses("firstMatch(" + wrong + ", 1)", IndexOutOfBoundsException.class, x -> x.firstMatch(wrong, 1));
            check.refuses("firstMatch(" + wrong + ", 0)", IndexOutOfBoundsException.class, x -> x.firstMatch(wrong, 0));
            check.refuses("bestPattern(" + wrong + ")", IndexOutOfBoundsException.class, x -> x.bestPattern(wrong));
        }
        for (int wrong : new int[] {-1, 2, Integer.MIN_VALUE, Integer.MAX_VALUE}) {
            check.refuses("wokenBy(" + wrong + ", 1)", IndexOutOfBoundsException.class, x -> x.wokenBy(wrong, 1));
            check.refuses("wokenBy(" + wrong + ", 0)", IndexOutOfBoundsException.class, x -> x.wokenBy(wrong, 0));
        }
        for (int wrong : NO_PATTERNS) {
            check.refuses("matches(0, " + wrong + ")", IllegalArgumentException.class, x -> x.matches(0, wrong));
            check.refuses("firstMatch(0, " + wrong + ")", IllegalArgumentException.class, x -> x.firstMatch(0, wrong));
            check.refuses("matchingSleepers(" + wrong + ")", IllegalArgumentException.class, x -> x.matchingSleepers(wrong));
            check.refuses("wokenBy(0, " + wrong + ")", IllegalArgumentException.class, x -> x.wokenBy(0, wrong));
        }
    }

    private static void dueMatch(ClipHibernation x, int clip, int pattern, int first) {
        check.due("firstMatch(" + clip + ", " + pattern + ")", x.firstMatch(clip, pattern), first);
        check.due("matches(" + clip + ", " + pattern + ")", x.matches(clip, pattern) ? 1 : 0, first == -1 ? 0 : 1);
    }

    private static void matches() {
        ClipHibernation x = new ClipHibernation();
        dueMatch(x, 3, 1, 0);
        dueMatch(x, 3, 8, 7);
        dueMatch(x, 3, 9, -1);
        dueMatch(x, 3, 1234, 0);
        dueMatch(x, 3, 5678, 4);
        dueMatch(x, 3, 2045, 1);
        dueMatch(x, 3, 2005, 1);
        dueMatch(x, 3, 2055, -1);
        dueMatch(x, 3, 5000, 4);
        dueMatch(x, 3, 6000, -1);
        dueMatch(x, 3, 10, 0);
        dueMatch(x, 3, 80, -1);
        dueMatch(x, 3, 4321, -1);
        dueMatch(x, 4, 9, 0);
        dueMatch(x, 4, 90, -1);
        dueMatch(x, 2, 4, 0);
        dueMatch(x, 2, 40, 0);
        dueMatch(x, 2, 44, 0);
        dueMatch(x, 2, 444, -1);
        dueMatch(x, 1, 3214, 0);
        dueMatch(x, 1, 9999, -1);
        dueMatch(x, 0, 1230, -1);
        dueMatch(x, 0, 1, 0);
        dueMatch(x, 0, 3, 2);
        x.passWeeks(50);
        dueMatch(x, 3, 2045, 1);

        ClipHibernation y = Typed.made("archive;clip 11213121;clip 77778;");
        dueMatch(y, 0, 12, 1);
        dueMatch(y, 0, 121, 1);
        dueMatch(y, 0, 1213, 1);
        dueMatch(y, 0, 3021, 4);
        dueMatch(y, 0, 1021, 0);
        dueMatch(y, 0, 1023, -1);
        dueMatch(y, 0, 1001, 0);
        dueMatch(y, 0, 1003, 1);
        dueMatch(y, 1, 7008, 1);
        dueMatch(y, 1, 78, 3);
        dueMatch(y, 1, 7778, 1);
    }

    private static void sleepers() {
        ClipHibernation x = new ClipHibernation();
        check.due("matchingSleepers(20)", x.matchingSleepers(20), 1 | 8);
        check.due("matchingSleepers(4)", x.matchingSleepers(4), 4 | 8);
        check.due("matchingSleepers(2) without the waking", x.matchingSleepers(2), 1 | 8);
        check.due("matchingSleepers(9)", x.matchingSleepers(9), 0);
        check.due("matchingSleepers(9999)", x.matchingSleepers(9999), 0);
        x.sleep(4, 0);
        check.due("matchingSleepers(9)", x.matchingSleepers(9), 16);
        x.passWeeks(38);
        check.due("matchingSleepers(4) without the faded", x.matchingSleepers(4), 0);
        check.due("undoCount()", x.undoCount(), 2);
    }

    private static void woken() {
        ClipHibernation x = new ClipHibernation();
        String before = Look.at(x);
        check.due("wokenBy(0, 20)", x.wokenBy(0, 20), 1 | 8);
        check.due("wokenBy(0, 20) again", x.wokenBy(0, 20), 1 | 8);
        check.due("wokenBy(1, 20) without springs", x.wokenBy(1, 20), 0);
        check.due("wokenBy(0, 9)", x.wokenBy(0, 9), 0);
        check.dueText("the archive after wokenBy", Look.at(x), before);
        check.due("undoCount()", x.undoCount(), 0);
        // clips 0 to 3 lie in beds 3, 2, 1 of reel 1 and in reel 0
        ClipHibernation y = Typed.made("archive;clip 14;clip 13;clip 12;clip 11;reel 1;reel 4;scene 3;sleep 0 1;"
                + "sleep 1 1;sleep 2 1;sleep 3 0;");
        check.due("wokenBy(0, 1) with too few springs", y.wokenBy(0, 1), 1 << 3 | 1 << 2 | 1 << 1);
        check.due("wokenBy(0, 14)", y.wokenBy(0, 14), 1);
        check.due("cut(0, 1)", y.cut(0, 1), 1 << 3 | 1 << 2 | 1 << 1);
        check.due("wokenBy(0, 14) without springs", y.wokenBy(0, 14), 0);
    }

    private static void bestPatterns() {
        ClipHibernation x = new ClipHibernation();
        check.due("bestPattern(0)", x.bestPattern(0), -1);
        check.due("bestPattern(1)", x.bestPattern(1), 14);
        check.due("bestPattern(2)", x.bestPattern(2), 44);
        check.due("bestPattern(3)", x.bestPattern(3), 5);
        check.due("bestPattern(4)", x.bestPattern(4), 9);

        ClipHibernation y = Typed.made("archive;clip 12341235;clip 1235;clip 1234;clip 123;clip 7;clip 7;");
        check.due("bestPattern(0)", y.bestPattern(0), 41);
        check.due("bestPattern(1)", y.bestPattern(1), -1);
        check.due("bestPattern(3)", y.bestPattern(3), -1);
        check.due("bestPattern(4) of a twin", y.bestPattern(4), -1);
        // the faded do not count as others, but a faded clip has its pattern
        ClipHibernation z = Typed.made("archive;clip 12;clip 1;clip 12;feed 0 1;");
        check.due("bestPattern(0)", z.bestPattern(0), -1);
        z.passWeeks(10);
        check.due("fadedClips()", z.fadedClips(), 6);
        check.due("bestPattern(0) beside the faded", z.bestPattern(0), 1);
        check.due("bestPattern(1) of a faded clip", z.bestPattern(1), -1);
        z.paint(0, 0, 2);
        check.due("bestPattern(1) of a faded clip", z.bestPattern(1), 1);
        check.due("bestPattern(2) of a faded clip", z.bestPattern(2), 1);

        ClipHibernation one = Typed.made("archive;clip 98765432;");
        check.due("bestPattern(0) of one clip", one.bestPattern(0), 2);
        // four colours at most: what is its own only with five has no pattern
        ClipHibernation five = Typed.made("archive;clip 12345;clip 1234;clip 2345;clip 5;");
        check.due("bestPattern(0) with five colours", five.bestPattern(0), -1);
        ClipHibernation four = Typed.made("archive;clip 1234;clip 123;clip 234;");
        check.due("bestPattern(0) with four colours", four.bestPattern(0), 1234);
        ClipHibernation shorter = Typed.made("archive;clip 9211;clip 2;clip 1;clip 9;");
        check.due("bestPattern(0) of several lengths", shorter.bestPattern(0), 11);
    }
}
