/** Promises 62 and 63: writeReel and reportByte. */
public final class ReportTest {
    private static final Check check = new Check();

    public static void main(String[] args) {
        ClipHibernation x = new ClipHibernation();
        for (int index : new int[] {0, -1, 1, Integer.MIN_VALUE, Integer.MAX_VALUE}) {
            check.due("reportByte(" + index + ") of nothing", x.reportByte(index), -1);
        }
        dueReport(x, 0, "~ - 123");
        dueReport(x, 1, "- 12345678 - 44 -");
        check.due("undoCount() after reports", x.undoCount(), 0);
        for (int index : new int[] {-1, 17, 80, 81, Integer.MIN_VALUE, Integer.MAX_VALUE}) {
            check.due("reportByte(" + index + ")", x.reportByte(index), -1);
        }
        for (int wrong : new int[] {-1, 2, Integer.MIN_VALUE, Integer.MAX_VALUE}) {
            check.refuses("writeReel(" + wrong + ")", IndexOutOfBoundsException.class, x, () -> x.writeReel(wrong));
            check.dueText("the report after it", Look.report(x), "- 12345678 - 44 -");
        }
        // a shorter report takes the place of a longer one
        dueReport(x, 0, "~ - 123");
        x.wake(0);
        x.passWeeks(1);
        check.dueText("the report after changes", Look.report(x), "~ - 123");
        dueReport(x, 0, "~ - ~");
        check.due("reportByte(1)", x.reportByte(1), 32);
        check.due("reportByte(2)", x.reportByte(2), 45);
        check.due("reportByte(4)", x.reportByte(4), 126);

        ClipHibernation full = Typed.made("archive;repeat 9(clip 12345678;);reel 9;reel 1;sleep 0 0;sleep 1 0;sleep 2 0;"
                + "sleep 3 0;sleep 4 0;sleep 5 0;sleep 6 0;sleep 7 0;sleep 8 0;");
        String clip = "12345678";
        dueReport(full, 0, String.join(" ", clip, clip, clip, clip, clip, clip, clip, clip, clip));
        check.due("reportByte(79)", full.reportByte(79), '8');
        check.due("reportByte(80)", full.reportByte(80), -1);
        dueReport(full, 1, "-");
        ClipHibernation painted = Typed.made("archive;clip 99;reel 1;paint 0 1 3;sleep 0 0;");
        dueReport(painted, 0, "93");
        check.end();
    }

    private static void dueReport(ClipHibernation x, int reel, String want) {
        check.due("writeReel(" + reel + ")", x.writeReel(reel), want.length());
        check.dueText("the report of reel " + reel, Look.report(x), want);
    }
}
