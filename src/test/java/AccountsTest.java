/** Promises 56 to 61: burnedFat, wakings, fadedClips, meanFat, sleepShare and violations. */
public final class AccountsTest {
    private static final Check check = new Check();

    public static void main(String[] args) {
        ClipHibernation x = new ClipHibernation();
        due(x, 16, 1, 0, 204.0 / 5.0, 3.0f / 5.0f);
        x.cut(0, 20);
        due(x, 16, 3, 0, 204.0 / 5.0, 1.0f / 5.0f);
        x.sleep(0, 1);
        x.wake(0);
        due(x, 16, 3, 0, 204.0 / 5.0, 1.0f / 5.0f);
        x.passWeeks(10);
        due(x, 16 + 3 * 38 + 10 + 40, 3, 1 | 2 | 8, 40.0 / 2.0, 1.0f / 5.0f);
        x.passWeeks(3);
        due(x, 180 + 3 + 12, 3, 1 | 2 | 8 | 16, 25.0, 1.0f / 5.0f);
        x.passWeeks(25);
        due(x, 220, 3, 31, 0.0, 0.0f);
        x.passWeeks(25);
        due(x, 220, 3, 31, 0.0, 0.0f);
        x.addClip(5);
        due(x, 220, 3, 31, 40.0, 0.0f);
        x.undo();
        x.undo();
        x.undo();
        due(x, 195, 3, 1 | 2 | 8 | 16, 25.0, 1.0f / 5.0f);

        // a script starts the accounts anew
        Typed.run(x, "archive;");
        due(x, 0, 0, 0, 0.0, 0.0f);
        Typed.run(x, "archive;clip 1;clip 2;clip 3;reel 3;scene 1;sleep 0 0;sleep 1 0;feed 2 1;");
        due(x, 0, 0, 0, 121.0 / 3.0, 2.0f / 3.0f);
        x.cut(0, 1);
        x.sleep(0, 0);
        x.passWeeks(1);
        due(x, 6, 1, 0, 115.0 / 3.0, 2.0f / 3.0f);
        x.cut(0, 1);
        due(x, 6, 2, 0, 115.0 / 3.0, 1.0f / 3.0f);

        // a clip that is awake loses no more than it has
        ClipHibernation y = Typed.made("archive;clip 1;feed 0 1;weeks 10;");
        check.due("burnedFat()", y.burnedFat(), 40);
        check.due("passWeeks(1)", y.passWeeks(1), 1);
        check.due("burnedFat()", y.burnedFat(), 41);

        check.dueReal("sleepShare() of seven", Typed.made("archive;repeat 7(clip 1;);reel 1;sleep 0 0;").sleepShare(),
                1.0f / 7.0f);
        check.dueReal("sleepShare() of one", Typed.made("archive;clip 1;reel 1;sleep 0 0;").sleepShare(), 1.0f);
        check.dueReal("meanFat() of one", Typed.made("archive;clip 1;reel 1;sleep 0 0;weeks 1;").meanFat(), 39.0);
        check.end();
    }

    private static void due(ClipHibernation x, int burned, int wakings, int faded, double mean, float share) {
        check.due("burnedFat()", x.burnedFat(), burned);
        check.due("wakings()", x.wakings(), wakings);
        check.due("fadedClips()", x.fadedClips(), faded);
        check.dueReal("meanFat()", x.meanFat(), mean);
        check.dueReal("sleepShare()", x.sleepShare(), share);
        check.due("violations()", x.violations(), 0);
    }
}
