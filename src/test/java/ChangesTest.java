/** Promises 5 to 15: the changes, each with its edges and wrong inputs. */
public final class ChangesTest {
    private static final Check check = new Check();
    private static final Class<IndexOutOfBoundsException> NO_SUCH = IndexOutOfBoundsException.class;
    private static final Class<IllegalArgumentException> BAD = IllegalArgumentException.class;
    private static final Class<IllegalStateException> REFUSED = IllegalStateException.class;
    private static final int LEAST = Integer.MIN_VALUE;
    private static final int GREATEST = Integer.MAX_VALUE;

    public static void main(String[] args) {
        addClip();
        addReel();
        addScene();
        sleep();
        wake();
        cut();
        air();
        feed();
        addFood();
        paint();
        passWeeks();
        weeksAndSprings();
        check.end();
    }

    private static void addClip() {
        ClipHibernation x = new ClipHibernation();
        for (int wrong : new int[] {0, -1, -5, LEAST, GREATEST, 10, 105, 12340, 100000000, 111111111, 99999990, 1111111111}) {
            check.refuses("addClip(" + wrong + ")", BAD, fresh -> fresh.addClip(wrong));
        }
        check.due("addClip(1)", x.addClip(1), 5);
        check.due("addClip(99999999)", x.addClip(99999999), 6);
        check.due("addClip(11111111)", x.addClip(11111111), 7);
        check.due("clipCount()", x.clipCount(), 8);
        check.due("colours(6)", x.colours(6), 99999999);
        check.due("colours(7)", x.colours(7), 11111111);
        check.due("fat(5)", x.fat(5), 40);
        check.due("state(5)", x.state(5), ClipHibernation.AWAKE);
        check.due("sceneOf(5)", x.sceneOf(5), -1);
        check.due("undoCount()", x.undoCount(), 3);
        for (int clip = 8; clip < 12; clip++) {
            check.due("addClip", x.addClip(clip - 5), clip);
        }
        check.refuses("addClip(1) as the 13th", REFUSED, x, () -> x.addClip(1));
        check.refuses("addClip(0) as the 13th", BAD, x, () -> x.addClip(0));
        check.due("clipCount()", x.clipCount(), 12);
    }

    private static void addReel() {
        ClipHibernation x = new ClipHibernation();
        for (int wrong : new int[] {0, -1, 10, LEAST, GREATEST}) {
            check.refuses("addReel(" + wrong + ")", BAD, fresh -> fresh.addReel(wrong));
        }
        check.due("addReel(9)", x.addReel(9), 2);
        check.due("addReel(1)", x.addReel(1), 3);
        check.due("bedCount(2)", x.bedCount(2), 9);
        check.due("bedCount(3)", x.bedCount(3), 1);
        for (int bed = 0; bed < 9; bed++) {
            check.due("bed(2, " + bed + ")", x.bed(2, bed), ClipHibernation.COLD);
        }
        check.refuses("addReel(1) as the fifth", REFUSED, x, () -> x.addReel(1));
        check.refuses("addReel(0) as the fifth", BAD, x, () -> x.addReel(0));
        check.due("undoCount()", x.undoCount(), 2);
        x.undo();
        x.undo();
        x.addReel(2);
        check.due("bed(2, 0) of the reel made anew", x.bed(2, 0), ClipHibernation.COLD);
    }

    private static void addScene() {
        ClipHibernation x = new ClipHibernation();
        for (int wrong : new int[] {0, -1, 10, LEAST, GREATEST}) {
            check.refuses("addScene(" + wrong + ")", BAD, fresh -> fresh.addScene(wrong));
        }
        check.due("addScene(9)", x.addScene(9), 2);
        check.due("addScene(1)", x.addScene(1), 3);
        check.due("addScene(4)", x.addScene(4), 4);
        check.due("springs(2)", x.springs(2), 9);
        check.due("springs(3)", x.springs(3), 1);
        check.due("springs(4)", x.springs(4), 4);
        check.refuses("addScene(1) as the sixth", REFUSED, x, () -> x.addScene(1));
        check.refuses("addScene(10) as the sixth", BAD, x, () -> x.addScene(10));
        check.due("undoCount()", x.undoCount(), 3);
    }

    private static void sleep() {
        ClipHibernation x = new ClipHibernation();
        for (int wrong : new int[] {-1, 5, LEAST, GREATEST}) {
            check.refuses("sleep(" + wrong + ", 0)", NO_SUCH, fresh -> fresh.sleep(wrong, 0));
        }
        for (int wrong : new int[] {-1, 2, LEAST, GREATEST}) {
            check.refuses("sleep(1, " + wrong + ")", NO_SUCH, fresh -> fresh.sleep(1, wrong));
            check.refuses("sleep(0, " + wrong + ") of a sleeper", NO_SUCH, fresh -> fresh.sleep(0, wrong));
        }
        check.refuses("sleep(0, 1) of a sleeper", REFUSED, x, () -> x.sleep(0, 1));
        // its home 603 % 5 = 3 is taken, so the bed behind it
        check.due("sleep(1, 1)", x.sleep(1, 1), 4);
        check.due("state(1)", x.state(1), ClipHibernation.ASLEEP);
        check.due("bed(1, 4)", x.bed(1, 4), 1);
        check.due("sceneOf(1)", x.sceneOf(1), 1);
        check.due("undoCount()", x.undoCount(), 1);
        // 9 % 5 = 4 is taken now, and bed 0 is behind it
        check.due("sleep(4, 1)", x.sleep(4, 1), 0);
        // a WARM bed is as good as a COLD one: reel 0 is WARM, COLD, clip 0
        x.wake(4);
        check.due("sleep(4, 0)", x.sleep(4, 0), 0);

        ClipHibernation y = Typed.made("archive;clip 1;clip 1;clip 1;reel 2;weeks 7;");
        check.due("fat(0)", y.fat(0), 12);
        y.sleep(0, 0);
        y.passWeeks(2);
        check.due("fat(0)", y.fat(0), 10);
        check.due("fat(1)", y.fat(1), 4);
        y.wake(0);
        check.due("sleep(0, 0) with fat 10", y.sleep(0, 0), 1);
        y.passWeeks(1);
        y.wake(0);
        check.due("fat(0)", y.fat(0), 9);
        check.refuses("sleep(0, 0) with fat 9", REFUSED, y, () -> y.sleep(0, 0));
        check.refuses("sleep(1, 0) of a faded clip", REFUSED, y, () -> y.sleep(1, 0));

        ClipHibernation z = Typed.made("archive;clip 1;clip 1;clip 1;reel 2;");
        check.due("sleep(0, 0)", z.sleep(0, 0), 1);
        check.due("sleep(1, 0)", z.sleep(1, 0), 0);
        check.refuses("sleep(2, 0) without a bed", REFUSED, z, () -> z.sleep(2, 0));
        z.wake(1);
        check.due("sleep(2, 0) in the WARM bed", z.sleep(2, 0), 0);
    }

    private static void wake() {
        ClipHibernation x = new ClipHibernation();
        for (int wrong : new int[] {-1, 5, LEAST, GREATEST}) {
            check.refuses("wake(" + wrong + ")", NO_SUCH, fresh -> fresh.wake(wrong));
        }
        check.refuses("wake(1) of a clip that is awake", REFUSED, x, () -> x.wake(1));
        check.due("wake(3)", x.wake(3), 1);
        check.due("state(3)", x.state(3), ClipHibernation.AWAKE);
        check.due("bed(1, 1)", x.bed(1, 1), ClipHibernation.WARM);
        check.due("sceneOf(3)", x.sceneOf(3), -1);
        check.due("wakings()", x.wakings(), 1);
        check.due("wake(0)", x.wake(0), 0);
        check.due("undoCount()", x.undoCount(), 2);
        check.refuses("wake(3) once more", REFUSED, x, () -> x.wake(3));
        x.sleep(1, 0);
        x.wake(1);
        check.due("sceneOf(1) after waking by hand", x.sceneOf(1), 1);
        x.passWeeks(50);
        check.refuses("wake(0) of a faded clip", REFUSED, x, () -> x.wake(0));
    }

    private static void cut() {
        ClipHibernation x = new ClipHibernation();
        for (int wrong : new int[] {-1, 2, LEAST, GREATEST}) {
            check.refuses("cut(" + wrong + ", 1)", NO_SUCH, fresh -> fresh.cut(wrong, 1));
            check.refuses("cut(" + wrong + ", 0)", NO_SUCH, fresh -> fresh.cut(wrong, 0));
        }
        for (int wrong : new int[] {0, -1, 10000, LEAST, GREATEST}) {
            check.refuses("cut(0, " + wrong + ")", BAD, fresh -> fresh.cut(0, wrong));
        }
        check.due("cut(1, 1) without a spring", x.cut(1, 1), 0);
        check.due("undoCount()", x.undoCount(), 1);
        check.due("cut(0, 9999)", x.cut(0, 9999), 0);
        check.due("springs(0)", x.springs(0), 2);
        check.due("cut(0, 20)", x.cut(0, 20), 1 << 0 | 1 << 3);
        check.due("springs(0)", x.springs(0), 0);
        check.due("sceneOf(0)", x.sceneOf(0), 0);
        check.due("sceneOf(3)", x.sceneOf(3), 0);
        check.due("wakings()", x.wakings(), 3);
        check.due("bed(0, 2)", x.bed(0, 2), ClipHibernation.WARM);
        check.due("bed(1, 1)", x.bed(1, 1), ClipHibernation.WARM);
        check.due("bed(1, 3)", x.bed(1, 3), 2);

        ClipHibernation y = Typed.made("archive;clip 3;clip 2;clip 1;clip 4;clip 5;reel 4;reel 1;scene 3;scene 2;"
                + "sleep 0 0;sleep 1 0;sleep 2 0;sleep 3 1;sleep 4 0;cut 1 3;");
        check.dueText("the beds", Look.at(y).substring(Look.at(y).indexOf("reel")),
                "reel 4 2 1 -2\nreel 3\nscene 3\nscene 1\n");
        // the springs end in the midst: clips by bed, not by number, and reel 0 before reel 1
        ClipHibernation z = Typed.made("archive;clip 14;clip 13;clip 12;clip 11;reel 1;reel 4;scene 3;sleep 0 1;"
                + "sleep 1 1;sleep 2 1;sleep 3 0;");
        // hashes 35, 34, 33, 32: beds 3, 2, 1 of reel 1, and clip 3 in reel 0
        check.due("cut(0, 1)", z.cut(0, 1), 1 << 3 | 1 << 2 | 1 << 1);
        check.due("springs(0)", z.springs(0), 0);
        check.due("state(0)", z.state(0), ClipHibernation.ASLEEP);
        check.due("cut(0, 1) again", z.cut(0, 1), 0);
        check.due("wakings()", z.wakings(), 3);
        z.passWeeks(1);
        check.due("cut(0, 4)", z.cut(0, 4), 1);
        check.due("sceneOf(0)", z.sceneOf(0), 0);

        // the latest scene that woke it counts
        ClipHibernation w = Typed.made("archive;clip 1;reel 1;scene 1;scene 1;sleep 0 0;cut 1 1;sleep 0 0;cut 0 1;");
        check.due("sceneOf(0)", w.sceneOf(0), 0);
        check.due("wakings()", w.wakings(), 2);
    }

    private static void air() {
        ClipHibernation x = new ClipHibernation();
        for (int wrong : new int[] {-1, 2, LEAST, GREATEST}) {
            check.refuses("air(" + wrong + ")", NO_SUCH, fresh -> fresh.air(wrong));
        }
        check.due("air(0)", x.air(0), 1);
        check.due("bed(0, 0)", x.bed(0, 0), ClipHibernation.COLD);
        check.due("bed(0, 2)", x.bed(0, 2), 0);
        check.due("air(0) again", x.air(0), 0);
        check.due("undoCount()", x.undoCount(), 2);

        // three clips with home 1 of 4; the first to come was clip 2
        ClipHibernation y = Typed.made("archive;clip 1;clip 5;clip 9;reel 4;sleep 2 0;sleep 1 0;sleep 0 0;");
        check.due("bedOf(2)", y.bedOf(2), 1);
        check.due("bedOf(1)", y.bedOf(1), 2);
        check.due("bedOf(0)", y.bedOf(0), 3);
        check.due("air(0)", y.air(0), 0);
        check.due("bedOf(0) by number", y.bedOf(0), 1);
        check.due("bedOf(1) by number", y.bedOf(1), 2);
        check.due("bedOf(2) by number", y.bedOf(2), 3);
        check.due("bed(0, 0)", y.bed(0, 0), ClipHibernation.COLD);
        y.wake(0);
        y.wake(1);
        check.due("air(0)", y.air(0), 2);
        check.due("bedOf(2)", y.bedOf(2), 1);
        check.due("state(2)", y.state(2), ClipHibernation.ASLEEP);

        // whatever their fat is
        ClipHibernation z = Typed.made("archive;clip 1;clip 1;reel 2;sleep 0 0;sleep 1 0;weeks 39;wake 0;");
        check.due("fat(1)", z.fat(1), 1);
        check.due("air(0)", z.air(0), 1);
        check.due("bedOf(1)", z.bedOf(1), 1);
        check.due("fat(1)", z.fat(1), 1);
        check.due("violations()", z.violations(), 0);
    }

    private static void feed() {
        ClipHibernation x = new ClipHibernation();
        for (int wrong : new int[] {-1, 5, LEAST, GREATEST}) {
            check.refuses("feed(" + wrong + ", 1)", NO_SUCH, fresh -> fresh.feed(wrong, 1));
            check.refuses("feed(" + wrong + ", 0)", NO_SUCH, fresh -> fresh.feed(wrong, 0));
        }
        for (int wrong : new int[] {0, -1, 51, LEAST, GREATEST}) {
            check.refuses("feed(1, " + wrong + ")", BAD, fresh -> fresh.feed(1, wrong));
            check.refuses("feed(0, " + wrong + ") of a sleeper", BAD, fresh -> fresh.feed(0, wrong));
        }
        check.refuses("feed(0, 1) of a sleeper", REFUSED, x, () -> x.feed(0, 1));
        check.refuses("feed(4, 48) to fat 100", REFUSED, x, () -> x.feed(4, 48));
        check.due("feed(4, 47) to fat 99", x.feed(4, 47), 99);
        check.due("food()", x.food(), 33);
        check.refuses("feed(4, 1) at fat 99", REFUSED, x, () -> x.feed(4, 1));
        check.refuses("feed(1, 34) of food 33", REFUSED, x, () -> x.feed(1, 34));
        check.due("feed(1, 33)", x.feed(1, 33), 71);
        check.due("food()", x.food(), 0);
        check.refuses("feed(1, 1) without food", REFUSED, x, () -> x.feed(1, 1));
        check.due("violations()", x.violations(), 0);
        x.addFood(100);
        check.due("feed(1, 1)", x.feed(1, 1), 72);
        check.due("undoCount()", x.undoCount(), 4);
        ClipHibernation y = Typed.made("archive;clip 1;weeks 10;");
        check.refuses("feed(0, 1) of a faded clip", REFUSED, y, () -> y.feed(0, 1));
        ClipHibernation z = new ClipHibernation();
        check.due("feed(1, 50)", z.feed(1, 50), 88);
    }

    private static void addFood() {
        ClipHibernation x = new ClipHibernation();
        for (int wrong : new int[] {0, -1, 1000, LEAST, GREATEST}) {
            check.refuses("addFood(" + wrong + ")", BAD, fresh -> fresh.addFood(wrong));
        }
        check.due("addFood(1)", x.addFood(1), 81);
        for (int times = 1; times <= 9; times++) {
            check.due("addFood(999)", x.addFood(999), 81 + 999 * times);
        }
        check.refuses("addFood(928)", REFUSED, x, () -> x.addFood(928));
        check.due("addFood(927)", x.addFood(927), 9999);
        check.refuses("addFood(1)", REFUSED, x, () -> x.addFood(1));
        check.refuses("addFood(1000)", BAD, x, () -> x.addFood(1000));
        check.due("food()", x.food(), 9999);
    }

    private static void paint() {
        ClipHibernation x = new ClipHibernation();
        for (int wrong : new int[] {-1, 5, LEAST, GREATEST}) {
            check.refuses("paint(" + wrong + ", 0, 1)", NO_SUCH, fresh -> fresh.paint(wrong, 0, 1));
        }
        for (int wrong : new int[] {-1, 4, 8, LEAST, GREATEST}) {
            check.refuses("paint(1, " + wrong + ", 1)", NO_SUCH, fresh -> fresh.paint(1, wrong, 1));
            check.refuses("paint(1, " + wrong + ", 0)", NO_SUCH, fresh -> fresh.paint(1, wrong, 0));
        }
        check.refuses("paint(4, 1, 1)", NO_SUCH, x, () -> x.paint(4, 1, 1));
        for (int wrong : new int[] {0, -1, 10, LEAST, GREATEST}) {
            check.refuses("paint(1, 0, " + wrong + ")", BAD, fresh -> fresh.paint(1, 0, wrong));
            check.refuses("paint(0, 0, " + wrong + ") of a sleeper", BAD, fresh -> fresh.paint(0, 0, wrong));
        }
        check.refuses("paint(0, 0, 1) of a sleeper", REFUSED, x, () -> x.paint(0, 0, 1));
        // 4214: 4, 126, 3907 % 997 = 916, 28400 % 997 = 484
        check.due("paint(1, 0, 4)", x.paint(1, 0, 4), 484);
        check.due("colours(1)", x.colours(1), 4214);
        check.due("hash(1)", x.hash(1), 484);
        check.due("paint(1, 3, 9)", x.paint(1, 3, 9), 489);
        check.due("colours(1)", x.colours(1), 4219);
        check.due("paint(4, 0, 1)", x.paint(4, 0, 1), 1);
        check.due("colours(4)", x.colours(4), 1);
        check.due("undoCount()", x.undoCount(), 3);
        check.due("sleep(1, 1) by the new hash", x.sleep(1, 1), 4);
        ClipHibernation y = Typed.made("archive;clip 1;weeks 10;");
        check.refuses("paint(0, 0, 1) of a faded clip", REFUSED, y, () -> y.paint(0, 0, 1));
    }

    private static void passWeeks() {
        ClipHibernation x = new ClipHibernation();
        for (int wrong : new int[] {0, -1, 51, LEAST, GREATEST}) {
            check.refuses("passWeeks(" + wrong + ")", BAD, fresh -> fresh.passWeeks(wrong));
        }
        // fats 38, 38 awake, 38, 38, 52 awake
        check.due("passWeeks(9)", x.passWeeks(9), 0);
        check.due("fat(0)", x.fat(0), 29);
        check.due("fat(1)", x.fat(1), 2);
        check.due("fat(4)", x.fat(4), 16);
        check.due("burnedFat()", x.burnedFat(), 16 + 27 + 72);
        check.due("passWeeks(1)", x.passWeeks(1), 1);
        check.due("fat(1)", x.fat(1), 0);
        check.due("state(1)", x.state(1), ClipHibernation.FADED);
        check.due("burnedFat()", x.burnedFat(), 115 + 3 + 2 + 4);
        check.due("passWeeks(4)", x.passWeeks(4), 1);
        check.due("week()", x.week(), 16);
        check.due("fat(0)", x.fat(0), 24);
        check.due("passWeeks(23)", x.passWeeks(23), 0);
        check.due("bedOf(0)", x.bedOf(0), 2);
        check.due("passWeeks(1)", x.passWeeks(1), 3);
        check.due("bed(0, 2)", x.bed(0, 2), ClipHibernation.WARM);
        check.due("bed(1, 1)", x.bed(1, 1), ClipHibernation.WARM);
        check.due("bed(1, 3)", x.bed(1, 3), ClipHibernation.WARM);
        check.due("fadedClips()", x.fadedClips(), 31);
        check.due("passWeeks(50)", x.passWeeks(50), 0);
        check.due("violations()", x.violations(), 0);

        ClipHibernation y = Typed.made("archive;repeat 19(weeks 50;);");
        check.due("week()", y.week(), 950);
        check.refuses("passWeeks(50)", REFUSED, y, () -> y.passWeeks(50));
        check.due("passWeeks(49)", y.passWeeks(49), 0);
        check.due("week()", y.week(), 999);
        check.refuses("passWeeks(1)", REFUSED, y, () -> y.passWeeks(1));
        check.refuses("passWeeks(51)", BAD, y, () -> y.passWeeks(51));

        // clips fade in different weeks of one call, and a fed one lives on
        ClipHibernation z = Typed.made("archive;clip 1;clip 2;clip 3;reel 3;feed 0 4;sleep 2 0;");
        check.due("passWeeks(10)", z.passWeeks(10), 1);
        check.due("fat(0)", z.fat(0), 4);
        z.undo();
        check.due("passWeeks(50)", z.passWeeks(50), 3);
        check.due("burnedFat()", z.burnedFat(), 124);
    }

    private static void weeksAndSprings() {
        ClipHibernation x = Typed.made("archive;clip 1;clip 1;clip 1;reel 3;scene 3;scene 1;"
                + "sleep 0 0;sleep 1 0;sleep 2 0;cut 0 1;");
        check.due("springs(0)", x.springs(0), 0);
        x.passWeeks(1);
        check.due("springs(0) after 1 week", x.springs(0), 1);
        check.due("springs(1) after 1 week", x.springs(1), 1);
        x.passWeeks(1);
        check.due("springs(0) after 2 weeks", x.springs(0), 2);
        x.passWeeks(2);
        check.due("springs(0) after 4 weeks", x.springs(0), 3);
    }
}
