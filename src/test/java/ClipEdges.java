/** Promises 22 to 39: what is asked of the archive and of clips. */
final class ClipEdges {
    private static final String LAST_WEEK = "archive;repeat 19(weeks 50;);weeks 49;";

    private interface Asked {
        int of(ClipHibernation x, int number);
    }

    private ClipEdges() {
    }

    static void tell(Sentences s) {
        s.of(22, "Returns the week.", ClipEdges::weeks);
        s.of(23, "Returns the food.", ClipEdges::foods);
        s.of(24, "Returns the number of clips.", ClipEdges::clipCounts);
        s.of(25, "Returns the number of reels.", ClipEdges::reelCounts);
        s.of(26, "Returns the number of scenes.", ClipEdges::sceneCounts);
        s.noEdge(27, "Returns the springs of a scene.");
        s.of(27, "`scene`: the number of a scene", ClipEdges::springsOfEachScene);
        s.of(27, "Returns the number of springs.", ClipEdges::springs);
        s.of(27, "Throws `IndexOutOfBoundsException` if `scene` is not the number of a scene",
                check -> Wrong.scene(check, "springs", (x, number) -> x.springs(number)));
        s.noEdge(28, "Returns the state of a clip.");
        tellClip(s, 28, "state", (x, clip) -> x.state(clip), 1, 0, 0, 0);
        s.of(28, "Returns AWAKE, ASLEEP or FADED.", ClipEdges::states);
        s.noEdge(29, "Returns the colours of a clip.");
        tellClip(s, 29, "colours", (x, clip) -> x.colours(clip), 123, 9, 99999999, 99999999);
        s.of(29, "Returns the number whose digits are the colours.", ClipEdges::colours);
        s.noEdge(30, "Returns how many colours a clip has.");
        tellClip(s, 30, "length", (x, clip) -> x.length(clip), 3, 1, 8, 8);
        s.of(30, "Returns the number of colours.", ClipEdges::lengths);
        s.noEdge(31, "Returns the hash of a clip.");
        int nines = Made.hash("99999999");
        tellClip(s, 31, "hash", (x, clip) -> x.hash(clip), 29, 9, nines, nines);
        s.of(31, "Returns the hash.", ClipEdges::hashes);
        s.noEdge(32, "Returns the fat of a clip.");
        tellClip(s, 32, "fat", (x, clip) -> x.fat(clip), 38, 52, 40, 40);
        s.of(32, "Returns the fat.", ClipEdges::fats);
        tellPlaces(s);
        tellRuns(s);
    }

    private static void tellPlaces(Sentences s) {
        s.noEdge(33, "Returns the reel in which a clip sleeps.");
        tellClip(s, 33, "reelOf", (x, clip) -> x.reelOf(clip), 0, -1, -1, -1);
        s.of(33, "Returns the number of the reel, or NONE if it is not asleep.", ClipEdges::reelsOfClips);
        s.noEdge(34, "Returns the bed in which a clip sleeps.");
        tellClip(s, 34, "bedOf", (x, clip) -> x.bedOf(clip), 2, -1, -1, -1);
        s.of(34, "Returns the number of the bed, or NONE if it is not asleep.", ClipEdges::bedsOfClips);
        s.noEdge(35, "Returns the scene of a clip.");
        tellClip(s, 35, "sceneOf", (x, clip) -> x.sceneOf(clip), -1, -1, -1, -1);
        s.of(35, "Returns the number of the scene, or NONE if no cut has woken it.", ClipEdges::scenesOfClips);
        s.of(39, "Returns after how many weeks a clip is faded if only weeks pass.", ClipEdges::weeksToFade);
        tellClip(s, 39, "weeksToFade", (x, clip) -> x.weeksToFade(clip), 38, 13, 10, 10);
        s.of(39, "Returns the number of weeks, 0 if it is faded.", ClipEdges::weeksOfTheFaded);
    }

    private static void tellRuns(Sentences s) {
        s.noEdge(36, "Returns the length of the longest common run of two clips.");
        s.of(36, "`clip`: the number of a clip",
                check -> firstAndLast(check, "commonRun with 3", (x, clip) -> x.commonRun(clip, 3), 3, 0, 8, 8));
        s.of(36, "`other`: the number of a clip",
                check -> firstAndLast(check, "commonRun of 3", (x, clip) -> x.commonRun(3, clip), 3, 0, 8, 8));
        s.of(36, "Returns the greatest number of neighbouring colours that both clips have in the same order.",
                ClipEdges::commonRuns);
        s.of(36, "Throws `IndexOutOfBoundsException` if `clip` or `other` is not the number of a clip", check -> {
            Wrong.clip(check, "commonRun, first", (x, number) -> x.commonRun(number, 0));
            Wrong.clip(check, "commonRun, second", (x, number) -> x.commonRun(0, number));
            Wrong.clip(check, "commonRun, both", (x, number) -> x.commonRun(number, number));
        });
        s.of(37, "Returns the other clip with the longest common run.", ClipEdges::nearest);
        tellClip(s, 37, "nearestClip", (x, clip) -> x.nearestClip(clip), 3, 0, 1, 0);
        s.of(37, "Returns the number of the clip, of several the smallest one; NONE if there is no other clip.",
                ClipEdges::nearestOfSeveral);
        s.of(38, "Returns the other clips with the same hash.", ClipEdges::twins);
        tellClip(s, 38, "twinsOf", (x, clip) -> x.twinsOf(clip), 0, 0, 4094, 2047);
        s.of(38, "Returns the set of these clips.", ClipEdges::setsOfTwins);
    }

    /** The numbers from the first to the last clip are good, and those beside them are not. */
    private static void tellClip(Sentences s, int promise, String name, Asked asked, int first, int last, int firstOfTwelve,
            int lastOfTwelve) {
        s.of(promise, "`clip`: the number of a clip",
                check -> firstAndLast(check, name, asked, first, last, firstOfTwelve, lastOfTwelve));
        s.of(promise, "Throws `IndexOutOfBoundsException` if `clip` is not the number of a clip",
                check -> Wrong.clip(check, name, (x, number) -> asked.of(x, number)));
    }

    private static void firstAndLast(Check check, String name, Asked asked, int first, int last, int firstOfTwelve,
            int lastOfTwelve) {
        check.due(name + ": clip 0 of 5", asked.of(new ClipHibernation(), 0), first);
        check.due(name + ": clip 4 of 5", asked.of(new ClipHibernation(), 4), last);
        check.due(name + ": clip 0 of 12", asked.of(Made.full(), 0), firstOfTwelve);
        check.due(name + ": clip 11 of 12", asked.of(Made.full(), 11), lastOfTwelve);
    }

    // promises 22 to 27

    private static void weeks(Check check) {
        check.due("week() at first", Made.empty().week(), 0);
        check.due("week() of a new object", new ClipHibernation().week(), 2);
        ClipHibernation x = Typed.made(LAST_WEEK);
        check.due("week() at most", x.week(), 999);
        x.undo();
        check.due("week() undone", x.week(), 2);
    }

    private static void foods(Check check) {
        check.due("food() at first", Made.empty().food(), 100);
        check.due("food() at least", Typed.made("archive;clip 1;clip 1;feed 0 50;feed 1 50;").food(), 0);
        check.due("food() at most", Typed.made("archive;repeat 10(food 989;);food 9;").food(), 9999);
    }

    private static void clipCounts(Check check) {
        check.due("clipCount() of none", Made.empty().clipCount(), 0);
        check.due("clipCount() of all", Made.full().clipCount(), 12);
        check.due("clipCount() of the faded", Made.crowd(0, 1, "weeks 50;").clipCount(), 12);
    }

    private static void reelCounts(Check check) {
        check.due("reelCount() of none", Made.empty().reelCount(), 0);
        check.due("reelCount() of one", Made.crowd(0, 1, "").reelCount(), 1);
        check.due("reelCount() of all", Made.full().reelCount(), 4);
    }

    private static void sceneCounts(Check check) {
        check.due("sceneCount() of none", Made.empty().sceneCount(), 0);
        check.due("sceneCount() of one", Typed.made("archive;scene 9;").sceneCount(), 1);
        check.due("sceneCount() of all", Made.full().sceneCount(), 5);
    }

    private static void springsOfEachScene(Check check) {
        ClipHibernation x = Typed.made("archive;scene 1;scene 3;scene 5;scene 7;scene 9;");
        for (int scene = 0; scene < 5; scene++) {
            check.due("springs(" + scene + ")", x.springs(scene), 2 * scene + 1);
        }
        check.due("springs(0) of the only scene", Typed.made("archive;scene 4;").springs(0), 4);
    }

    private static void springs(Check check) {
        ClipHibernation x = Made.crowd(9, 9, "scene 9;");
        check.due("springs(0) at its limit", x.springs(0), 9);
        x.cut(0, 1);
        check.due("springs(0) used up", x.springs(0), 0);
        x.passWeeks(1);
        check.due("springs(0) a week later", x.springs(0), 1);
        x.passWeeks(8);
        check.due("springs(0) nine weeks later", x.springs(0), 9);
        x.passWeeks(1);
        check.due("springs(0) ten weeks later", x.springs(0), 9);
    }

    // promises 28 to 32

    private static void states(Check check) {
        ClipHibernation x = Made.crowd(1, 1, "feed 1 4;");
        check.due("state(0)", x.state(0), ClipHibernation.ASLEEP);
        check.due("state(1)", x.state(1), ClipHibernation.AWAKE);
        x.passWeeks(10);
        check.due("state(1) with fat 4", x.state(1), ClipHibernation.AWAKE);
        check.due("state(2) without fat", x.state(2), ClipHibernation.FADED);
        x.passWeeks(1);
        check.due("state(1) without fat", x.state(1), ClipHibernation.FADED);
        x.passWeeks(28);
        check.due("state(0) with fat 1", x.state(0), ClipHibernation.ASLEEP);
        x.passWeeks(1);
        check.due("state(0) without fat", x.state(0), ClipHibernation.FADED);
    }

    private static void colours(Check check) {
        ClipHibernation x = Typed.made("archive;clip 1;clip 9;clip 12345678;clip 99999999;clip 11111111;");
        int[] due = {1, 9, 12345678, 99999999, 11111111};
        for (int clip = 0; clip < due.length; clip++) {
            check.due("colours(" + clip + ")", x.colours(clip), due[clip]);
        }
        x.passWeeks(50);
        check.due("colours(2) of the faded", x.colours(2), 12345678);
    }

    private static void lengths(Check check) {
        ClipHibernation x = Made.empty();
        int colours = 0;
        for (int length = 1; length <= 8; length++) {
            colours = 10 * colours + 9;
            x.addClip(colours);
            check.due("length of " + colours, x.length(length - 1), length);
        }
        x.paint(7, 0, 1);
        check.due("length(7) after painting", x.length(7), 8);
    }

    private static void hashes(Check check) {
        ClipHibernation x = Typed.made("archive;clip 1;clip 9;clip 114;clip 115;clip 116;");
        int[] due = {1, 9, 996, 0, 1};
        for (int clip = 0; clip < due.length; clip++) {
            check.due("hash(" + clip + ")", x.hash(clip), due[clip]);
        }
    }

    private static void fats(Check check) {
        ClipHibernation x = Made.crowd(0, 1, "");
        check.due("fat(0) at first", x.fat(0), 40);
        x.feed(0, 50);
        x.feed(0, 9);
        check.due("fat(0) at most", x.fat(0), 99);
        x.passWeeks(10);
        check.due("fat(0)", x.fat(0), 59);
        check.due("fat(1) at least", x.fat(1), 0);
    }

    // promises 33 to 35 and 39

    private static void reelsOfClips(Check check) {
        ClipHibernation x = Made.full();
        for (int reel = 0; reel < 4; reel++) {
            check.due("reelOf(" + reel + ") awake", x.reelOf(reel), -1);
            x.sleep(reel, reel);
            check.due("reelOf(" + reel + ") asleep", x.reelOf(reel), reel);
        }
        x.wake(3);
        check.due("reelOf(3) woken", x.reelOf(3), -1);
        x.passWeeks(39);
        check.due("reelOf(0) with fat 1", x.reelOf(0), 0);
        x.passWeeks(1);
        check.due("reelOf(0) faded", x.reelOf(0), -1);
    }

    private static void bedsOfClips(Check check) {
        ClipHibernation x = Made.crowd(9, 9, "");
        for (int clip = 0; clip < 9; clip++) {
            check.due("bedOf(" + clip + ")", x.bedOf(clip), (clip + 1) % 9);
        }
        check.due("bedOf(9) awake", x.bedOf(9), -1);
        x.wake(8);
        check.due("bedOf(8) woken", x.bedOf(8), -1);
        x.passWeeks(39);
        check.due("bedOf(7) with fat 1", x.bedOf(7), 8);
        x.passWeeks(1);
        check.due("bedOf(7) faded", x.bedOf(7), -1);
    }

    private static void scenesOfClips(Check check) {
        ClipHibernation x = Made.crowd(2, 2, "repeat 5(scene 1;);");
        check.due("sceneOf(0) before a cut", x.sceneOf(0), -1);
        x.cut(4, 1);
        check.due("sceneOf(1) that was woken", x.sceneOf(1), 4);
        check.due("sceneOf(0) without a spring", x.sceneOf(0), -1);
        x.wake(0);
        check.due("sceneOf(0) woken without a cut", x.sceneOf(0), -1);
        x.sleep(0, 0);
        x.cut(0, 1);
        check.due("sceneOf(0) woken by scene 0", x.sceneOf(0), 0);
        x.passWeeks(50);
        check.due("sceneOf(1) faded", x.sceneOf(1), 4);
    }

    private static void weeksToFade(Check check) {
        ClipHibernation x = Typed.made("archive;clip 1;reel 1;food 99;feed 0 50;feed 0 9;");
        check.due("weeksToFade(0) awake with fat 99", x.weeksToFade(0), 25);
        x.sleep(0, 0);
        check.due("weeksToFade(0) asleep with fat 99", x.weeksToFade(0), 99);
        for (int fat = 98; fat >= 1; fat--) {
            x.passWeeks(1);
            check.due("weeksToFade(0) asleep with fat " + fat, x.weeksToFade(0), fat);
            x.wake(0);
            check.due("weeksToFade(0) awake with fat " + fat, x.weeksToFade(0), (fat + 3) / 4);
            x.undo();
        }
        check.due("weeksToFade(0) of 12 in the last week", Typed.made(LAST_WEEK + "clip 1;").weeksToFade(0), 10);
    }

    private static void weeksOfTheFaded(Check check) {
        ClipHibernation x = Made.crowd(1, 1, "weeks 9;");
        check.due("weeksToFade(1) with fat 4", x.weeksToFade(1), 1);
        x.passWeeks(1);
        check.due("weeksToFade(1) faded", x.weeksToFade(1), 0);
        x.passWeeks(29);
        check.due("weeksToFade(0) with fat 1", x.weeksToFade(0), 1);
        x.passWeeks(1);
        check.due("weeksToFade(0) faded", x.weeksToFade(0), 0);
    }

    // promises 36 to 38

    private static void commonRuns(Check check) {
        due(check, "1", "2", 0);
        due(check, "1", "1", 1);
        due(check, "12345678", "12345678", 8);
        due(check, "99999999", "9", 1);
        due(check, "12345678", "8", 1);
        due(check, "12345678", "1", 1);
        due(check, "12345678", "678", 3);
        due(check, "12345678", "91234", 4);
        due(check, "12345678", "2345679", 6);
        due(check, "12", "21", 1);
        due(check, "81", "12345678", 1);
        due(check, "1212", "2121", 3);
        due(check, "13", "123", 1);
        due(check, "12912349", "81234812", 4);
        ClipHibernation x = Typed.made("archive;clip 12345678;");
        check.due("commonRun(0, 0) with itself", x.commonRun(0, 0), 8);
    }

    private static void due(Check check, String colours, String others, int run) {
        ClipHibernation x = Typed.made("archive;clip " + colours + ";clip " + others + ";");
        check.due("commonRun of " + colours + " and " + others, x.commonRun(0, 1), run);
        check.due("commonRun of " + others + " and " + colours, x.commonRun(1, 0), run);
    }

    private static void nearest(Check check) {
        ClipHibernation x = Typed.made("archive;clip 1234;clip 9;clip 12;clip 123;clip 1235;clip 4;");
        check.due("nearestClip(0), not itself", x.nearestClip(0), 3);
        check.due("nearestClip(2)", x.nearestClip(2), 0);
        check.due("nearestClip(5)", x.nearestClip(5), 0);
        check.due("nearestClip(1) without a common run", x.nearestClip(1), 0);
        ClipHibernation last = Typed.made("archive;repeat 11(clip 12;);clip 9;paint 10 0 9;");
        check.due("nearestClip(11)", last.nearestClip(11), 10);
    }

    private static void nearestOfSeveral(Check check) {
        check.due("nearestClip(0) of one", Typed.made("archive;clip 1;").nearestClip(0), -1);
        ClipHibernation two = Typed.made("archive;clip 1;clip 2;");
        check.due("nearestClip(0) of two", two.nearestClip(0), 1);
        check.due("nearestClip(1) of two", two.nearestClip(1), 0);
        ClipHibernation x = Typed.made("archive;clip 5;clip 12;clip 12;clip 125;");
        check.due("nearestClip(3) of two as near", x.nearestClip(3), 1);
        check.due("nearestClip(1) of two as near", x.nearestClip(1), 2);
        check.due("nearestClip(0) alone with one", x.nearestClip(0), 3);
        ClipHibernation faded = Typed.made("archive;clip 1;clip 1;weeks 50;");
        check.due("nearestClip(0) of the faded", faded.nearestClip(0), 1);
    }

    private static void twins(Check check) {
        ClipHibernation x = Typed.made("archive;clip 1;clip 116;clip 114;clip 115;clip 1;");
        check.due("twinsOf(0) of hash 1", x.twinsOf(0), 2 + 16);
        check.due("twinsOf(1) of hash 1", x.twinsOf(1), 1 + 16);
        check.due("twinsOf(2) of hash 996", x.twinsOf(2), 0);
        check.due("twinsOf(3) of hash 0", x.twinsOf(3), 0);
    }

    private static void setsOfTwins(Check check) {
        ClipHibernation x = Made.full();
        for (int clip = 0; clip < 12; clip++) {
            check.due("twinsOf(" + clip + ") of twelve", x.twinsOf(clip), 4095 - (1 << clip));
        }
        check.due("twinsOf(0) of one", Typed.made("archive;clip 1;").twinsOf(0), 0);
        ClipHibernation ends = Typed.made("archive;clip 7;repeat 10(clip 8;);clip 7;");
        check.due("twinsOf(0)", ends.twinsOf(0), 2048);
        check.due("twinsOf(11)", ends.twinsOf(11), 1);
    }
}
