/** Promises 51 to 55 on patterns and 56 to 61 on the accounts. */
final class CutEdges {
    private CutEdges() {
    }

    static void tell(Sentences s) {
        s.of(51, "Tells whether a pattern matches a clip.", CutEdges::longPatterns);
        s.of(51, "`clip`: the number of a clip", CutEdges::matchesOfEachClip);
        s.of(51, "`pattern`: a pattern", CutEdges::firstAndLastPattern);
        s.of(51, "Returns whether it does.", CutEdges::matches);
        tellWrong(s, 51, "matches", (x, number) -> x.matches(number, 20), (x, number) -> x.matches(0, number));
        s.of(52, "Returns the sleeping clips that a pattern matches.", CutEdges::onlySleepers);
        s.of(52, "`pattern`: a pattern", CutEdges::patternsOfSleepers);
        s.of(52, "Returns the set of these clips.", CutEdges::setsOfSleepers);
        s.of(52, "Throws `IllegalArgumentException` if `pattern` is no pattern",
                check -> Wrong.pattern(check, "matchingSleepers", (x, number) -> x.matchingSleepers(number)));
        s.of(53, "Returns the clips that would wake by a cut.", CutEdges::wokenBy);
        s.of(53, "`scene`: the number of a scene", CutEdges::wokenByEachScene);
        s.of(53, "`pattern`: a pattern", CutEdges::wokenByPatterns);
        s.of(53, "Returns the set of these clips.", CutEdges::setsOfTheWoken);
        s.of(53, "Throws `IndexOutOfBoundsException` if `scene` is not the number of a scene",
                check -> Wrong.scene(check, "wokenBy", (x, number) -> x.wokenBy(number, 20)));
        s.of(53, "Throws `IllegalArgumentException` if `pattern` is no pattern",
                check -> Wrong.pattern(check, "wokenBy", (x, number) -> x.wokenBy(0, number)));
        s.of(54, "Returns where a pattern matches a clip first.", CutEdges::firstOfSeveral);
        s.of(54, "`clip`: the number of a clip", CutEdges::firstMatchOfEachClip);
        s.of(54, "`pattern`: a pattern", CutEdges::firstMatchOfPatterns);
        s.of(54, "Returns the smallest index of a colour from which on the colours match, or NONE if it does not match.",
                CutEdges::firstMatch);
        tellWrong(s, 54, "firstMatch", (x, number) -> x.firstMatch(number, 20), (x, number) -> x.firstMatch(0, number));
        s.of(55, "Returns the smallest pattern without the digit 0 that matches a clip and no other clip that is not faded.",
                CutEdges::smallestPattern);
        s.of(55, "`clip`: the number of a clip", CutEdges::bestPatternOfEachClip);
        s.of(55, "Returns the pattern, or NONE if there is none.", CutEdges::noPattern);
        s.of(55, "Throws `IndexOutOfBoundsException` if `clip` is not the number of a clip",
                check -> Wrong.clip(check, "bestPattern", (x, number) -> x.bestPattern(number)));
        tellAccounts(s);
    }

    private static void tellWrong(Sentences s, int promise, String name, Wrong.Call ofClip, Wrong.Call ofPattern) {
        s.of(promise, "Throws `IndexOutOfBoundsException` if `clip` is not the number of a clip",
                check -> Wrong.clip(check, name, ofClip));
        s.of(promise, "Throws `IllegalArgumentException` if `pattern` is no pattern",
                check -> Wrong.pattern(check, name, ofPattern));
    }

    private static void tellAccounts(Sentences s) {
        s.of(56, "Returns the fat that clips have lost in weeks.", CutEdges::burnedFat);
        s.of(57, "Returns the number of times that clips woke by cuts.", CutEdges::wakings);
        s.of(58, "Returns the set of the faded clips.", CutEdges::fadedClips);
        s.of(59, "Returns the sum of the fat of all clips that are not faded divided by their number, both converted to double;",
                CutEdges::meanFat);
        s.of(59, "0.0 if there are none.", CutEdges::meanFatOfNobody);
        s.of(60, "Returns the number of sleeping clips divided by the number of clips, both converted to float;",
                CutEdges::sleepShare);
        s.of(60, "0.0f without clips.", CutEdges::sleepShareOfNobody);
        s.of(61, "Returns the number of violations: sleeping clips that do not lie in exactly one bed or are not found when "
                + "they are looked for;", CutEdges::sleepersAreFound);
        s.of(61, "beds with clips that are not asleep;", CutEdges::onlySleepersInBeds);
        s.of(61, "and the difference, without its sign, of 40 for each clip plus all that was fed and the fat of all clips plus "
                + "burnedFat(); it is always 0.", CutEdges::accountsOfFat);
    }

    // promises 51 to 53

    private static ClipHibernation twoClips() {
        return Typed.made("archive;clip 1;clip 12345678;");
    }

    private static void longPatterns(Check check) {
        ClipHibernation x = Typed.made("archive;clip 123;clip 1234;clip 12345;");
        boolean[] due = {false, true, true};
        for (int clip = 0; clip < 3; clip++) {
            check.due("matches(" + clip + ", 1234)", x.matches(clip, 1234) ? 1 : 0, due[clip] ? 1 : 0);
            check.due("matches(" + clip + ", 1000)", x.matches(clip, 1000) ? 1 : 0, due[clip] ? 1 : 0);
            check.due("matches(" + clip + ", 123)", x.matches(clip, 123) ? 1 : 0, 1);
        }
    }

    private static void matchesOfEachClip(Check check) {
        ClipHibernation x = Made.full();
        check.due("matches(0, 9)", x.matches(0, 9) ? 1 : 0, 1);
        check.due("matches(11, 9)", x.matches(11, 9) ? 1 : 0, 1);
        check.due("matches(11, 1)", x.matches(11, 1) ? 1 : 0, 0);
        check.due("matches(4, 9)", new ClipHibernation().matches(4, 9) ? 1 : 0, 1);
    }

    private static void firstAndLastPattern(Check check) {
        ClipHibernation x = Typed.made("archive;clip 1;clip 9999;clip 9998;");
        check.due("matches(0, 1)", x.matches(0, 1) ? 1 : 0, 1);
        check.due("matches(1, 1)", x.matches(1, 1) ? 1 : 0, 0);
        check.due("matches(1, 9999)", x.matches(1, 9999) ? 1 : 0, 1);
        check.due("matches(2, 9999)", x.matches(2, 9999) ? 1 : 0, 0);
        check.due("matches(0, 9999)", x.matches(0, 9999) ? 1 : 0, 0);
    }

    private static void matches(Check check) {
        ClipHibernation x = twoClips();
        int[] good = {1, 8, 12, 78, 1234, 5678, 1000, 5000, 10, 70, 100, 600, 1004, 5008};
        int[] bad = {9, 13, 21, 81, 80, 6000, 700, 6780, 1235, 1005, 5009, 9999};
        for (int pattern : good) {
            check.due("matches(1, " + pattern + ")", x.matches(1, pattern) ? 1 : 0, 1);
        }
        for (int pattern : bad) {
            check.due("matches(1, " + pattern + ")", x.matches(1, pattern) ? 1 : 0, 0);
        }
        check.due("matches(0, 10) of one colour", x.matches(0, 10) ? 1 : 0, 0);
        x.passWeeks(50);
        check.due("matches(1, 5678) of the faded", x.matches(1, 5678) ? 1 : 0, 1);
    }

    private static void onlySleepers(Check check) {
        ClipHibernation x = Made.crowd(2, 2, "weeks 9;");
        check.due("matchingSleepers(1) of the awake and the asleep", x.matchingSleepers(1), 3);
        x.wake(0);
        check.due("matchingSleepers(1) of the one asleep", x.matchingSleepers(1), 2);
        x.passWeeks(31);
        check.due("matchingSleepers(1) of the faded", x.matchingSleepers(1), 0);
    }

    private static void patternsOfSleepers(Check check) {
        ClipHibernation x = Typed.made("archive;clip 1;clip 9999;reel 2;sleep 0 0;sleep 1 0;");
        check.due("matchingSleepers(1)", x.matchingSleepers(1), 1);
        check.due("matchingSleepers(9999)", x.matchingSleepers(9999), 2);
        check.due("matchingSleepers(9000)", x.matchingSleepers(9000), 2);
    }

    private static void setsOfSleepers(Check check) {
        ClipHibernation x = Made.full();
        check.due("matchingSleepers(9) of nobody", x.matchingSleepers(9), 0);
        x.sleep(11, 3);
        check.due("matchingSleepers(9) of clip 11", x.matchingSleepers(9), 2048);
        for (int clip = 0; clip < 11; clip++) {
            x.sleep(clip, clip % 3);
        }
        check.due("matchingSleepers(9) of all", x.matchingSleepers(9), 4095);
        check.due("matchingSleepers(1) of nobody", x.matchingSleepers(1), 0);
        check.due("matchingSleepers(1) without clips", Made.empty().matchingSleepers(1), 0);
    }

    private static void wokenBy(Check check) {
        for (int limit = 1; limit <= 9; limit++) {
            ClipHibernation x = Made.crowd(4, 4, "scene " + limit + ";");
            int woken = x.wokenBy(0, 1);
            check.due("wokenBy(0, 1) with limit " + limit, Integer.bitCount(woken), Math.min(limit, 4));
            check.due("cut(0, 1) with limit " + limit, x.cut(0, 1), woken);
        }
        ClipHibernation x = Made.crowd(2, 2, "scene 1;cut 0 1;");
        check.due("wokenBy(0, 1) without a spring", x.wokenBy(0, 1), 0);
        x.passWeeks(1);
        check.due("wokenBy(0, 1) with a spring", x.wokenBy(0, 1), 1);
        Twins.changesNothing(check, "wokenBy(0, 20)", Made::rich, y -> y.wokenBy(0, 20));
    }

    private static void wokenByEachScene(Check check) {
        ClipHibernation x = Made.full();
        x.sleep(11, 0);
        check.due("wokenBy(0, 9)", x.wokenBy(0, 9), 2048);
        check.due("wokenBy(4, 9)", x.wokenBy(4, 9), 2048);
        check.due("wokenBy(1, 20) of the last scene of two", new ClipHibernation().wokenBy(1, 20), 0);
    }

    private static void wokenByPatterns(Check check) {
        ClipHibernation x = Typed.made("archive;clip 1;clip 9999;reel 2;scene 9;sleep 0 0;sleep 1 0;");
        check.due("wokenBy(0, 1)", x.wokenBy(0, 1), 1);
        check.due("wokenBy(0, 9999)", x.wokenBy(0, 9999), 2);
    }

    private static void setsOfTheWoken(Check check) {
        ClipHibernation x = Made.full();
        check.due("wokenBy(0, 9) of nobody", x.wokenBy(0, 9), 0);
        for (int clip = 0; clip < 9; clip++) {
            x.sleep(clip, 3);
        }
        x.sleep(11, 2);
        check.due("wokenBy(0, 9) of nine of ten", x.wokenBy(0, 9) >> 11, 1);
        check.due("wokenBy(0, 9) of nine of ten", Integer.bitCount(x.wokenBy(0, 9)), 9);
        check.due("wokenBy(0, 1) of nobody", x.wokenBy(0, 1), 0);
    }

    // promises 54 and 55

    private static void firstOfSeveral(Check check) {
        ClipHibernation x = Typed.made("archive;clip 91919191;");
        check.due("firstMatch(0, 9)", x.firstMatch(0, 9), 0);
        check.due("firstMatch(0, 1)", x.firstMatch(0, 1), 1);
        check.due("firstMatch(0, 1919)", x.firstMatch(0, 1919), 1);
        check.due("firstMatch(0, 9000)", x.firstMatch(0, 9000), 0);
        check.due("firstMatch(0, 1000)", x.firstMatch(0, 1000), 1);
    }

    private static void firstMatchOfEachClip(Check check) {
        check.due("firstMatch(0, 3)", new ClipHibernation().firstMatch(0, 3), 2);
        check.due("firstMatch(4, 9)", new ClipHibernation().firstMatch(4, 9), 0);
        check.due("firstMatch(11, 9999)", Made.full().firstMatch(11, 9999), 0);
    }

    private static void firstMatchOfPatterns(Check check) {
        ClipHibernation x = Typed.made("archive;clip 1;clip 19999;");
        check.due("firstMatch(0, 1)", x.firstMatch(0, 1), 0);
        check.due("firstMatch(1, 1)", x.firstMatch(1, 1), 0);
        check.due("firstMatch(1, 9999)", x.firstMatch(1, 9999), 1);
        check.due("firstMatch(0, 9999)", x.firstMatch(0, 9999), -1);
    }

    private static void firstMatch(Check check) {
        ClipHibernation x = twoClips();
        check.due("firstMatch(1, 8) at the last colour", x.firstMatch(1, 8), 7);
        check.due("firstMatch(1, 80) over the end", x.firstMatch(1, 80), -1);
        check.due("firstMatch(1, 5678) at the end", x.firstMatch(1, 5678), 4);
        check.due("firstMatch(1, 5000) at the end", x.firstMatch(1, 5000), 4);
        check.due("firstMatch(1, 6000) over the end", x.firstMatch(1, 6000), -1);
        check.due("firstMatch(1, 1234) at the start", x.firstMatch(1, 1234), 0);
        check.due("firstMatch(1, 81) round the end", x.firstMatch(1, 81), -1);
        check.due("firstMatch(1, 9) of no colour", x.firstMatch(1, 9), -1);
        check.due("firstMatch(0, 1) of one colour", x.firstMatch(0, 1), 0);
        check.due("firstMatch(0, 10) of one colour", x.firstMatch(0, 10), -1);
        check.due("firstMatch(0, 1000) of one colour", x.firstMatch(0, 1000), -1);
    }

    private static void dueBest(Check check, String others, String colours, int want) {
        StringBuilder script = new StringBuilder("archive;clip ").append(colours).append(';');
        for (String other : others.isEmpty() ? new String[0] : others.split(" ")) {
            script.append("clip ").append(other).append(';');
        }
        check.due("bestPattern of " + colours + " beside " + others, Typed.made(script.toString()).bestPattern(0), want);
    }

    private static void smallestPattern(Check check) {
        dueBest(check, "", "1", 1);
        dueBest(check, "", "9", 9);
        dueBest(check, "", "99999999", 9);
        dueBest(check, "", "87654321", 1);
        dueBest(check, "1 2", "4321", 3);
        dueBest(check, "1 2 3 4", "4321", 21);
        dueBest(check, "1 2 9", "9211", 11);
        dueBest(check, "9 99", "9999", 999);
        dueBest(check, "999 99 9", "99999999", 9999);
        dueBest(check, "123 234", "1234", 1234);
        dueBest(check, "2345678 1234", "12345678", -1);
        // a faded clip is no other clip, and has patterns of its own
        ClipHibernation x = Typed.made("archive;clip 12;clip 12;feed 0 1;weeks 9;");
        check.due("bestPattern(0) beside a thin one", x.bestPattern(0), -1);
        x.passWeeks(1);
        check.due("bestPattern(0) beside a faded one", x.bestPattern(0), 1);
        check.due("bestPattern(1) of a faded one", x.bestPattern(1), -1);
        x.passWeeks(1);
        check.due("bestPattern(1) of the faded alone", x.bestPattern(1), 1);
    }

    private static void bestPatternOfEachClip(Check check) {
        check.due("bestPattern(4) of 5", new ClipHibernation().bestPattern(4), 9);
        check.due("bestPattern(0) of 5", new ClipHibernation().bestPattern(0), -1);
        ClipHibernation x = Made.full();
        x.paint(11, 7, 1);
        check.due("bestPattern(11) of 12", x.bestPattern(11), 1);
        x.paint(0, 7, 2);
        check.due("bestPattern(0) of 12", x.bestPattern(0), 2);
    }

    private static void noPattern(Check check) {
        dueBest(check, "1", "1", -1);
        dueBest(check, "12", "1", -1);
        dueBest(check, "9999", "99999999", -1);
        dueBest(check, "1234 2345", "12345", -1);
        dueBest(check, "1234 2346", "12345", 5);
        dueBest(check, "12345678", "12345678", -1);
        check.due("bestPattern(11) of twelve alike", Made.full().bestPattern(11), -1);
    }

    // promises 56 to 61

    private static void burnedFat(Check check) {
        check.due("burnedFat() at first", Made.empty().burnedFat(), 0);
        check.due("burnedFat() of a new object", new ClipHibernation().burnedFat(), 16);
        check.due("burnedFat() of one awake", Typed.made("archive;clip 1;weeks 1;").burnedFat(), 4);
        check.due("burnedFat() of one asleep", Typed.made("archive;clip 1;reel 1;sleep 0 0;weeks 1;").burnedFat(), 1);
        check.due("burnedFat() of fat 1 left", Typed.made("archive;clip 1;feed 0 1;weeks 10;").burnedFat(), 40);
        check.due("burnedFat() of no fat left", Typed.made("archive;clip 1;feed 0 1;weeks 11;").burnedFat(), 41);
        check.due("burnedFat() of the faded", Typed.made("archive;clip 1;feed 0 1;weeks 50;").burnedFat(), 41);
        check.due("burnedFat() of twelve", Made.crowd(9, 9, "weeks 50;").burnedFat(), 480);
        check.due("burnedFat() of the fed", Typed.made("archive;clip 1;feed 0 50;").burnedFat(), 0);
    }

    private static void wakings(Check check) {
        check.due("wakings() at first", Made.empty().wakings(), 0);
        ClipHibernation x = Made.crowd(9, 9, "scene 8;");
        x.cut(0, 2);
        check.due("wakings() of a cut that wakes nobody", x.wakings(), 0);
        x.cut(0, 1);
        check.due("wakings() of a cut that wakes eight", x.wakings(), 8);
        x.wake(7);
        check.due("wakings() after wake", x.wakings(), 8);
        x.cut(0, 1);
        check.due("wakings() of a cut without springs", x.wakings(), 8);
        x.sleep(0, 0);
        x.passWeeks(1);
        x.cut(0, 1);
        check.due("wakings() of a clip woken again", x.wakings(), 9);
        x.undo();
        check.due("wakings() undone", x.wakings(), 8);
    }

    private static void fadedClips(Check check) {
        check.due("fadedClips() without clips", Made.empty().fadedClips(), 0);
        ClipHibernation x = Made.crowd(1, 1, "feed 11 1;weeks 9;");
        check.due("fadedClips() with fat 4", x.fadedClips(), 0);
        x.passWeeks(1);
        check.due("fadedClips() but the first and the last", x.fadedClips(), 4095 - 1 - 2048);
        x.passWeeks(1);
        check.due("fadedClips() but the first", x.fadedClips(), 4094);
        x.passWeeks(28);
        check.due("fadedClips() but the first with fat 1", x.fadedClips(), 4094);
        x.passWeeks(1);
        check.due("fadedClips() of all", x.fadedClips(), 4095);
    }

    private static void meanFat(Check check) {
        check.dueReal("meanFat() of one", Typed.made("archive;clip 1;").meanFat(), 40.0);
        check.dueReal("meanFat() of fat 1", Typed.made("archive;clip 1;feed 0 1;weeks 10;").meanFat(), 1.0);
        check.dueReal("meanFat() of three", Typed.made("archive;clip 1;clip 1;clip 1;feed 0 1;").meanFat(), 121.0 / 3.0);
        check.dueReal("meanFat() of a new object", new ClipHibernation().meanFat(), 204.0 / 5.0);
        check.dueReal("meanFat() of one beside eleven faded", Made.crowd(1, 1, "weeks 10;").meanFat(), 30.0);
        check.dueReal("meanFat() of two beside ten faded", Made.crowd(1, 1, "feed 1 1;weeks 10;").meanFat(), 31.0 / 2.0);
    }

    private static void meanFatOfNobody(Check check) {
        check.dueReal("meanFat() without clips", Made.empty().meanFat(), 0.0);
        check.dueReal("meanFat() of the faded", Made.crowd(1, 1, "weeks 40;").meanFat(), 0.0);
        check.dueReal("meanFat() of all but the last faded", Made.crowd(1, 1, "weeks 39;").meanFat(), 1.0);
    }

    private static void sleepShare(Check check) {
        check.dueReal("sleepShare() of the awake", Made.full().sleepShare(), 0.0f);
        check.dueReal("sleepShare() of nine of twelve", Made.crowd(9, 9, "").sleepShare(), 9.0f / 12.0f);
        check.dueReal("sleepShare() of one of twelve", Made.crowd(1, 1, "").sleepShare(), 1.0f / 12.0f);
        check.dueReal("sleepShare() of one of one", Typed.made("archive;clip 1;reel 1;sleep 0 0;").sleepShare(), 1.0f);
        check.dueReal("sleepShare() beside the faded", Made.crowd(1, 1, "weeks 10;").sleepShare(), 1.0f / 12.0f);
        check.dueReal("sleepShare() of the faded", Made.crowd(1, 1, "weeks 40;").sleepShare(), 0.0f);
    }

    private static void sleepShareOfNobody(Check check) {
        check.dueReal("sleepShare() without clips", Made.empty().sleepShare(), 0.0f);
        check.dueReal("sleepShare() of a reel without clips", Typed.made("archive;reel 9;").sleepShare(), 0.0f);
    }

    /** In full reels, in reels that were full, over the end and aired. */
    private static void sleepersAreFound(Check check) {
        for (int beds = 1; beds <= 9; beds++) {
            ClipHibernation x = Made.crowd(beds, beds, "");
            check.due("violations() with " + beds + " full beds", x.violations(), 0);
            x.wake(0);
            check.due("violations() with the home WARM", x.violations(), 0);
            x.air(0);
            check.due("violations() aired", x.violations(), 0);
            for (int clip = 1; clip < beds; clip++) {
                check.due("bed of clip " + clip, x.bed(0, x.bedOf(clip)), clip);
            }
        }
        check.due("violations() without clips", Made.empty().violations(), 0);
    }

    private static void onlySleepersInBeds(Check check) {
        ClipHibernation x = Made.crowd(9, 9, "scene 3;");
        x.cut(0, 1);
        check.due("violations() after a cut", x.violations(), 0);
        x.wake(7);
        check.due("violations() after wake", x.violations(), 0);
        x.passWeeks(40);
        check.due("violations() after fading", x.violations(), 0);
        check.due("sleepers(0)", x.sleepers(0), 0);
    }

    private static void accountsOfFat(Check check) {
        ClipHibernation x = Made.crowd(2, 2, "food 900;feed 2 50;feed 2 9;feed 3 1;feed 4 2;feed 5 3;");
        check.due("violations() fed", x.violations(), 0);
        for (int weeks = 1; weeks <= 41; weeks++) {
            x.passWeeks(1);
            check.due("violations() after " + weeks + " weeks", x.violations(), 0);
        }
        check.due("burnedFat()", x.burnedFat(), 480 + 59 + 6);
        x.undo();
        check.due("violations() undone", x.violations(), 0);
        check.due("violations() of a new object", new ClipHibernation().violations(), 0);
        check.due("violations() of twelve", Made.full().violations(), 0);
    }
}
