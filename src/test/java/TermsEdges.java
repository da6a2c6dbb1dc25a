/** The sentences of "Terms" on clips, reels, scenes and weeks that name a boundary case, each with its test. */
final class TermsEdges {
    private TermsEdges() {
    }

    static void tell(Sentences s) {
        int t = Sentences.TERMS;
        s.noEdge(t, "Clips.", "Reels and beds.", "Airing.", "Scenes and cuts.", "Weeks.");
        s.of(t, "There are at most 12 clips, numbered from 0.", TermsEdges::mostClips);
        s.of(t, "A clip has 1 to 8 colours, each from 1 to 9,", TermsEdges::coloursOfAClip);
        s.of(t, "written as a number whose decimal digits are the colours in their order.", TermsEdges::orderOfColours);
        s.of(t, "The hash of a clip is found like this: it is 0 at first, and for each colour, in their order, it becomes "
                + "(31 times the hash plus the colour) modulo 997.", TermsEdges::hashes);
        s.of(t, "A clip is AWAKE (at first), ASLEEP or FADED.", TermsEdges::states);
        s.of(t, "Its fat is 0 to 99, 40 at first.", TermsEdges::fats);
        s.of(t, "There are at most 4 reels, numbered from 0.", TermsEdges::mostReels);
        s.of(t, "A reel has 1 to 9 beds, numbered from 0.", TermsEdges::bedsOfAReel);
        s.of(t, "A bed is COLD (at first), WARM, or a clip sleeps in it.", TermsEdges::whatABedIs);
        s.of(t, "The home of a clip in a reel is the bed whose number is the hash modulo the number of beds.",
                TermsEdges::homes);
        s.of(t, "The way of a clip in a reel is its home, the bed behind it, and so on; bed 0 is behind the last bed;",
                TermsEdges::wayRoundTheEnd);
        s.of(t, "it ends when all beds were passed.", TermsEdges::endOfTheWay);
        s.of(t, "A clip goes to sleep in the first bed of its way in which no clip sleeps.", TermsEdges::firstFreeBed);
        s.of(t, "When a clip leaves a bed, the bed is WARM.", TermsEdges::warmBeds);
        s.of(t, "To look for a clip in a reel, the beds of its way are looked at until the clip is found or a COLD bed was "
                + "looked at, or the way ends.", TermsEdges::lookingFor);
        s.of(t, "Going to sleep is refused for the first of these reasons that applies:", TermsEdges::firstReason);
        s.of(t, "NOT_AWAKE, the clip is not awake;", TermsEdges::notAwake);
        s.of(t, "TOO_THIN, its fat is less than 10;", TermsEdges::tooThin);
        s.of(t, "NO_BED, a clip sleeps in each bed of the reel.", TermsEdges::noBed);
        s.of(t, "When a reel is aired, all its clips leave their beds, all beds become COLD, and the clips go to sleep again,",
                TermsEdges::airing);
        s.of(t, "whatever their fat is,", TermsEdges::airingTheThin);
        s.of(t, "in the ascending order of their numbers;", TermsEdges::airingInOrder);
        s.of(t, "they stay asleep all the while.", TermsEdges::airedStayAsleep);
        s.of(t, "There are at most 5 scenes, numbered from 0,", TermsEdges::mostScenes);
        s.of(t, "each with a limit (1 to 9) and a number of springs, which is the limit at first.", TermsEdges::limits);
        s.of(t, "A pattern is a number from 1 to 9999;", TermsEdges::patterns);
        s.of(t, "its decimal digits are compared with the colours of a clip: the digit 0 matches each colour, and every other "
                + "digit the same colour.", TermsEdges::digits);
        s.of(t, "A pattern matches a clip if the clip has as many neighbouring colours that match the digits in their order.",
                TermsEdges::neighbours);
        s.of(t, "A cut of a scene with a pattern considers the beds, reel by reel and bed by bed in ascending order;",
                TermsEdges::orderOfACut);
        s.of(t, "each sleeping clip that the pattern matches wakes as long as the scene has a spring, which is used up then.",
                TermsEdges::springsOfACut);
        s.of(t, "The scene of a clip is the one that woke it latest.", TermsEdges::latestScene);
        s.of(t, "The week is 0 at first and 999 at most.", TermsEdges::firstAndLastWeek);
        s.of(t, "When a week passes, the fat of each sleeping clip decreases by 1", TermsEdges::weekOfASleeper);
        s.of(t, "and that of each clip that is awake by 4, but not below 0;", TermsEdges::weekOfTheAwake);
        s.of(t, "a clip without fat is FADED then and leaves its bed.", TermsEdges::fading);
        s.of(t, "Then each scene gets a spring if it has fewer than its limit.", TermsEdges::newSprings);
        s.of(t, "The food is 100 at first; a clip that is awake can be fed.", TermsEdges::firstFood);
        s.of(t, "Sets of clips are returned as the sum of 2 to the power of their numbers.", TermsEdges::sets);
        s.of(t, "The constants: `NONE = -1`: Returned if there is no such value.", TermsEdges::none);
        s.of(t, "`AWAKE = 0, ASLEEP = 1, FADED = 2`: The states of a clip.", TermsEdges::stateConstants);
        s.of(t, "`COLD = -1, WARM = -2`: What a bed is if no clip sleeps in it.", TermsEdges::bedConstants);
        s.of(t, "`ALLOWED = 0, NOT_AWAKE = 1, TOO_THIN = 2, NO_BED = 3`: The reasons for which going to sleep is refused, and "
                + "0 if it is not.", TermsEdges::reasonConstants);
    }

    private static void mostClips(Check check) {
        ClipHibernation x = Made.empty();
        for (int clip = 0; clip < 12; clip++) {
            check.due("addClip(9)", x.addClip(9), clip);
        }
        check.due("clipCount()", x.clipCount(), 12);
        check.due("fat(11)", x.fat(11), 40);
        Twins.refuses(check, "addClip(9) as the 13th", Wrong.REFUSED, Made::full, full -> full.addClip(9));
        x.undo();
        check.due("addClip(9) with 11 clips", x.addClip(9), 11);
    }

    private static void coloursOfAClip(Check check) {
        ClipHibernation x = Made.empty();
        int[] good = {1, 9, 11, 99, 1111111, 9999999, 11111111, 99999999};
        int[] lengths = {1, 1, 2, 2, 7, 7, 8, 8};
        for (int clip = 0; clip < good.length; clip++) {
            check.due("addClip(" + good[clip] + ")", x.addClip(good[clip]), clip);
            check.due("colours(" + clip + ")", x.colours(clip), good[clip]);
            check.due("length(" + clip + ")", x.length(clip), lengths[clip]);
        }
        Wrong.refuses(check, "addClip", Wrong.BAD, Made::rich, (y, number) -> y.addClip(number),
                0, -1, -9, 10, 90, 101, 10111111, 11111110, 100000000, 111111111, 999999999);
    }

    private static void orderOfColours(Check check) {
        ClipHibernation x = Typed.made("archive;clip 12345678;clip 4;");
        x.paint(0, 0, 9);
        check.due("colours(0) with another first colour", x.colours(0), 92345678);
        x.paint(0, 7, 9);
        check.due("colours(0) with another last colour", x.colours(0), 92345679);
        x.paint(1, 0, 5);
        check.due("colours(1) with another only colour", x.colours(1), 5);
    }

    private static void hashes(Check check) {
        ClipHibernation x = Typed.made("archive;clip 1;clip 9;clip 11;clip 114;clip 115;clip 116;clip 99999999;");
        int[] due = {1, 9, 32, 996, 0, 1, Made.hash("99999999")};
        for (int clip = 0; clip < due.length; clip++) {
            check.due("hash of " + x.colours(clip), x.hash(clip), due[clip]);
        }
    }

    private static void states(Check check) {
        ClipHibernation x = Made.crowd(0, 1, "");
        check.due("state(11) at first", x.state(11), ClipHibernation.AWAKE);
        x.sleep(11, 0);
        check.due("state(11) in its bed", x.state(11), ClipHibernation.ASLEEP);
        x.wake(11);
        check.due("state(11) awake again", x.state(11), ClipHibernation.AWAKE);
        x.sleep(11, 0);
        x.passWeeks(39);
        check.due("state(11) with fat 1", x.state(11), ClipHibernation.ASLEEP);
        x.passWeeks(1);
        check.due("state(11) without fat", x.state(11), ClipHibernation.FADED);
        check.due("state(0) without fat, from awake", x.state(0), ClipHibernation.FADED);
    }

    private static void fats(Check check) {
        ClipHibernation x = Typed.made("archive;clip 1;food 99;");
        check.due("fat(0) at first", x.fat(0), 40);
        x.feed(0, 50);
        check.due("feed(0, 9)", x.feed(0, 9), 99);
        Twins.refuses(check, "feed(0, 1) to 100", Wrong.REFUSED, () -> Typed.made("archive;clip 1;food 99;feed 0 50;feed 0 9;"),
                y -> y.feed(0, 1));
        x.passWeeks(24);
        check.due("fat(0)", x.fat(0), 3);
        x.passWeeks(1);
        check.due("fat(0) that had 3", x.fat(0), 0);
        x.passWeeks(1);
        check.due("fat(0) that had none", x.fat(0), 0);
    }

    private static void mostReels(Check check) {
        ClipHibernation x = Made.empty();
        for (int reel = 0; reel < 4; reel++) {
            check.due("addReel(2)", x.addReel(2), reel);
        }
        check.due("reelCount()", x.reelCount(), 4);
        check.due("bed(3, 1)", x.bed(3, 1), ClipHibernation.COLD);
        Twins.refuses(check, "addReel(2) as the fifth", Wrong.REFUSED, Made::full, full -> full.addReel(2));
        x.undo();
        check.due("addReel(1) with three reels", x.addReel(1), 3);
    }

    private static void bedsOfAReel(Check check) {
        ClipHibernation x = Made.empty();
        for (int beds : new int[] {1, 2, 8, 9}) {
            int reel = x.addReel(beds);
            check.due("bedCount of " + beds, x.bedCount(reel), beds);
            check.due("bed 0 of " + beds, x.bed(reel, 0), ClipHibernation.COLD);
            check.due("the last bed of " + beds, x.bed(reel, beds - 1), ClipHibernation.COLD);
        }
        Wrong.range(check, "addReel", (y, number) -> y.addReel(number), 1, 9);
    }

    private static void whatABedIs(Check check) {
        ClipHibernation x = Made.full();
        for (int reel = 0; reel < 4; reel++) {
            for (int bed = 0; bed < 9; bed++) {
                check.due("bed(" + reel + ", " + bed + ") at first", x.bed(reel, bed), ClipHibernation.COLD);
            }
        }
        int bed = x.sleep(0, 3);
        check.due("the bed of clip 0", x.bed(3, bed), 0);
        x.wake(0);
        check.due("the bed that it left", x.bed(3, bed), ClipHibernation.WARM);
        x.sleep(11, 3);
        check.due("the bed of clip 11", x.bed(3, bed), 11);
        x.undo();
        x.undo();
        x.undo();
        check.due("the bed undone", x.bed(3, bed), ClipHibernation.COLD);
    }

    private static void homes(Check check) {
        ClipHibernation x = Typed.made("archive;clip 115;clip 114;clip 8;clip 9;clip 1;clip 2;reel 9;reel 1;reel 2;reel 8;");
        int[] counts = {9, 1, 2, 8};
        int[] hashes = {0, 996, 8, 9, 1, 2};
        for (int clip = 0; clip < hashes.length; clip++) {
            for (int reel = 0; reel < counts.length; reel++) {
                check.due("home(" + clip + ", " + reel + ")", x.home(clip, reel), hashes[clip] % counts[reel]);
            }
        }
        check.due("home(2, 0) in the last bed", x.home(2, 0), 8);
        check.due("home(3, 0) in bed 0", x.home(3, 0), 0);
    }

    private static void wayRoundTheEnd(Check check) {
        ClipHibernation x = Typed.made("archive;repeat 3(clip 8;);reel 9;reel 3;");
        check.due("sleep(0, 0) at home in the last bed", x.sleep(0, 0), 8);
        check.due("sleep(1, 0) behind the last bed", x.sleep(1, 0), 0);
        check.due("sleep(2, 0) behind bed 0", x.sleep(2, 0), 1);
        x.wake(1);
        check.due("bedFor(1, 1)", x.bedFor(1, 1), 2);
        check.due("looksFor(2, 0) over the end", x.looksFor(2, 0), 3);
        ClipHibernation two = Made.crowd(2, 2, "");
        check.due("bedOf(0) of two beds", two.bedOf(0), 1);
        check.due("bedOf(1) of two beds", two.bedOf(1), 0);
    }

    private static void endOfTheWay(Check check) {
        for (int beds = 1; beds <= 9; beds++) {
            ClipHibernation x = Made.crowd(beds, beds, "");
            check.due("bedOf the last of " + beds, x.bedOf(beds - 1), 0);
            check.due("looksFor the last of " + beds, x.looksFor(beds - 1, 0), beds);
            check.due("looksFor one that is not in " + beds, x.looksFor(11, 0), beds);
            check.due("whyNoSleep for one bed more than " + beds, x.whyNoSleep(11, 0), ClipHibernation.NO_BED);
        }
    }

    private static void firstFreeBed(Check check) {
        check.due("bedFor the home", Made.crowd(0, 9, "").bedFor(11, 0), 1);
        check.due("bedFor the one behind it", Made.crowd(1, 9, "").bedFor(11, 0), 2);
        check.due("bedFor the last of the way", Made.crowd(8, 9, "").bedFor(11, 0), 0);
        check.due("bedFor a WARM home", Made.crowd(3, 9, "wake 0;").bedFor(11, 0), 1);
        check.due("bedFor a WARM bed before a COLD one", Made.crowd(3, 9, "wake 1;").bedFor(11, 0), 2);
        check.due("bedFor a COLD bed behind sleepers", Made.crowd(3, 9, "").bedFor(11, 0), 4);
        check.due("bedFor the only WARM bed of a full reel", Made.crowd(9, 9, "wake 4;").bedFor(11, 0), 5);
    }

    private static void warmBeds(Check check) {
        ClipHibernation x = Made.crowd(9, 9, "scene 1;");
        check.due("wake(0)", x.wake(0), 0);
        check.due("bed(0, 1) after wake", x.bed(0, 1), ClipHibernation.WARM);
        check.due("cut(0, 1)", x.cut(0, 1), 1 << 8);
        check.due("bed(0, 0) after cut", x.bed(0, 0), ClipHibernation.WARM);
        x.passWeeks(39);
        check.due("bed(0, 8) a week before fading", x.bed(0, 8), 7);
        x.passWeeks(1);
        for (int bed = 0; bed < 9; bed++) {
            check.due("bed(0, " + bed + ") after fading", x.bed(0, bed), ClipHibernation.WARM);
        }
    }

    private static void lookingFor(Check check) {
        check.due("looksFor at home", Made.crowd(1, 9, "").looksFor(0, 0), 1);
        check.due("looksFor at a COLD home", Made.crowd(0, 9, "").looksFor(0, 0), 1);
        check.due("looksFor past a WARM home to a COLD bed", Made.crowd(1, 9, "wake 0;").looksFor(0, 0), 2);
        check.due("looksFor past a sleeper to a COLD bed", Made.crowd(1, 9, "").looksFor(1, 0), 2);
        check.due("looksFor past a WARM home to the clip", Made.crowd(2, 9, "wake 0;").looksFor(1, 0), 2);
        check.due("looksFor a COLD bed at the end", Made.crowd(8, 9, "").looksFor(8, 0), 9);
        check.due("looksFor the clip at the end", Made.crowd(9, 9, "").looksFor(8, 0), 9);
        check.due("looksFor to the end in vain", Made.crowd(9, 9, "").looksFor(9, 0), 9);
        check.due("looksFor through WARM beds", Made.crowd(2, 2, "wake 0;wake 1;").looksFor(0, 0), 2);
        check.due("looksFor in one COLD bed", Made.crowd(0, 1, "").looksFor(0, 0), 1);
        check.due("looksFor in one WARM bed", Made.crowd(1, 1, "wake 0;").looksFor(0, 0), 1);
        check.due("looksFor in one bed of another", Made.crowd(1, 1, "").looksFor(1, 0), 1);
    }

    private static void firstReason(Check check) {
        ClipHibernation asleep = Made.crowd(2, 2, "weeks 31;");
        check.due("fat(0)", asleep.fat(0), 9);
        check.due("whyNoSleep(0, 0) asleep, thin, no bed", asleep.whyNoSleep(0, 0), ClipHibernation.NOT_AWAKE);
        check.due("whyNoSleep(2, 0) faded, thin, no bed", asleep.whyNoSleep(2, 0), ClipHibernation.NOT_AWAKE);
        ClipHibernation thin = Made.crowd(2, 2, "weeks 8;");
        check.due("whyNoSleep(2, 0) thin, no bed", thin.whyNoSleep(2, 0), ClipHibernation.TOO_THIN);
        check.due("whyNoSleep(0, 0) asleep, no bed", thin.whyNoSleep(0, 0), ClipHibernation.NOT_AWAKE);
        check.due("whyNoSleep(2, 0) no bed", Made.crowd(2, 2, "").whyNoSleep(2, 0), ClipHibernation.NO_BED);
    }

    private static void notAwake(Check check) {
        ClipHibernation x = Made.crowd(1, 9, "weeks 9;");
        check.due("whyNoSleep(0, 0) asleep", x.whyNoSleep(0, 0), ClipHibernation.NOT_AWAKE);
        check.due("whyNoSleep(1, 0) awake", x.whyNoSleep(1, 0), ClipHibernation.TOO_THIN);
        x.passWeeks(1);
        check.due("whyNoSleep(1, 0) faded", x.whyNoSleep(1, 0), ClipHibernation.NOT_AWAKE);
        x.wake(0);
        check.due("whyNoSleep(0, 0) awake", x.whyNoSleep(0, 0), ClipHibernation.ALLOWED);
    }

    private static void tooThin(Check check) {
        ClipHibernation x = Made.crowd(0, 9, "feed 0 2;feed 1 1;weeks 8;");
        check.due("fat(0)", x.fat(0), 10);
        check.due("whyNoSleep(0, 0) with fat 10", x.whyNoSleep(0, 0), ClipHibernation.ALLOWED);
        check.due("sleep(0, 0) with fat 10", x.sleep(0, 0), 1);
        check.due("fat(1)", x.fat(1), 9);
        check.due("whyNoSleep(1, 0) with fat 9", x.whyNoSleep(1, 0), ClipHibernation.TOO_THIN);
        Twins.refuses(check, "sleep(1, 0) with fat 9", Wrong.REFUSED, () -> Made.crowd(0, 9, "feed 0 2;feed 1 1;weeks 8;"),
                y -> y.sleep(1, 0));
        x.feed(1, 1);
        check.due("whyNoSleep(1, 0) fed to 10", x.whyNoSleep(1, 0), ClipHibernation.ALLOWED);
    }

    private static void noBed(Check check) {
        for (int beds = 1; beds <= 9; beds++) {
            int all = beds;
            check.due("whyNoSleep with one bed of " + beds, Made.crowd(beds - 1, beds, "").whyNoSleep(11, 0),
                    ClipHibernation.ALLOWED);
            check.due("whyNoSleep with no bed of " + beds, Made.crowd(beds, beds, "").whyNoSleep(11, 0),
                    ClipHibernation.NO_BED);
            Twins.refuses(check, "sleep with no bed of " + beds, Wrong.REFUSED, () -> Made.crowd(all, all, ""),
                    y -> y.sleep(11, 0));
        }
        check.due("whyNoSleep with a WARM bed", Made.crowd(9, 9, "wake 8;").whyNoSleep(11, 0), ClipHibernation.ALLOWED);
    }

    private static void airing(Check check) {
        ClipHibernation x = Made.crowd(3, 9, "wake 0;reel 9;sleep 3 1;wake 3;");
        check.due("air(0)", x.air(0), 1);
        check.due("bedOf(1)", x.bedOf(1), 1);
        check.due("bedOf(2)", x.bedOf(2), 2);
        check.due("bed(0, 3)", x.bed(0, 3), ClipHibernation.COLD);
        check.due("bed(1, 1) of the reel beside", x.bed(1, 1), ClipHibernation.WARM);

        ClipHibernation warm = Made.crowd(2, 2, "wake 0;wake 1;");
        check.due("air(0) of WARM beds alone", warm.air(0), 2);
        check.due("bed(0, 0)", warm.bed(0, 0), ClipHibernation.COLD);
        check.due("bed(0, 1)", warm.bed(0, 1), ClipHibernation.COLD);
        check.due("air(0) of COLD beds alone", warm.air(0), 0);

        ClipHibernation full = Made.crowd(9, 9, "");
        check.due("air(0) of a full reel", full.air(0), 0);
        check.due("sleepers(0)", full.sleepers(0), 511);
        check.due("bedOf(8) behind the last bed", full.bedOf(8), 0);
        ClipHibernation one = Made.crowd(1, 1, "");
        check.due("air(0) of a full reel of one bed", one.air(0), 0);
        check.due("bedOf(0)", one.bedOf(0), 0);
    }

    private static void airingTheThin(Check check) {
        ClipHibernation x = Made.crowd(2, 9, "weeks 30;wake 0;");
        check.due("fat(1)", x.fat(1), 10);
        x.air(0);
        check.due("bedOf(1) with fat 10", x.bedOf(1), 1);
        ClipHibernation y = Made.crowd(2, 9, "weeks 31;wake 0;");
        check.due("fat(1)", y.fat(1), 9);
        y.air(0);
        check.due("bedOf(1) with fat 9", y.bedOf(1), 1);
        ClipHibernation z = Made.crowd(2, 9, "weeks 39;wake 0;");
        check.due("fat(1)", z.fat(1), 1);
        z.air(0);
        check.due("bedOf(1) with fat 1", z.bedOf(1), 1);
    }

    private static void airingInOrder(Check check) {
        ClipHibernation x = Typed.made("archive;repeat 12(clip 1;);reel 3;sleep 11 0;sleep 5 0;sleep 0 0;");
        check.due("bedOf(11)", x.bedOf(11), 1);
        check.due("bedOf(0)", x.bedOf(0), 0);
        x.air(0);
        check.due("bedOf(0) first of all", x.bedOf(0), 1);
        check.due("bedOf(5) then", x.bedOf(5), 2);
        check.due("bedOf(11) last, behind the last bed", x.bedOf(11), 0);
    }

    private static void airedStayAsleep(Check check) {
        ClipHibernation x = Made.crowd(2, 9, "scene 1;cut 0 1;sleep 0 0;weeks 31;");
        check.due("air(0)", x.air(0), 0);
        check.due("state(0) with fat 9", x.state(0), ClipHibernation.ASLEEP);
        check.due("state(1) with fat 9", x.state(1), ClipHibernation.ASLEEP);
        check.due("sceneOf(0)", x.sceneOf(0), 0);
        check.due("sceneOf(1)", x.sceneOf(1), -1);
        check.due("wakings()", x.wakings(), 1);
        check.due("fat(0)", x.fat(0), 9);
    }

    private static void mostScenes(Check check) {
        ClipHibernation x = Made.empty();
        for (int scene = 0; scene < 5; scene++) {
            check.due("addScene(3)", x.addScene(3), scene);
        }
        check.due("sceneCount()", x.sceneCount(), 5);
        check.due("springs(4)", x.springs(4), 3);
        Twins.refuses(check, "addScene(3) as the sixth", Wrong.REFUSED, Made::full, full -> full.addScene(3));
        x.undo();
        check.due("addScene(1) with four scenes", x.addScene(1), 4);
    }

    private static void limits(Check check) {
        ClipHibernation x = Made.empty();
        for (int limit : new int[] {1, 2, 8, 9}) {
            int scene = x.addScene(limit);
            check.due("springs with limit " + limit, x.springs(scene), limit);
            x.passWeeks(1);
            check.due("springs with limit " + limit + " a week later", x.springs(scene), limit);
        }
        Wrong.range(check, "addScene", (y, number) -> y.addScene(number), 1, 9);
    }

    private static void patterns(Check check) {
        ClipHibernation x = Typed.made("archive;clip 1;clip 9999;reel 2;scene 9;sleep 0 0;sleep 1 0;");
        check.due("matchingSleepers(1)", x.matchingSleepers(1), 1);
        check.due("matchingSleepers(9999)", x.matchingSleepers(9999), 2);
        check.due("wokenBy(0, 1)", x.wokenBy(0, 1), 1);
        check.due("wokenBy(0, 9999)", x.wokenBy(0, 9999), 2);
        check.due("cut(0, 1)", x.cut(0, 1), 1);
        check.due("cut(0, 9999)", x.cut(0, 9999), 2);
        Wrong.pattern(check, "cut", (y, number) -> y.cut(0, number));
        Wrong.pattern(check, "matchingSleepers", (y, number) -> y.matchingSleepers(number));
    }

    private static void digits(Check check) {
        ClipHibernation x = Typed.made("archive;clip 12345678;clip 9;clip 1999;");
        for (int digit = 1; digit <= 9; digit++) {
            check.due("firstMatch(0, " + digit + ")", x.firstMatch(0, digit), digit == 9 ? -1 : digit - 1);
            check.due("firstMatch(1, " + digit + ")", x.firstMatch(1, digit), digit == 9 ? 0 : -1);
        }
        check.due("firstMatch(0, 1000) of 1 and any", x.firstMatch(0, 1000), 0);
        check.due("firstMatch(2, 1000) of 9", x.firstMatch(2, 1000), 0);
        check.due("firstMatch(0, 5008)", x.firstMatch(0, 5008), 4);
        check.due("firstMatch(0, 5007)", x.firstMatch(0, 5007), -1);
        check.due("firstMatch(0, 4008)", x.firstMatch(0, 4008), -1);
        check.due("firstMatch(1, 90) with no colour for 0", x.firstMatch(1, 90), -1);
    }

    private static void neighbours(Check check) {
        ClipHibernation x = Typed.made("archive;clip 2341;clip 234;clip 12345678;");
        check.due("firstMatch(0, 2341) of all colours", x.firstMatch(0, 2341), 0);
        check.due("firstMatch(1, 2340) with a digit more", x.firstMatch(1, 2340), -1);
        check.due("firstMatch(1, 2341) with a digit more", x.firstMatch(1, 2341), -1);
        check.due("firstMatch(0, 12) over the end", x.firstMatch(0, 12), -1);
        check.due("firstMatch(0, 41) at the end", x.firstMatch(0, 41), 2);
        check.due("firstMatch(0, 1) at the end", x.firstMatch(0, 1), 3);
        check.due("firstMatch(0, 10) over the end", x.firstMatch(0, 10), -1);
        check.due("firstMatch(2, 1234) at the start", x.firstMatch(2, 1234), 0);
        check.due("firstMatch(2, 5678) at the end", x.firstMatch(2, 5678), 4);
        check.due("firstMatch(2, 6780) over the end", x.firstMatch(2, 6780), -1);
        check.due("firstMatch(2, 13) not neighbouring", x.firstMatch(2, 13), -1);
        check.due("firstMatch(2, 21) in another order", x.firstMatch(2, 21), -1);
    }

    /** Homes in three beds: clip 0 in bed 2, clip 1 in bed 1, clips 2 and 3 in bed 0. */
    private static void orderOfACut(Check check) {
        ClipHibernation x = Typed.made("archive;clip 11;clip 31;clip 21;clip 21;reel 3;reel 3;scene 1;"
                + "sleep 3 1;sleep 0 0;sleep 1 0;sleep 2 0;");
        for (int clip : new int[] {2, 1, 0, 3}) {
            check.due("wokenBy(0, 1)", x.wokenBy(0, 1), 1 << clip);
            check.due("cut(0, 1)", x.cut(0, 1), 1 << clip);
            x.passWeeks(1);
        }
        check.due("cut(0, 1) of nobody", x.cut(0, 1), 0);
    }

    private static void springsOfACut(Check check) {
        for (int limit = 1; limit <= 9; limit++) {
            ClipHibernation x = Made.crowd(4, 4, "scene " + limit + ";");
            int woken = Math.min(limit, 4);
            check.due("clips woken with limit " + limit, Integer.bitCount(x.cut(0, 1)), woken);
            check.due("springs(0) with limit " + limit, x.springs(0), limit - woken);
            check.due("wakings() with limit " + limit, x.wakings(), woken);
            check.due("sleepers(0) with limit " + limit, Integer.bitCount(x.sleepers(0)), 4 - woken);
        }
        ClipHibernation x = Made.crowd(2, 2, "scene 1;scene 1;cut 0 1;");
        check.due("cut(0, 1) without a spring", x.cut(0, 1), 0);
        check.due("springs(0)", x.springs(0), 0);
        check.due("springs(1) of the other scene", x.springs(1), 1);
        check.due("cut(1, 2) that matches nobody", x.cut(1, 2), 0);
        check.due("springs(1)", x.springs(1), 1);
        check.due("cut(1, 1) of the last sleeper", x.cut(1, 1), 1);
        check.due("springs(1)", x.springs(1), 0);
    }

    private static void latestScene(Check check) {
        ClipHibernation x = Made.crowd(1, 1, "repeat 5(scene 1;);");
        check.due("sceneOf(0) before a cut", x.sceneOf(0), -1);
        for (int scene : new int[] {4, 0, 2}) {
            x.cut(scene, 1);
            check.due("sceneOf(0) after a cut of scene " + scene, x.sceneOf(0), scene);
            x.sleep(0, 0);
            check.due("sceneOf(0) asleep after it", x.sceneOf(0), scene);
        }
        x.cut(0, 1);
        check.due("sceneOf(0) after a cut without a spring", x.sceneOf(0), 2);
        x.wake(0);
        check.due("sceneOf(0) after wake", x.sceneOf(0), 2);
    }

    private static void firstAndLastWeek(Check check) {
        ClipHibernation x = Made.empty();
        check.due("week() at first", x.week(), 0);
        for (int times = 0; times < 19; times++) {
            x.passWeeks(50);
        }
        x.passWeeks(48);
        check.due("week()", x.week(), 998);
        check.due("passWeeks(1)", x.passWeeks(1), 0);
        check.due("week()", x.week(), 999);
        Twins.refuses(check, "passWeeks(1) to week 1000", Wrong.REFUSED, () -> Typed.made("archive;repeat 19(weeks 50;);weeks 49;"),
                y -> y.passWeeks(1));
        Twins.refuses(check, "passWeeks(2) to week 1000", Wrong.REFUSED, () -> Typed.made("archive;repeat 19(weeks 50;);weeks 48;"),
                y -> y.passWeeks(2));
    }

    private static void weekOfASleeper(Check check) {
        ClipHibernation x = Typed.made("archive;clip 1;reel 1;sleep 0 0;");
        for (int fat = 39; fat >= 0; fat--) {
            check.due("passWeeks(1) to fat " + fat, x.passWeeks(1), fat == 0 ? 1 : 0);
            check.due("fat(0)", x.fat(0), fat);
        }
        x.passWeeks(1);
        check.due("fat(0) of the faded", x.fat(0), 0);
    }

    private static void weekOfTheAwake(Check check) {
        ClipHibernation x = Typed.made("archive;clip 1;clip 1;clip 1;reel 1;sleep 0 0;weeks 1;wake 0;feed 1 4;feed 2 5;weeks 9;");
        check.due("fat(0)", x.fat(0), 3);
        check.due("fat(1)", x.fat(1), 4);
        check.due("fat(2)", x.fat(2), 5);
        int burned = x.burnedFat();
        check.due("passWeeks(1)", x.passWeeks(1), 2);
        check.due("fat(0) that had 3", x.fat(0), 0);
        check.due("fat(1) that had 4", x.fat(1), 0);
        check.due("fat(2) that had 5", x.fat(2), 1);
        check.due("state(2)", x.state(2), ClipHibernation.AWAKE);
        check.due("burnedFat()", x.burnedFat(), burned + 3 + 4 + 4);
    }

    private static void fading(Check check) {
        ClipHibernation x = Made.crowd(2, 2, "weeks 39;");
        check.due("state(0) with fat 1", x.state(0), ClipHibernation.ASLEEP);
        check.due("bed(0, 1) with fat 1", x.bed(0, 1), 0);
        check.due("passWeeks(1)", x.passWeeks(1), 2);
        check.due("state(0)", x.state(0), ClipHibernation.FADED);
        check.due("bedOf(0)", x.bedOf(0), -1);
        check.due("reelOf(0)", x.reelOf(0), -1);
        check.due("bed(0, 1)", x.bed(0, 1), ClipHibernation.WARM);
        check.due("sleepers(0)", x.sleepers(0), 0);
        check.due("passWeeks(50) with nobody left", x.passWeeks(50), 0);
    }

    private static void newSprings(Check check) {
        ClipHibernation x = Made.crowd(9, 9, "scene 9;scene 1;scene 2;cut 0 1;");
        for (int week = 1; week <= 9; week++) {
            x.passWeeks(1);
            check.due("springs(0) in week " + week, x.springs(0), week);
            check.due("springs(1) in week " + week, x.springs(1), 1);
            check.due("springs(2) in week " + week, x.springs(2), 2);
        }
        x.passWeeks(1);
        check.due("springs(0) at its limit", x.springs(0), 9);
        ClipHibernation y = Made.crowd(9, 9, "scene 9;cut 0 1;");
        y.passWeeks(8);
        check.due("springs(0) after eight weeks at once", y.springs(0), 8);
        y.passWeeks(2);
        check.due("springs(0) after two more", y.springs(0), 9);
    }

    private static void firstFood(Check check) {
        ClipHibernation x = Made.crowd(1, 1, "");
        check.due("food() at first", x.food(), 100);
        check.due("feed(1, 50)", x.feed(1, 50), 90);
        check.due("feed(2, 50)", x.feed(2, 50), 90);
        check.due("food()", x.food(), 0);
        Twins.refuses(check, "feed(0, 1) asleep", Wrong.REFUSED, () -> Made.crowd(1, 1, ""), y -> y.feed(0, 1));
        Twins.refuses(check, "feed(1, 1) faded", Wrong.REFUSED, () -> Made.crowd(1, 1, "weeks 10;"), y -> y.feed(1, 1));
        ClipHibernation y = Made.crowd(1, 1, "weeks 9;");
        check.due("feed(1, 1) at fat 4", y.feed(1, 1), 5);
        y.wake(0);
        check.due("feed(0, 1) awake", y.feed(0, 1), 32);
    }

    private static void sets(Check check) {
        ClipHibernation x = Made.full();
        check.due("sleepers(0) of nobody", x.sleepers(0), 0);
        x.sleep(0, 0);
        check.due("sleepers(0) of clip 0", x.sleepers(0), 1);
        x.sleep(11, 0);
        check.due("sleepers(0) of clips 0 and 11", x.sleepers(0), 2049);
        check.due("matchingSleepers(9)", x.matchingSleepers(9), 2049);
        check.due("wokenBy(4, 9)", x.wokenBy(4, 9), 2049);
        check.due("cut(4, 9)", x.cut(4, 9), 2049);
        check.due("twinsOf(11)", x.twinsOf(11), 2047);
        check.due("fadedClips() of nobody", x.fadedClips(), 0);
        x.passWeeks(50);
        check.due("fadedClips() of all", x.fadedClips(), 4095);
    }

    private static void none(Check check) {
        check.due("NONE", ClipHibernation.NONE, -1);
        check.due("undo() of nothing", new ClipHibernation().undo(), ClipHibernation.NONE);
    }

    private static void stateConstants(Check check) {
        check.due("AWAKE", ClipHibernation.AWAKE, 0);
        check.due("ASLEEP", ClipHibernation.ASLEEP, 1);
        check.due("FADED", ClipHibernation.FADED, 2);
    }

    private static void bedConstants(Check check) {
        check.due("COLD", ClipHibernation.COLD, -1);
        check.due("WARM", ClipHibernation.WARM, -2);
    }

    private static void reasonConstants(Check check) {
        check.due("ALLOWED", ClipHibernation.ALLOWED, 0);
        check.due("NOT_AWAKE", ClipHibernation.NOT_AWAKE, 1);
        check.due("TOO_THIN", ClipHibernation.TOO_THIN, 2);
        check.due("NO_BED", ClipHibernation.NO_BED, 3);
    }
}
