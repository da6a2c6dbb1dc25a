/** Promises 1 to 3 and 5 to 15: the new object, the input and the changes. */
final class ChangeEdges {
    private static final int SPACES = 0x20202020;

    private ChangeEdges() {
    }

    static void tell(Sentences s) {
        s.of(1, "Creates an archive as by the script \"archive; clip 123; clip 3214; clip 44; clip 12345678; clip 9; reel 3; "
                + "reel 5; scene 2; scene 1; sleep 0 0; sleep 1 0; sleep 2 1; sleep 3 1; weeks 2; cut 1 30; feed 4 20;\".",
                ChangeEdges::newArchive);
        s.of(1, "The input buffer and the report are empty, no snapshot is saved, and nothing can be undone.",
                ChangeEdges::emptyAtFirst);
        s.of(2, "Appends 20 bytes to the input buffer: the four bytes of each parameter, the most significant byte first.",
                ChangeEdges::mostSignificantFirst);
        String[] words = {"`a`: bytes 0 to 3", "`b`: bytes 4 to 7", "`c`: bytes 8 to 11", "`d`: bytes 12 to 15",
            "`e`: bytes 16 to 19"};
        for (int word = 0; word < words.length; word++) {
            int first = 4 * word;
            s.of(2, words[word], check -> bytesOfAWord(check, first));
        }
        s.of(2, "Returns the new length of the buffer, or NONE (and nothing is appended) if it would be greater than 600.",
                ChangeEdges::fullBuffer);
        s.of(3, "Shortens the input buffer.", ChangeEdges::shortens);
        s.of(3, "`length`: the new length", ChangeEdges::goodLengths);
        s.of(3, "Returns the new length.", ChangeEdges::truncateAnswers);
        s.of(3, "Throws `IllegalArgumentException` if `length` is negative or greater than the present length",
                ChangeEdges::badLengths);
        tellAdding(s);
        tellSleep(s);
        tellCut(s);
        tellFood(s);
        tellPaint(s);
    }

    private static void tellAdding(Sentences s) {
        s.noEdge(5, "Adds a clip.");
        s.of(5, "`colours`: a number with 1 to 8 digits, none of them 0", ChangeEdges::goodColours);
        s.of(5, "Returns the number of the clip.", ChangeEdges::numbersOfClips);
        s.of(5, "Throws `IllegalArgumentException` if `colours` is not such a number", ChangeEdges::badColours);
        s.of(5, "Throws `IllegalStateException` if there are 12 clips", ChangeEdges::thirteenthClip);
        s.noEdge(6, "Adds a reel.");
        s.of(6, "`beds`: 1 to 9", ChangeEdges::goodBeds);
        s.of(6, "Returns the number of the reel.", ChangeEdges::numbersOfReels);
        s.of(6, "Throws `IllegalArgumentException` if `beds` is out of range",
                check -> Wrong.range(check, "addReel", (x, number) -> x.addReel(number), 1, 9));
        s.of(6, "Throws `IllegalStateException` if there are 4 reels", ChangeEdges::fifthReel);
        s.noEdge(7, "Adds a scene.");
        s.of(7, "`limit`: 1 to 9", ChangeEdges::goodLimits);
        s.of(7, "Returns the number of the scene.", ChangeEdges::numbersOfScenes);
        s.of(7, "Throws `IllegalArgumentException` if `limit` is out of range",
                check -> Wrong.range(check, "addScene", (x, number) -> x.addScene(number), 1, 9));
        s.of(7, "Throws `IllegalStateException` if there are 5 scenes", ChangeEdges::sixthScene);
    }

    private static void tellSleep(Sentences s) {
        s.of(8, "Lets a clip go to sleep in a reel.", ChangeEdges::goesToSleep);
        s.of(8, "`clip`: the number of a clip", ChangeEdges::sleepOfEachClip);
        s.of(8, "`reel`: the number of a reel", ChangeEdges::sleepInEachReel);
        s.of(8, "Returns the number of its bed.", ChangeEdges::bedsOfSleep);
        s.of(8, "Throws `IndexOutOfBoundsException` if `clip` or `reel` does not exist", ChangeEdges::sleepOfNobody);
        s.of(8, "Throws `IllegalStateException` if it is refused", ChangeEdges::sleepRefused);
        s.of(9, "Wakes a clip.", ChangeEdges::wakes);
        s.of(9, "Its scene stays the same.", ChangeEdges::sceneAfterWaking);
        s.of(9, "`clip`: the number of a clip", ChangeEdges::wakeOfEachClip);
        s.of(9, "Returns the reel in which it slept.", ChangeEdges::reelsOfWake);
        s.of(9, "Throws `IndexOutOfBoundsException` if `clip` is not the number of a clip",
                check -> Wrong.clip(check, "wake", (x, number) -> x.wake(number)));
        s.of(9, "Throws `IllegalStateException` if the clip is not asleep", ChangeEdges::wakeRefused);
    }

    private static void tellCut(Sentences s) {
        s.of(10, "Makes a cut of a scene with a pattern.", ChangeEdges::cuts);
        s.of(10, "`scene`: the number of a scene", ChangeEdges::cutOfEachScene);
        s.of(10, "`pattern`: a pattern", ChangeEdges::patternsOfACut);
        s.of(10, "Returns the set of the clips that wake.", ChangeEdges::setsOfACut);
        s.of(10, "Throws `IndexOutOfBoundsException` if `scene` is not the number of a scene",
                check -> Wrong.scene(check, "cut", (x, number) -> x.cut(number, 20)));
        s.of(10, "Throws `IllegalArgumentException` if `pattern` is no pattern",
                check -> Wrong.pattern(check, "cut", (x, number) -> x.cut(0, number)));
        s.of(11, "Airs a reel.", ChangeEdges::airs);
        s.of(11, "`reel`: the number of a reel", ChangeEdges::airOfEachReel);
        s.of(11, "Returns the number of beds that were WARM.", ChangeEdges::warmBedsOfAir);
        s.of(11, "Throws `IndexOutOfBoundsException` if `reel` is not the number of a reel",
                check -> Wrong.reel(check, "air", (x, number) -> x.air(number)));
    }

    private static void tellFood(Sentences s) {
        s.of(12, "Feeds a clip: its fat increases, and the food decreases by as much.", ChangeEdges::feeds);
        s.of(12, "`clip`: the number of a clip", ChangeEdges::feedOfEachClip);
        s.of(12, "`fat`: 1 to 50", ChangeEdges::goodMeals);
        s.of(12, "Returns the fat of the clip afterwards.", ChangeEdges::feedAnswers);
        s.of(12, "Throws `IndexOutOfBoundsException` if `clip` is not the number of a clip",
                check -> Wrong.clip(check, "feed", (x, number) -> x.feed(number, 1)));
        s.of(12, "Throws `IllegalArgumentException` if `fat` is out of range",
                check -> Wrong.range(check, "feed", (x, number) -> x.feed(1, number), 1, 50));
        s.of(12, "Throws `IllegalStateException` if the clip is not awake,", ChangeEdges::feedNotAwake);
        s.of(12, "the food is less,", ChangeEdges::feedTooMuchFood);
        s.of(12, "or the fat would be greater than 99", ChangeEdges::feedTooFat);
        s.noEdge(13, "Adds food.");
        s.of(13, "`food`: 1 to 999", ChangeEdges::goodFood);
        s.of(13, "Returns the food afterwards.", ChangeEdges::addFoodAnswers);
        s.of(13, "Throws `IllegalArgumentException` if `food` is out of range",
                check -> Wrong.range(check, "addFood", (x, number) -> x.addFood(number), 1, 999));
        s.of(13, "Throws `IllegalStateException` if the food would be greater than 9999", ChangeEdges::tooMuchFood);
    }

    private static void tellPaint(Sentences s) {
        s.of(14, "Changes a colour of a clip.", ChangeEdges::paints);
        s.of(14, "`clip`: the number of a clip", ChangeEdges::paintOfEachClip);
        s.of(14, "`index`: the index of the colour, from 0", ChangeEdges::paintOfEachColour);
        s.of(14, "`colour`: 1 to 9", ChangeEdges::goodPaint);
        s.of(14, "Returns the new hash of the clip.", ChangeEdges::paintAnswers);
        s.of(14, "Throws `IndexOutOfBoundsException` if `clip` is not the number of a clip,",
                check -> Wrong.clip(check, "paint", (x, number) -> x.paint(number, 0, 1)));
        s.of(14, "or it has no such colour", ChangeEdges::noSuchColour);
        s.of(14, "Throws `IllegalArgumentException` if `colour` is out of range",
                check -> Wrong.range(check, "paint", (x, number) -> x.paint(1, 0, number), 1, 9));
        s.of(14, "Throws `IllegalStateException` if the clip is not awake", ChangeEdges::paintRefused);
        s.noEdge(15, "Lets weeks pass.");
        s.of(15, "`weeks`: 1 to 50", ChangeEdges::goodWeeks);
        s.of(15, "Returns the number of clips that fade.", ChangeEdges::passWeeksAnswers);
        s.of(15, "Throws `IllegalArgumentException` if `weeks` is out of range",
                check -> Wrong.range(check, "passWeeks", (x, number) -> x.passWeeks(number), 1, 50));
        s.of(15, "Throws `IllegalStateException` if the week would become greater than 999", ChangeEdges::tooManyWeeks);
    }

    // promises 1 to 3

    private static void newArchive(Check check) {
        ClipHibernation x = new ClipHibernation();
        check.dueText("a new archive", Look.at(x), "week 2 food 80 burned 16 wakings 1 violations 0\n"
                + "clip 123 state 1 fat 38 hash 29 in 0/2 scene -1\n"
                + "clip 3214 state 0 fat 38 hash 603 in -1/-1 scene 1\n"
                + "clip 44 state 1 fat 38 hash 128 in 1/3 scene -1\n"
                + "clip 12345678 state 1 fat 38 hash 221 in 1/1 scene -1\n"
                + "clip 9 state 0 fat 52 hash 9 in -1/-1 scene -1\n"
                + "reel -2 -1 0\nreel -1 3 -1 2 -1\nscene 2\nscene 0\n");
        ClipHibernation scripted = Typed.made("archive; clip 123; clip 3214; clip 44; clip 12345678; clip 9; reel 3; reel 5; "
                + "scene 2; scene 1; sleep 0 0; sleep 1 0; sleep 2 1; sleep 3 1; weeks 2; cut 1 30; feed 4 20;");
        scripted.saveSnapshot();
        scripted.restoreSnapshot();
        x.saveSnapshot();
        check.dueText("everything of that script", Twins.everything(scripted), Twins.everything(x));
    }

    private static void emptyAtFirst(Check check) {
        ClipHibernation x = new ClipHibernation();
        check.due("reportByte(0)", x.reportByte(0), -1);
        check.due("undoCount()", x.undoCount(), 0);
        check.due("undo()", x.undo(), -1);
        check.due("truncateInput(0)", x.truncateInput(0), 0);
        check.due("scriptErrorKind()", x.scriptErrorKind(), 0);
        check.due("append", x.append(SPACES, SPACES, SPACES, SPACES, SPACES), 20);
        Twins.refuses(check, "truncateInput(1)", Wrong.BAD, ClipHibernation::new, y -> y.truncateInput(1));
        Twins.refuses(check, "restoreSnapshot()", java.util.NoSuchElementException.class, ClipHibernation::new,
                y -> y.restoreSnapshot());
    }

    private static void mostSignificantFirst(Check check) {
        ClipHibernation x = new ClipHibernation();
        // "archive;clip 98;\n\n\n\n"
        check.due("append", x.append(0x61726368, 0x6976653B, 0x636C6970, 0x2039383B, 0x0A0A0A0A), 20);
        check.due("runScript()", x.runScript(), 1);
        check.due("colours(0)", x.colours(0), 98);
        x.append(0xFFFFFFFF, 0, 0, 0, 0);
        check.due("runScript() of bytes 255", x.runScript(), -1);
        check.due("scriptErrorOffset()", x.scriptErrorOffset(), 0);
    }

    /** A byte 255 at the place, and spaces before it. */
    private static void bytesOfAWord(Check check, int first) {
        for (int place = 0; place < 4; place++) {
            int[] words = {SPACES, SPACES, SPACES, SPACES, SPACES};
            words[first / 4] |= 255 << 8 * (3 - place);
            ClipHibernation x = new ClipHibernation();
            x.append(words[0], words[1], words[2], words[3], words[4]);
            check.due("runScript()", x.runScript(), -1);
            check.due("scriptErrorOffset()", x.scriptErrorOffset(), first + place);
        }
    }

    private static void fullBuffer(Check check) {
        ClipHibernation x = new ClipHibernation();
        for (int length = 20; length <= 600; length += 20) {
            check.due("append to " + length, x.append(SPACES, SPACES, SPACES, SPACES, SPACES), length);
        }
        Twins.changesNothing(check, "append to 620", ChangeEdges::fullOfSpaces, y -> y.append(-1, -1, -1, -1, -1));
        check.due("append to 620", x.append(1, 2, 3, 4, 5), -1);
        x.truncateInput(581);
        check.due("append to 601", x.append(1, 2, 3, 4, 5), -1);
        check.due("truncateInput(581) after it", x.truncateInput(581), 581);
        x.truncateInput(580);
        check.due("append to 600", x.append(SPACES, SPACES, SPACES, SPACES, SPACES), 600);
        check.due("runScript()", x.runScript(), -1);
        check.due("scriptErrorOffset() behind 600 spaces", x.scriptErrorOffset(), 600);
    }

    private static ClipHibernation fullOfSpaces() {
        ClipHibernation x = new ClipHibernation();
        Typed.type(x, " ".repeat(600));
        return x;
    }

    private static void shortens(Check check) {
        ClipHibernation x = new ClipHibernation();
        Typed.type(x, "archive;clip 123;xyz");
        x.truncateInput(17);
        check.due("runScript() of the first 17 bytes", x.runScript(), 1);
        Typed.type(x, "archive;clip 123;xyz");
        x.truncateInput(18);
        check.due("runScript() of the first 18 bytes", x.runScript(), -1);
        check.due("scriptErrorOffset()", x.scriptErrorOffset(), 17);
        Typed.type(x, "xxxxxxxxxxxxxxxxxxxx");
        x.truncateInput(0);
        x.append(0x61726368, 0x6976653B, SPACES, SPACES, SPACES);
        check.due("runScript() of what was put in its place", x.runScript(), 0);
    }

    private static void goodLengths(Check check) {
        ClipHibernation x = fullOfSpaces();
        for (int length : new int[] {600, 599, 599, 1, 0, 0}) {
            check.due("truncateInput(" + length + ")", x.truncateInput(length), length);
        }
    }

    private static void truncateAnswers(Check check) {
        ClipHibernation x = fullOfSpaces();
        for (int length = 600; length >= 0; length -= 75) {
            check.due("truncateInput(" + length + ")", x.truncateInput(length), length);
        }
    }

    private static void badLengths(Check check) {
        Wrong.Call truncate = (x, number) -> x.truncateInput(number);
        Wrong.refuses(check, "truncateInput", Wrong.BAD, ClipHibernation::new, truncate, Wrong.LEAST, -1, 1, 600, Wrong.GREATEST);
        Wrong.refuses(check, "truncateInput of 16 bytes", Wrong.BAD, Made::rich, truncate, -1, 17, 600);
        Wrong.refuses(check, "truncateInput of 600 bytes", Wrong.BAD, ChangeEdges::fullOfSpaces, truncate, -1, 601);
    }

    // promises 5 to 7

    private static void goodColours(Check check) {
        ClipHibernation x = Made.empty();
        int[] good = {1, 9, 11, 99, 111, 9999, 99999, 111111, 9999999, 11111111, 99999999};
        for (int clip = 0; clip < good.length; clip++) {
            check.due("addClip(" + good[clip] + ")", x.addClip(good[clip]), clip);
            check.due("colours(" + clip + ")", x.colours(clip), good[clip]);
        }
    }

    private static void numbersOfClips(Check check) {
        check.due("addClip(1) as the first", Made.empty().addClip(1), 0);
        check.due("addClip(1) as the sixth", new ClipHibernation().addClip(1), 5);
        check.due("addClip(1) as the twelfth", Typed.made("archive;repeat 11(clip 1;);").addClip(1), 11);
    }

    private static void badColours(Check check) {
        Wrong.Call add = (x, number) -> x.addClip(number);
        Wrong.refuses(check, "addClip", Wrong.BAD, Made::rich, add, Wrong.LEAST, -12345678, -1, 0, 10, 20, 90, 100, 101, 190,
                1011, 10111111, 11111101, 11111110, 99999990, 100000000, 111111111, 999999999, 1111111111, Wrong.GREATEST);
        Wrong.refuses(check, "addClip without clips", Wrong.BAD, Made::empty, add, 0, 111111111);
    }

    private static void thirteenthClip(Check check) {
        Twins.refuses(check, "addClip(1) of 12", Wrong.REFUSED, Made::full, x -> x.addClip(1));
        Twins.refuses(check, "addClip(99999999) of 12", Wrong.REFUSED, Made::full, x -> x.addClip(99999999));
        check.due("addClip(1) of 11", Typed.made("archive;repeat 11(clip 1;);").addClip(1), 11);
        Twins.refuses(check, "addClip(1) of 12 faded", Wrong.REFUSED, () -> Typed.made("archive;repeat 12(clip 1;);weeks 50;"),
                x -> x.addClip(1));
    }

    private static void goodBeds(Check check) {
        ClipHibernation x = Made.empty();
        for (int beds : new int[] {1, 9, 2, 8}) {
            check.due("bedCount of " + beds, x.bedCount(x.addReel(beds)), beds);
        }
    }

    private static void numbersOfReels(Check check) {
        ClipHibernation x = Made.empty();
        for (int reel = 0; reel < 4; reel++) {
            check.due("addReel(9)", x.addReel(9), reel);
        }
        check.due("addReel(1) as the third", new ClipHibernation().addReel(1), 2);
    }

    private static void fifthReel(Check check) {
        Twins.refuses(check, "addReel(1) of 4", Wrong.REFUSED, Made::full, x -> x.addReel(1));
        Twins.refuses(check, "addReel(9) of 4", Wrong.REFUSED, Made::full, x -> x.addReel(9));
        check.due("addReel(1) of 3", Typed.made("archive;repeat 3(reel 9;);").addReel(1), 3);
    }

    private static void goodLimits(Check check) {
        ClipHibernation x = Made.empty();
        for (int limit : new int[] {1, 9, 2, 8}) {
            check.due("springs with limit " + limit, x.springs(x.addScene(limit)), limit);
        }
    }

    private static void numbersOfScenes(Check check) {
        ClipHibernation x = Made.empty();
        for (int scene = 0; scene < 5; scene++) {
            check.due("addScene(9)", x.addScene(9), scene);
        }
        check.due("addScene(1) as the third", new ClipHibernation().addScene(1), 2);
    }

    private static void sixthScene(Check check) {
        Twins.refuses(check, "addScene(1) of 5", Wrong.REFUSED, Made::full, x -> x.addScene(1));
        Twins.refuses(check, "addScene(9) of 5", Wrong.REFUSED, Made::full, x -> x.addScene(9));
        check.due("addScene(1) of 4", Typed.made("archive;repeat 4(scene 9;);").addScene(1), 4);
    }

    // promises 8 and 9

    private static void goesToSleep(Check check) {
        ClipHibernation x = Made.crowd(0, 9, "");
        x.sleep(0, 0);
        check.due("state(0)", x.state(0), ClipHibernation.ASLEEP);
        check.due("state(1)", x.state(1), ClipHibernation.AWAKE);
        check.due("sleepers(0)", x.sleepers(0), 1);
        check.due("fat(0)", x.fat(0), 40);
    }

    private static void sleepOfEachClip(Check check) {
        ClipHibernation x = Made.full();
        for (int clip : new int[] {0, 11, 1, 10}) {
            x.sleep(clip, 0);
            check.due("reelOf(" + clip + ")", x.reelOf(clip), 0);
        }
    }

    private static void sleepInEachReel(Check check) {
        ClipHibernation x = Made.full();
        for (int reel : new int[] {0, 3, 1, 2}) {
            x.sleep(reel, reel);
            check.due("reelOf(" + reel + ")", x.reelOf(reel), reel);
        }
    }

    private static void bedsOfSleep(Check check) {
        ClipHibernation x = Typed.made("archive;repeat 12(clip 7;);reel 9;reel 1;");
        for (int bed : new int[] {7, 8, 0, 1, 2, 3, 4, 5, 6}) {
            check.due("sleep(" + bed + ", 0)", x.sleep(bed, 0), bed);
        }
        check.due("sleep(11, 1) in the only bed", x.sleep(11, 1), 0);
        x.wake(3);
        check.due("sleep(10, 0) in the bed that was left", x.sleep(10, 0), 3);
    }

    private static void sleepOfNobody(Check check) {
        Wrong.clip(check, "sleep of a clip", (x, number) -> x.sleep(number, 0));
        Wrong.reel(check, "sleep in a reel", (x, number) -> x.sleep(0, number));
        Twins.refuses(check, "sleep(5, 2)", Wrong.NO_SUCH, Made::rich, x -> x.sleep(5, 2));
    }

    private static void sleepRefused(Check check) {
        Twins.refuses(check, "sleep(0, 1) asleep", Wrong.REFUSED, Made::rich, x -> x.sleep(0, 1));
        Twins.refuses(check, "sleep(0, 0) asleep there", Wrong.REFUSED, Made::rich, x -> x.sleep(0, 0));
        Twins.refuses(check, "sleep(1, 0) faded", Wrong.REFUSED, () -> Made.crowd(0, 9, "weeks 10;"), x -> x.sleep(1, 0));
        Twins.refuses(check, "sleep(1, 0) with fat 8", Wrong.REFUSED, () -> Made.crowd(0, 9, "weeks 8;"), x -> x.sleep(1, 0));
        check.due("sleep(1, 0) with fat 12", Made.crowd(0, 9, "weeks 7;").sleep(1, 0), 1);
        Twins.refuses(check, "sleep(9, 0) without a bed", Wrong.REFUSED, () -> Made.crowd(9, 9, ""), x -> x.sleep(9, 0));
        Twins.refuses(check, "sleep(1, 0) without the bed", Wrong.REFUSED, () -> Made.crowd(1, 1, ""), x -> x.sleep(1, 0));
        check.due("sleep(8, 0) in the last bed", Made.crowd(8, 9, "").sleep(8, 0), 0);
    }

    private static void wakes(Check check) {
        ClipHibernation x = Made.crowd(9, 9, "");
        x.wake(8);
        check.due("state(8)", x.state(8), ClipHibernation.AWAKE);
        check.due("bed(0, 0)", x.bed(0, 0), ClipHibernation.WARM);
        check.due("sleepers(0)", x.sleepers(0), 255);
        check.due("wakings()", x.wakings(), 0);
        check.due("wake(0) with fat 1", Made.crowd(1, 1, "weeks 39;").wake(0), 0);
    }

    private static void sceneAfterWaking(Check check) {
        ClipHibernation x = Made.crowd(2, 2, "scene 1;scene 1;cut 1 1;sleep 1 0;");
        x.wake(0);
        x.wake(1);
        check.due("sceneOf(0) that no cut woke", x.sceneOf(0), -1);
        check.due("sceneOf(1) that a cut woke", x.sceneOf(1), 1);
    }

    private static void wakeOfEachClip(Check check) {
        ClipHibernation x = Typed.made("archive;repeat 12(clip 1;);reel 9;sleep 0 0;sleep 11 0;");
        check.due("wake(0)", x.wake(0), 0);
        check.due("wake(11)", x.wake(11), 0);
        check.due("sleepers(0)", x.sleepers(0), 0);
    }

    private static void reelsOfWake(Check check) {
        ClipHibernation x = Made.full();
        for (int reel = 0; reel < 4; reel++) {
            x.sleep(11 - reel, reel);
        }
        for (int reel = 0; reel < 4; reel++) {
            check.due("wake(" + (11 - reel) + ")", x.wake(11 - reel), reel);
        }
    }

    private static void wakeRefused(Check check) {
        Twins.refuses(check, "wake(1) awake", Wrong.REFUSED, Made::rich, x -> x.wake(1));
        Twins.refuses(check, "wake(0) woken before", Wrong.REFUSED, () -> Made.crowd(1, 1, "wake 0;"), x -> x.wake(0));
        Twins.refuses(check, "wake(0) faded asleep", Wrong.REFUSED, () -> Made.crowd(1, 1, "weeks 40;"), x -> x.wake(0));
        Twins.refuses(check, "wake(1) faded awake", Wrong.REFUSED, () -> Made.crowd(1, 1, "weeks 10;"), x -> x.wake(1));
    }

    // promises 10 and 11

    private static void cuts(Check check) {
        ClipHibernation x = Made.crowd(2, 2, "scene 2;");
        x.cut(0, 1);
        for (int clip = 0; clip < 2; clip++) {
            check.due("state(" + clip + ")", x.state(clip), ClipHibernation.AWAKE);
            check.due("sceneOf(" + clip + ")", x.sceneOf(clip), 0);
            check.due("bed(0, " + clip + ")", x.bed(0, clip), ClipHibernation.WARM);
        }
        check.due("springs(0)", x.springs(0), 0);
        check.due("wakings()", x.wakings(), 2);
    }

    private static void cutOfEachScene(Check check) {
        ClipHibernation x = Made.crowd(9, 9, "repeat 5(scene 1;);");
        for (int scene = 0; scene < 5; scene++) {
            check.due("clips woken by scene " + scene, Integer.bitCount(x.cut(scene, 1)), 1);
            check.due("springs(" + scene + ")", x.springs(scene), 0);
        }
    }

    private static void patternsOfACut(Check check) {
        ClipHibernation x = Typed.made("archive;clip 1;clip 9999;clip 9998;reel 3;scene 9;sleep 0 0;sleep 1 0;sleep 2 0;");
        check.due("cut(0, 1)", x.cut(0, 1), 1);
        check.due("cut(0, 9999)", x.cut(0, 9999), 2);
        check.due("cut(0, 9000)", x.cut(0, 9000), 4);
    }

    private static void setsOfACut(Check check) {
        ClipHibernation x = Made.full();
        for (int clip = 0; clip < 12; clip++) {
            x.sleep(clip, clip < 6 ? 1 : 3);
        }
        check.due("cut(0, 1) of nobody", x.cut(0, 1), 0);
        check.due("cut(0, 9) of nine", Integer.bitCount(x.cut(0, 9)), 9);
        check.due("sleepers(1)", x.sleepers(1), 0);
        check.due("sleepers(3)", Integer.bitCount(x.sleepers(3)), 3);
        check.due("cut(1, 9) of the rest", Integer.bitCount(x.cut(1, 9)), 3);
        check.due("cut(1, 9) of nobody", x.cut(1, 9), 0);
        ClipHibernation all = Made.full();
        all.sleep(11, 3);
        check.due("cut(4, 9) of clip 11", all.cut(4, 9), 2048);
        all.sleep(0, 0);
        check.due("cut(4, 9) of clip 0", all.cut(4, 9), 1);
    }

    private static void airs(Check check) {
        ClipHibernation x = Made.crowd(9, 9, "wake 0;wake 1;wake 2;wake 3;wake 4;wake 5;wake 6;wake 7;");
        check.due("bedOf(8)", x.bedOf(8), 0);
        x.air(0);
        check.due("bedOf(8) in its home", x.bedOf(8), 1);
        for (int bed = 0; bed < 9; bed++) {
            check.due("bed(0, " + bed + ")", x.bed(0, bed), bed == 1 ? 8 : ClipHibernation.COLD);
        }
    }

    private static void airOfEachReel(Check check) {
        ClipHibernation x = Made.full();
        for (int reel : new int[] {0, 3}) {
            x.sleep(reel, reel);
            x.wake(reel);
            check.due("longestCluster(" + reel + ")", x.longestCluster(reel), 1);
            check.due("air(" + reel + ")", x.air(reel), 1);
            check.due("longestCluster(" + reel + ")", x.longestCluster(reel), 0);
        }
    }

    private static void warmBedsOfAir(Check check) {
        check.due("air(0) of COLD beds", Made.crowd(0, 9, "").air(0), 0);
        check.due("air(0) of sleepers", Made.crowd(9, 9, "").air(0), 0);
        check.due("air(0) of one WARM bed", Made.crowd(1, 9, "wake 0;").air(0), 1);
        check.due("air(0) of nine WARM beds", Made.crowd(9, 9, "weeks 40;").air(0), 9);
        check.due("air(0) of one WARM bed of one", Made.crowd(1, 1, "wake 0;").air(0), 1);
    }

    // promises 12 and 13

    private static void feeds(Check check) {
        ClipHibernation x = Made.crowd(0, 1, "");
        x.feed(0, 1);
        check.due("fat(0)", x.fat(0), 41);
        check.due("food()", x.food(), 99);
        x.feed(1, 50);
        check.due("fat(1)", x.fat(1), 90);
        check.due("food()", x.food(), 49);
        check.due("fat(2)", x.fat(2), 40);
    }

    private static void feedOfEachClip(Check check) {
        ClipHibernation x = Made.full();
        check.due("feed(0, 1)", x.feed(0, 1), 41);
        check.due("feed(11, 2)", x.feed(11, 2), 42);
    }

    private static void goodMeals(Check check) {
        check.due("feed(0, 1)", Made.full().feed(0, 1), 41);
        check.due("feed(0, 2)", Made.full().feed(0, 2), 42);
        check.due("feed(0, 49)", Made.full().feed(0, 49), 89);
        check.due("feed(0, 50)", Made.full().feed(0, 50), 90);
    }

    private static void feedAnswers(Check check) {
        ClipHibernation x = Made.full();
        check.due("feed(0, 50)", x.feed(0, 50), 90);
        check.due("feed(0, 9)", x.feed(0, 9), 99);
        ClipHibernation thin = Typed.made("archive;clip 1;weeks 9;");
        check.due("feed(0, 1) at fat 4", thin.feed(0, 1), 5);
    }

    private static void feedNotAwake(Check check) {
        Twins.refuses(check, "feed(0, 1) asleep", Wrong.REFUSED, Made::rich, x -> x.feed(0, 1));
        Twins.refuses(check, "feed(0, 1) faded", Wrong.REFUSED, () -> Made.crowd(0, 1, "weeks 10;"), x -> x.feed(0, 1));
        check.due("feed(0, 1) woken", Made.crowd(1, 1, "wake 0;").feed(0, 1), 41);
    }

    private static void feedTooMuchFood(Check check) {
        String script = "archive;clip 1;clip 1;clip 1;feed 0 50;feed 1 49;";
        check.due("feed(2, 1) of food 1", Typed.made(script).feed(2, 1), 41);
        Twins.refuses(check, "feed(2, 2) of food 1", Wrong.REFUSED, () -> Typed.made(script), x -> x.feed(2, 2));
        Twins.refuses(check, "feed(2, 1) of food 0", Wrong.REFUSED, () -> Typed.made(script + "feed 2 1;"), x -> x.feed(2, 1));
        String fifty = "archive;clip 1;clip 1;feed 0 50;";
        check.due("feed(1, 50) of food 50", Typed.made(fifty).feed(1, 50), 90);
        Twins.refuses(check, "feed(1, 50) of food 49", Wrong.REFUSED, () -> Typed.made(fifty + "feed 1 1;"), x -> x.feed(1, 50));
    }

    private static void feedTooFat(Check check) {
        String script = "archive;clip 1;food 99;feed 0 49;";
        check.due("feed(0, 10) to fat 99", Typed.made(script).feed(0, 10), 99);
        Twins.refuses(check, "feed(0, 11) to fat 100", Wrong.REFUSED, () -> Typed.made(script), x -> x.feed(0, 11));
        Twins.refuses(check, "feed(0, 50) to fat 139", Wrong.REFUSED, () -> Typed.made(script), x -> x.feed(0, 50));
        Twins.refuses(check, "feed(0, 1) to fat 100", Wrong.REFUSED, () -> Typed.made(script + "feed 0 10;"), x -> x.feed(0, 1));
    }

    private static void goodFood(Check check) {
        check.due("addFood(1)", Made.empty().addFood(1), 101);
        check.due("addFood(2)", Made.empty().addFood(2), 102);
        check.due("addFood(998)", Made.empty().addFood(998), 1098);
        check.due("addFood(999)", Made.empty().addFood(999), 1099);
    }

    private static void addFoodAnswers(Check check) {
        ClipHibernation x = Made.empty();
        check.due("addFood(999)", x.addFood(999), 1099);
        check.due("addFood(1)", x.addFood(1), 1100);
        check.due("food()", x.food(), 1100);
    }

    private static void tooMuchFood(Check check) {
        String script = "archive;repeat 9(food 999;);food 900;";
        check.due("food()", Typed.made(script).food(), 9991);
        check.due("addFood(7) to 9998", Typed.made(script).addFood(7), 9998);
        check.due("addFood(8) to 9999", Typed.made(script).addFood(8), 9999);
        Twins.refuses(check, "addFood(9) to 10000", Wrong.REFUSED, () -> Typed.made(script), x -> x.addFood(9));
        Twins.refuses(check, "addFood(999) to 10990", Wrong.REFUSED, () -> Typed.made(script), x -> x.addFood(999));
        Twins.refuses(check, "addFood(1) to 10000", Wrong.REFUSED, () -> Typed.made(script + "food 8;"), x -> x.addFood(1));
    }

    // promises 14 and 15

    private static void paints(Check check) {
        ClipHibernation x = Typed.made("archive;clip 12345678;clip 1;");
        x.paint(0, 3, 9);
        check.due("colours(0)", x.colours(0), 12395678);
        check.due("length(0)", x.length(0), 8);
        check.due("colours(1)", x.colours(1), 1);
    }

    private static void paintOfEachClip(Check check) {
        ClipHibernation x = Made.full();
        x.paint(0, 0, 1);
        x.paint(11, 0, 2);
        check.due("colours(0)", x.colours(0), 19999999);
        check.due("colours(11)", x.colours(11), 29999999);
        check.due("colours(1)", x.colours(1), 99999999);
    }

    private static void paintOfEachColour(Check check) {
        ClipHibernation x = Typed.made("archive;clip 99999999;clip 9;");
        x.paint(0, 0, 1);
        check.due("colours(0) with index 0", x.colours(0), 19999999);
        x.paint(0, 7, 1);
        check.due("colours(0) with index 7", x.colours(0), 19999991);
        x.paint(1, 0, 1);
        check.due("colours(1) with index 0", x.colours(1), 1);
    }

    private static void goodPaint(Check check) {
        ClipHibernation x = Typed.made("archive;clip 5;");
        for (int colour = 1; colour <= 9; colour++) {
            check.due("paint(0, 0, " + colour + ")", x.paint(0, 0, colour), colour);
            check.due("colours(0)", x.colours(0), colour);
        }
    }

    private static void paintAnswers(Check check) {
        ClipHibernation x = Typed.made("archive;clip 111;clip 7;");
        check.due("paint(0, 2, 4) to 114", x.paint(0, 2, 4), 996);
        check.due("paint(0, 2, 5) to 115", x.paint(0, 2, 5), 0);
        check.due("paint(0, 2, 6) to 116", x.paint(0, 2, 6), 1);
        check.due("paint(1, 0, 7) to the same", x.paint(1, 0, 7), 7);
        check.due("hash(0)", x.hash(0), 1);
    }

    private static void noSuchColour(Check check) {
        Wrong.refuses(check, "paint of four colours", Wrong.NO_SUCH, Made::rich, (x, number) -> x.paint(1, number, 1),
                Wrong.LEAST, -1, 4, 5, 7, 8, Wrong.GREATEST);
        Wrong.refuses(check, "paint of one colour", Wrong.NO_SUCH, Made::rich, (x, number) -> x.paint(4, number, 1), -1, 1, 8);
        Wrong.refuses(check, "paint of eight colours", Wrong.NO_SUCH, Made::full, (x, number) -> x.paint(11, number, 1), -1, 8);
    }

    private static void paintRefused(Check check) {
        Twins.refuses(check, "paint(0, 0, 9) asleep", Wrong.REFUSED, Made::rich, x -> x.paint(0, 0, 9));
        Twins.refuses(check, "paint(0, 0, 9) faded", Wrong.REFUSED, () -> Made.crowd(0, 1, "weeks 10;"), x -> x.paint(0, 0, 9));
        check.due("paint(0, 0, 9) woken", Made.crowd(1, 1, "wake 0;").paint(0, 0, 9), 9);
        check.due("paint(0, 0, 9) with fat 4", Made.crowd(0, 1, "weeks 9;").paint(0, 0, 9), 9);
    }

    private static void goodWeeks(Check check) {
        for (int weeks : new int[] {1, 2, 49, 50}) {
            ClipHibernation x = Made.empty();
            check.due("passWeeks(" + weeks + ")", x.passWeeks(weeks), 0);
            check.due("week()", x.week(), weeks);
        }
    }

    private static void passWeeksAnswers(Check check) {
        check.due("passWeeks(9) of twelve awake", Made.crowd(0, 1, "").passWeeks(9), 0);
        check.due("passWeeks(10) of twelve awake", Made.crowd(0, 1, "").passWeeks(10), 12);
        check.due("passWeeks(39) of nine asleep", Made.crowd(9, 9, "").passWeeks(39), 3);
        check.due("passWeeks(40) of nine asleep", Made.crowd(9, 9, "").passWeeks(40), 12);
        check.due("passWeeks(50) of the faded", Made.crowd(9, 9, "weeks 40;").passWeeks(50), 0);
        check.due("passWeeks(1) of the faded and the fading", Made.crowd(9, 9, "weeks 39;").passWeeks(1), 9);
    }

    private static void tooManyWeeks(Check check) {
        String script = "archive;clip 1;repeat 19(weeks 50;);";
        check.due("passWeeks(49) to 999", Typed.made(script).passWeeks(49), 0);
        Twins.refuses(check, "passWeeks(50) to 1000", Wrong.REFUSED, () -> Typed.made(script), x -> x.passWeeks(50));
        check.due("passWeeks(1) to 999", Typed.made(script + "weeks 48;").passWeeks(1), 0);
        Twins.refuses(check, "passWeeks(2) to 1000", Wrong.REFUSED, () -> Typed.made(script + "weeks 48;"), x -> x.passWeeks(2));
        Twins.refuses(check, "passWeeks(1) to 1000", Wrong.REFUSED, () -> Typed.made(script + "weeks 49;"), x -> x.passWeeks(1));
        Twins.refuses(check, "passWeeks(50) to 1049", Wrong.REFUSED, () -> Typed.made(script + "weeks 49;"), x -> x.passWeeks(50));
    }
}
