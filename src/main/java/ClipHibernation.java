import java.util.NoSuchElementException;

/**
 * An archive in which film clips hibernate. The document ../shared/DOC.md says what each call
 * promises.
 */
public final class ClipHibernation {
    public static final int NONE = -1;
    public static final int AWAKE = 0, ASLEEP = 1, FADED = 2;
    public static final int COLD = -1, WARM = -2;
    public static final int ALLOWED = 0, NOT_AWAKE = 1, TOO_THIN = 2, NO_BED = 3;

    private static final int MOST_CLIPS = 12;
    private static final int MOST_COLOURS = 8;
    private static final int GREATEST_COLOUR = 9;
    private static final int MOST_REELS = 4;
    private static final int MOST_BEDS = 9;
    private static final int MOST_SCENES = 5;
    private static final int GREATEST_LIMIT = 9;
    private static final int GREATEST_PATTERN = 9999;
    private static final int MOST_DIGITS = 4;
    private static final int HASH_FACTOR = 31;
    private static final int HASH_MODULUS = 997;
    private static final int FIRST_FAT = 40;
    private static final int GREATEST_FAT = 99;
    private static final int THINNEST_SLEEPER = 10;
    private static final int WEEK_ASLEEP = 1;
    private static final int WEEK_AWAKE = 4;
    private static final int GREATEST_MEAL = 50;
    private static final int FIRST_FOOD = 100;
    private static final int GREATEST_FOOD = 9999;
    private static final int GREATEST_DELIVERY = 999;
    private static final int LAST_WEEK = 999;
    private static final int MOST_WEEKS_AT_ONCE = 50;
    private static final int MOST_INPUT = 600;
    private static final int APPENDED_BYTES = 20;
    private static final int MOST_UNDONE = 8;
    private static final int MOST_REPORT = MOST_BEDS * (MOST_COLOURS + 1);

    private static final String FIRST_SCRIPT =
            "archive; clip 123; clip 3214; clip 44; clip 12345678; clip 9; reel 3; reel 5; scene 2; scene 1; sleep 0 0; sleep 1 0; sleep 2 1; sleep 3 1; weeks 2; cut 1 30; feed 4 20;";

    private final Archive now = new Archive();
    private final Archive trial = new Archive();
    private final Archive snapshot = new Archive();
    private boolean snapshotSaved;
    private final Archive[] past = new Archive[MOST_UNDONE];
    private int pastCount;
    private int pastEnd;
    private final Script script = new Script();
    private final byte[] report = new byte[MOST_REPORT];
    private int reportLength;

    public ClipHibernation() {
        for (int slot = 0; slot < MOST_UNDONE; slot++) {
            past[slot] = new Archive();
        }
        script.text.addSigns(FIRST_SCRIPT);
        script.run();
        now.copyFrom(script.archive);
    }

    // ---- input

    public int append(int a, int b, int c, int d, int e) {
        if (script.text.size + APPENDED_BYTES > MOST_INPUT) {
            return NONE;
        }
        script.text.addFour(a);
        script.text.addFour(b);
        script.text.addFour(c);
        script.text.addFour(d);
        script.text.addFour(e);
        return script.text.size;
    }

    public int truncateInput(int length) throws IllegalArgumentException {
        if (length < 0 || length > script.text.size) {
            throw new IllegalArgumentException("no such length of the input");
        }
        script.text.size = length;
        return length;
    }

    // ---- changes

    public int runScript() {
        script.run();
        if (script.errorKind != 0) {
            return NONE;
        }
        remember();
        now.copyFrom(script.archive);
        return now.clipCount;
    }

    public int addClip(int colours) throws IllegalArgumentException, IllegalStateException {
        if (!Archive.areColours(colours)) {
            throw new IllegalArgumentException("these are no colours");
        }
        refuseIf(!now.hasRoomForClip());
        remember();
        return now.putClip(colours);
    }

    public int addReel(int beds) throws IllegalArgumentException, IllegalStateException {
        needRange(beds, 1, MOST_BEDS);
        refuseIf(!now.hasRoomForReel());
        remember();
        return now.putReel(beds);
    }

    public int addScene(int limit) throws IllegalArgumentException, IllegalStateException {
        needRange(limit, 1, GREATEST_LIMIT);
        refuseIf(!now.hasRoomForScene());
        remember();
        return now.putScene(limit);
    }

    public int sleep(int clip, int reel) throws IndexOutOfBoundsException, IllegalStateException {
        needClip(clip);
        needReel(reel);
        refuseIf(now.refusal(clip, reel) != ALLOWED);
        remember();
        return now.layDown(clip, reel);
    }

    public int wake(int clip) throws IndexOutOfBoundsException, IllegalStateException {
        needClip(clip);
        refuseIf(now.states[clip] != ASLEEP);
        remember();
        return now.rouse(clip);
    }

    public int cut(int scene, int pattern) throws IndexOutOfBoundsException, IllegalArgumentException {
        needScene(scene);
        needPattern(pattern);
        remember();
        return now.cutScene(scene, pattern);
    }

    public int air(int reel) throws IndexOutOfBoundsException {
        needReel(reel);
        remember();
        return now.airReel(reel);
    }

    public int feed(int clip, int fat)
            throws IndexOutOfBoundsException, IllegalArgumentException, IllegalStateException {
        needClip(clip);
        needRange(fat, 1, GREATEST_MEAL);
        refuseIf(!now.mayFeed(clip, fat));
        remember();
        return now.feedClip(clip, fat);
    }

    public int addFood(int food) throws IllegalArgumentException, IllegalStateException {
        needRange(food, 1, GREATEST_DELIVERY);
        refuseIf(!now.mayStore(food));
        remember();
        return now.store(food);
    }

    public int paint(int clip, int index, int colour)
            throws IndexOutOfBoundsException, IllegalArgumentException, IllegalStateException {
        needClip(clip);
        if (index < 0 || index >= now.lengths[clip]) {
            throw new IndexOutOfBoundsException("the clip has no such colour");
        }
        needRange(colour, 1, GREATEST_COLOUR);
        refuseIf(now.states[clip] != AWAKE);
        remember();
        return now.paintClip(clip, index, colour);
    }

    public int passWeeks(int weeks) throws IllegalArgumentException, IllegalStateException {
        needRange(weeks, 1, MOST_WEEKS_AT_ONCE);
        refuseIf(!now.mayPass(weeks));
        remember();
        return now.pass(weeks);
    }

    // ---- undo and the snapshot

    public int undo() {
        if (pastCount == 0) {
            return NONE;
        }
        pastEnd = (pastEnd + MOST_UNDONE - 1) % MOST_UNDONE;
        pastCount--;
        Archive earlier = past[pastEnd];
        if (earlier != null) {
            now.copyFrom(earlier);
        }
        return pastCount;
    }

    public int undoCount() {
        return pastCount;
    }

    public int saveSnapshot() {
        snapshot.copyFrom(now);
        snapshotSaved = true;
        return now.week;
    }

    public int restoreSnapshot() throws NoSuchElementException {
        if (!snapshotSaved) {
            throw new NoSuchElementException("no snapshot was saved");
        }
        now.copyFrom(snapshot);
        pastCount = 0;
        return now.week;
    }

    // ---- the script error

    public int scriptErrorKind() {
        return script.errorKind;
    }

    public int scriptErrorOffset() {
        return script.errorOffset;
    }

    // ---- the archive

    public int week() {
        return now.week;
    }

    public int food() {
        return now.food;
    }

    public int clipCount() {
        return now.clipCount;
    }

    public int reelCount() {
        return now.reelCount;
    }

    public int sceneCount() {
        return now.sceneCount;
    }

    public int springs(int scene) throws IndexOutOfBoundsException {
        needScene(scene);
        return now.springs[scene];
    }

    // ---- clips

    public int state(int clip) throws IndexOutOfBoundsException {
        needClip(clip);
        return now.states[clip];
    }

    public int colours(int clip) throws IndexOutOfBoundsException {
        needClip(clip);
        return now.coloursOf(clip);
    }

    public int length(int clip) throws IndexOutOfBoundsException {
        needClip(clip);
        return now.lengths[clip];
    }

    public int hash(int clip) throws IndexOutOfBoundsException {
        needClip(clip);
        return now.hashes[clip];
    }

    public int fat(int clip) throws IndexOutOfBoundsException {
        needClip(clip);
        return now.fats[clip];
    }

    public int reelOf(int clip) throws IndexOutOfBoundsException {
        needClip(clip);
        int place = now.placeOf(clip);
        return place == NONE ? NONE : place / MOST_BEDS;
    }

    public int bedOf(int clip) throws IndexOutOfBoundsException {
        needClip(clip);
        int place = now.placeOf(clip);
        return place == NONE ? NONE : place % MOST_BEDS;
    }

    public int sceneOf(int clip) throws IndexOutOfBoundsException {
        needClip(clip);
        return now.scenes[clip];
    }

    public int commonRun(int clip, int other) throws IndexOutOfBoundsException {
        needClip(clip);
        needClip(other);
        return now.sharedRun(clip, other);
    }

    public int nearestClip(int clip) throws IndexOutOfBoundsException {
        needClip(clip);
        return now.nearestTo(clip);
    }

    public int twinsOf(int clip) throws IndexOutOfBoundsException {
        needClip(clip);
        return now.sameHash(clip);
    }

    public int weeksToFade(int clip) throws IndexOutOfBoundsException {
        needClip(clip);
        return now.weeksLeft(clip);
    }

    // ---- beds

    public int bedCount(int reel) throws IndexOutOfBoundsException {
        needReel(reel);
        return now.bedCounts[reel];
    }

    public int bed(int reel, int bed) throws IndexOutOfBoundsException {
        needReel(reel);
        if (bed < 0 || bed >= now.bedCounts[reel]) {
            throw new IndexOutOfBoundsException("the reel has no such bed");
        }
        return now.inBed(reel, bed);
    }

    public int sleepers(int reel) throws IndexOutOfBoundsException {
        needReel(reel);
        return now.sleepersIn(reel);
    }

    public int home(int clip, int reel) throws IndexOutOfBoundsException {
        needClip(clip);
        needReel(reel);
        return now.homeOf(clip, reel);
    }

    public int whyNoSleep(int clip, int reel) throws IndexOutOfBoundsException {
        needClip(clip);
        needReel(reel);
        return now.refusal(clip, reel);
    }

    public int bedFor(int clip, int reel) throws IndexOutOfBoundsException {
        needClip(clip);
        needReel(reel);
        if (now.refusal(clip, reel) != ALLOWED) {
            return NONE;
        }
        return now.wayBed(clip, reel, now.passedBeds(clip, reel));
    }

    public int looksFor(int clip, int reel) throws IndexOutOfBoundsException {
        needClip(clip);
        needReel(reel);
        return now.looks(clip, reel);
    }

    public int longestLook(int reel) throws IndexOutOfBoundsException {
        needReel(reel);
        return now.mostLooks(reel);
    }

    public int looksIfAired(int reel) throws IndexOutOfBoundsException {
        needReel(reel);
        trial.copyFrom(now);
        trial.airReel(reel);
        return trial.allLooks(reel);
    }

    public int longestCluster(int reel) throws IndexOutOfBoundsException {
        needReel(reel);
        return now.cluster(reel);
    }

    public int bestReel(int clip) throws IndexOutOfBoundsException {
        needClip(clip);
        return now.nearestReel(clip);
    }

    // ---- cuts

    public boolean matches(int clip, int pattern) throws IndexOutOfBoundsException, IllegalArgumentException {
        needClip(clip);
        needPattern(pattern);
        return now.findPattern(clip, pattern) != NONE;
    }

    public int matchingSleepers(int pattern) throws IllegalArgumentException {
        needPattern(pattern);
        return now.sleepersWith(pattern);
    }

    public int wokenBy(int scene, int pattern) throws IndexOutOfBoundsException, IllegalArgumentException {
        needScene(scene);
        needPattern(pattern);
        trial.copyFrom(now);
        return trial.cutScene(scene, pattern);
    }

    public int firstMatch(int clip, int pattern) throws IndexOutOfBoundsException, IllegalArgumentException {
        needClip(clip);
        needPattern(pattern);
        return now.findPattern(clip, pattern);
    }

    public int bestPattern(int clip) throws IndexOutOfBoundsException {
        needClip(clip);
        return now.ownPattern(clip);
    }

    // ---- accounts and checks

    public int burnedFat() {
        return now.burned;
    }

    public int wakings() {
        return now.wakings;
    }

    public int fadedClips() {
        return now.clipsInState(FADED);
    }

    public double meanFat() {
        int living = now.clipCount - Integer.bitCount(now.clipsInState(FADED));
        return living < 1 ? 0.0 : (double) now.allFat() / (double) living;
    }

    public float sleepShare() {
        int asleep = Integer.bitCount(now.clipsInState(ASLEEP));
        return now.clipCount < 1 ? 0.0f : (float) asleep / (float) now.clipCount;
    }

    public int violations() {
        return now.faults();
    }

    // ---- the report

    public int writeReel(int reel) throws IndexOutOfBoundsException {
        needReel(reel);
        reportLength = 0;
        for (int bed = 0; bed < now.bedCounts[reel]; bed++) {
            if (bed > 0) {
                putSign(' ');
            }
            reportBed(now.inBed(reel, bed));
        }
        return reportLength;
    }

    public int reportByte(int index) {
        if (index < 0 || index >= reportLength) {
            return NONE;
        }
        return report[index];
    }

    private void reportBed(int sleeper) {
        if (sleeper == COLD) {
            putSign('-');
        } else if (sleeper == WARM) {
            putSign('~');
        } else {
            for (int index = 0; index < now.lengths[sleeper]; index++) {
                putSign('0' + now.colourAt(sleeper, index));
            }
        }
    }

    private void putSign(int sign) {
        if (reportLength < MOST_REPORT) {
            report[reportLength] = (byte) sign;
            reportLength++;
        }
    }

    // ---- what the calls share

    private void remember() {
        Archive oldest = past[pastEnd];
        if (oldest != null) {
            oldest.copyFrom(now);
        }
        pastEnd = (pastEnd + 1) % MOST_UNDONE;
        pastCount = Math.min(pastCount + 1, MOST_UNDONE);
    }

    private void needClip(int clip) {
        if (clip < 0 || clip >= now.clipCount) {
            throw new IndexOutOfBoundsException("no such clip");
        }
    }

    private void needReel(int reel) {
        if (reel < 0 || reel >= now.reelCount) {
            throw new IndexOutOfBoundsException("no such reel");
        }
    }

    private void needScene(int scene) {
        if (scene < 0 || scene >= now.sceneCount) {
            throw new IndexOutOfBoundsException("no such scene");
        }
    }

    private void needPattern(int pattern) {
        needRange(pattern, 1, GREATEST_PATTERN);
    }

    private void needRange(int number, int least, int greatest) {
        if (number < least || number > greatest) {
            throw new IllegalArgumentException("out of range");
        }
    }

    private void refuseIf(boolean refused) {
        if (refused) {
            throw new IllegalStateException("refused");
        }
    }

    /**
     * Everything that undo restores. Its methods ask for numbers of clips, reels, beds and scenes
     * that exist; whoever calls has looked at them before. No count ever passes its MOST.
     */
    private static final class Archive {
        private int week;
        private int food;
        private int fed;
        private int burned;
        private int wakings;
        private int clipCount;
        private final int[] lengths = new int[MOST_CLIPS];
        private final int[] paints = new int[MOST_CLIPS * MOST_COLOURS];
        private final int[] hashes = new int[MOST_CLIPS];
        private final int[] states = new int[MOST_CLIPS];
        private final int[] fats = new int[MOST_CLIPS];
        private final int[] scenes = new int[MOST_CLIPS];
        private int reelCount;
        private final int[] bedCounts = new int[MOST_REELS];
        private final int[] beds = new int[MOST_REELS * MOST_BEDS];
        private int sceneCount;
        private final int[] limits = new int[MOST_SCENES];
        private final int[] springs = new int[MOST_SCENES];

        private void copyFrom(Archive other) {
            week = other.week;
            food = other.food;
            fed = other.fed;
            burned = other.burned;
            wakings = other.wakings;
            clipCount = other.clipCount;
            System.arraycopy(other.lengths, 0, lengths, 0, MOST_CLIPS);
            System.arraycopy(other.paints, 0, paints, 0, MOST_CLIPS * MOST_COLOURS);
            System.arraycopy(other.hashes, 0, hashes, 0, MOST_CLIPS);
            System.arraycopy(other.states, 0, states, 0, MOST_CLIPS);
            System.arraycopy(other.fats, 0, fats, 0, MOST_CLIPS);
            System.arraycopy(other.scenes, 0, scenes, 0, MOST_CLIPS);
            reelCount = other.reelCount;
            System.arraycopy(other.bedCounts, 0, bedCounts, 0, MOST_REELS);
            System.arraycopy(other.beds, 0, beds, 0, MOST_REELS * MOST_BEDS);
            sceneCount = other.sceneCount;
            System.arraycopy(other.limits, 0, limits, 0, MOST_SCENES);
            System.arraycopy(other.springs, 0, springs, 0, MOST_SCENES);
        }

        /** The rows keep old numbers: what is added later writes its own over them. */
        private void empty() {
            week = 0;
            food = FIRST_FOOD;
            fed = 0;
            burned = 0;
            wakings = 0;
            clipCount = 0;
            reelCount = 0;
            sceneCount = 0;
        }

        // -- adding

        private static boolean areColours(int number) {
            int rest = number;
            for (int digit = 0; digit < MOST_COLOURS; digit++) {
                if (rest < 1 || rest % 10 == 0) {
                    return false;
                }
                rest /= 10;
                if (rest == 0) {
                    return true;
                }
            }
            return false;
        }

        private boolean hasRoomForClip() {
            return clipCount < MOST_CLIPS;
        }

        private boolean hasRoomForReel() {
            return reelCount < MOST_REELS;
        }

        private boolean hasRoomForScene() {
            return sceneCount < MOST_SCENES;
        }

        private int putClip(int colours) {
            int clip = clipCount;
            clipCount++;
            lengths[clip] = digits(colours);
            int rest = colours;
            for (int index = lengths[clip] - 1; index >= 0; index--) {
                paints[clip * MOST_COLOURS + index] = rest % 10;
                rest /= 10;
            }
            states[clip] = AWAKE;
            fats[clip] = FIRST_FAT;
            scenes[clip] = NONE;
            renewHash(clip);
            return clip;
        }

        private int putReel(int count) {
            int reel = reelCount;
            reelCount++;
            bedCounts[reel] = count;
            for (int bed = 0; bed < count; bed++) {
                setBed(reel, bed, COLD);
            }
            return reel;
        }

        private int putScene(int limit) {
            int scene = sceneCount;
            sceneCount++;
            limits[scene] = limit;
            springs[scene] = limit;
            return scene;
        }

        // -- colours

        private static int digits(int number) {
            int count = 1;
            int rest = number / 10;
            while (rest > 0 && count < MOST_COLOURS) {
                count++;
                rest /= 10;
            }
            return count;
        }

        private int colourAt(int clip, int index) {
            return paints[clip * MOST_COLOURS + index];
        }

        private int coloursOf(int clip) {
            int number = 0;
            for (int index = 0; index < lengths[clip]; index++) {
                number = 10 * number + colourAt(clip, index);
            }
            return number;
        }

        private void renewHash(int clip) {
            int hash = 0;
            for (int index = 0; index < lengths[clip]; index++) {
                hash = (HASH_FACTOR * hash + colourAt(clip, index)) % HASH_MODULUS;
            }
            hashes[clip] = hash;
        }

        private int paintClip(int clip, int index, int colour) {
            paints[clip * MOST_COLOURS + index] = colour;
            renewHash(clip);
            return hashes[clip];
        }

        private int sharedRun(int clip, int other) {
            int longest = 0;
            for (int start = 0; start < lengths[clip]; start++) {
                for (int begin = 0; begin < lengths[other]; begin++) {
                    longest = Math.max(longest, runFrom(clip, start, other, begin));
                }
            }
            return longest;
        }

        private int runFrom(int clip, int start, int other, int begin) {
            int most = Math.min(lengths[clip] - start, lengths[other] - begin);
            int run = 0;
            while (run < most && colourAt(clip, start + run) == colourAt(other, begin + run)) {
                run++;
            }
            return run;
        }

        private int nearestTo(int clip) {
            int nearest = NONE;
            int longest = NONE;
            for (int other = 0; other < clipCount; other++) {
                int run = other == clip ? NONE : sharedRun(clip, other);
                if (run > longest) {
                    nearest = other;
                    longest = run;
                }
            }
            return nearest;
        }

        private int sameHash(int clip) {
            int set = 0;
            for (int other = 0; other < clipCount; other++) {
                if (other != clip && hashes[other] == hashes[clip]) {
                    set |= 1 << other;
                }
            }
            return set;
        }

        // -- patterns

        private int findPattern(int clip, int pattern) {
            int count = digits(pattern);
            for (int start = 0; start + count <= lengths[clip]; start++) {
                if (matchesAt(clip, start + count, pattern)) {
                    return start;
                }
            }
            return NONE;
        }

        /** Compares backwards from the colour before end, since a number shows its last digit first. */
        private boolean matchesAt(int clip, int end, int pattern) {
            int rest = pattern;
            for (int index = end - 1; index >= 0 && rest > 0; index--) {
                int digit = rest % 10;
                if (digit != 0 && digit != colourAt(clip, index)) {
                    return false;
                }
                rest /= 10;
            }
            return true;
        }

        private int sleepersWith(int pattern) {
            int set = 0;
            for (int clip = 0; clip < clipCount; clip++) {
                if (states[clip] == ASLEEP && findPattern(clip, pattern) != NONE) {
                    set |= 1 << clip;
                }
            }
            return set;
        }

        /** A pattern without 0 that matches is a stretch of the clip's own colours, so only these are tried. */
        private int ownPattern(int clip) {
            int best = NONE;
            for (int start = 0; start < lengths[clip]; start++) {
                int pattern = 0;
                for (int index = start; index < lengths[clip] && index < start + MOST_DIGITS; index++) {
                    pattern = 10 * pattern + colourAt(clip, index);
                    boolean smaller = best == NONE || pattern < best;
                    if (smaller && !matchesAnother(clip, pattern)) {
                        best = pattern;
                    }
                }
            }
            return best;
        }

        private boolean matchesAnother(int clip, int pattern) {
            for (int other = 0; other < clipCount; other++) {
                if (other != clip && states[other] != FADED && findPattern(other, pattern) != NONE) {
                    return true;
                }
            }
            return false;
        }

        private int cutScene(int scene, int pattern) {
            int woken = 0;
            for (int reel = 0; reel < reelCount; reel++) {
                for (int bed = 0; bed < bedCounts[reel]; bed++) {
                    int clip = inBed(reel, bed);
                    if (springs[scene] > 0 && clip >= 0 && findPattern(clip, pattern) != NONE) {
                        springs[scene]--;
                        wakings++;
                        scenes[clip] = scene;
                        states[clip] = AWAKE;
                        setBed(reel, bed, WARM);
                        woken |= 1 << clip;
                    }
                }
            }
            return woken;
        }

        // -- beds

        private int inBed(int reel, int bed) {
            return beds[reel * MOST_BEDS + bed];
        }

        private void setBed(int reel, int bed, int what) {
            beds[reel * MOST_BEDS + bed] = what;
        }

        /** Where a clip lies, as MOST_BEDS times the reel plus the bed. */
        private int placeOf(int clip) {
            for (int reel = 0; reel < reelCount; reel++) {
                for (int bed = 0; bed < bedCounts[reel]; bed++) {
                    int place = reel * MOST_BEDS + bed;
                    if (beds[place] == clip) {
                        return place;
                    }
                }
            }
            return NONE;
        }

        private int sleepersIn(int reel) {
            int set = 0;
            for (int bed = 0; bed < bedCounts[reel]; bed++) {
                int clip = inBed(reel, bed);
                if (clip >= 0) {
                    set |= 1 << clip;
                }
            }
            return set;
        }

        private int homeOf(int clip, int reel) {
            return wayBed(clip, reel, 0);
        }

        private int wayBed(int clip, int reel, int passed) {
            int count = bedCounts[reel];
            return count < 1 ? 0 : (hashes[clip] + passed) % count;
        }

        /** How many beds of its way a clip passes until one is free; NONE if a clip sleeps in each. */
        private int passedBeds(int clip, int reel) {
            for (int passed = 0; passed < bedCounts[reel]; passed++) {
                if (inBed(reel, wayBed(clip, reel, passed)) < 0) {
                    return passed;
                }
            }
            return NONE;
        }

        private int refusal(int clip, int reel) {
            if (states[clip] != AWAKE) {
                return NOT_AWAKE;
            }
            if (fats[clip] < THINNEST_SLEEPER) {
                return TOO_THIN;
            }
            return passedBeds(clip, reel) == NONE ? NO_BED : ALLOWED;
        }

        private int layDown(int clip, int reel) {
            int passed = passedBeds(clip, reel);
            if (passed == NONE) {
                return NONE;
            }
            int bed = wayBed(clip, reel, passed);
            setBed(reel, bed, clip);
            states[clip] = ASLEEP;
            return bed;
        }

        private int rouse(int clip) {
            states[clip] = AWAKE;
            return leaveBed(clip);
        }

        private int leaveBed(int clip) {
            int place = placeOf(clip);
            if (place == NONE) {
                return NONE;
            }
            beds[place] = WARM;
            return place / MOST_BEDS;
        }

        private int airReel(int reel) {
            int sleepers = sleepersIn(reel);
            int warm = 0;
            for (int bed = 0; bed < bedCounts[reel]; bed++) {
                if (inBed(reel, bed) == WARM) {
                    warm++;
                }
                setBed(reel, bed, COLD);
            }
            for (int clip = 0; clip < clipCount; clip++) {
                if ((sleepers >> clip & 1) == 1) {
                    layDown(clip, reel);
                }
            }
            return warm;
        }

        private int looks(int clip, int reel) {
            for (int passed = 0; passed < bedCounts[reel]; passed++) {
                int found = inBed(reel, wayBed(clip, reel, passed));
                if (found == clip || found == COLD) {
                    return passed + 1;
                }
            }
            return bedCounts[reel];
        }

        private int mostLooks(int reel) {
            int most = 0;
            for (int bed = 0; bed < bedCounts[reel]; bed++) {
                int clip = inBed(reel, bed);
                if (clip >= 0) {
                    most = Math.max(most, looks(clip, reel));
                }
            }
            return most;
        }

        private int allLooks(int reel) {
            int sum = 0;
            for (int bed = 0; bed < bedCounts[reel]; bed++) {
                int clip = inBed(reel, bed);
                if (clip >= 0) {
                    sum += looks(clip, reel);
                }
            }
            return sum;
        }

        /** Goes round the reel twice, so that a cluster across bed 0 is seen whole. */
        private int cluster(int reel) {
            int longest = 0;
            int run = 0;
            for (int turn = 0; turn < 2; turn++) {
                for (int bed = 0; bed < bedCounts[reel]; bed++) {
                    run = inBed(reel, bed) == COLD ? 0 : run + 1;
                    longest = Math.max(longest, run);
                }
            }
            return Math.min(longest, bedCounts[reel]);
        }

        private int nearestReel(int clip) {
            int best = NONE;
            int fewest = MOST_BEDS;
            for (int reel = 0; reel < reelCount; reel++) {
                if (refusal(clip, reel) == ALLOWED && passedBeds(clip, reel) < fewest) {
                    best = reel;
                    fewest = passedBeds(clip, reel);
                }
            }
            return best;
        }

        // -- fat, food and weeks

        private boolean mayFeed(int clip, int meal) {
            return states[clip] == AWAKE && food >= meal && fats[clip] + meal <= GREATEST_FAT;
        }

        private int feedClip(int clip, int meal) {
            fats[clip] += meal;
            food -= meal;
            fed += meal;
            return fats[clip];
        }

        private boolean mayStore(int more) {
            return food + more <= GREATEST_FOOD;
        }

        private int store(int more) {
            food += more;
            return food;
        }

        private boolean mayPass(int count) {
            return week + count <= LAST_WEEK;
        }

        private int pass(int count) {
            int faded = 0;
            for (int passed = 0; passed < count; passed++) {
                week++;
                for (int clip = 0; clip < clipCount; clip++) {
                    faded += burn(clip);
                }
                refillSprings();
            }
            return faded;
        }

        /** Takes a week's fat from a clip; answers 1 if the clip fades by it, else 0. */
        private int burn(int clip) {
            if (states[clip] == FADED) {
                return 0;
            }
            int loss = Math.min(fats[clip], states[clip] == ASLEEP ? WEEK_ASLEEP : WEEK_AWAKE);
            fats[clip] -= loss;
            burned += loss;
            if (fats[clip] > 0) {
                return 0;
            }
            leaveBed(clip);
            states[clip] = FADED;
            return 1;
        }

        private void refillSprings() {
            for (int scene = 0; scene < sceneCount; scene++) {
                springs[scene] = Math.min(springs[scene] + 1, limits[scene]);
            }
        }

        private int weeksLeft(int clip) {
            if (states[clip] == FADED) {
                return 0;
            }
            return states[clip] == ASLEEP ? fats[clip] : (fats[clip] + WEEK_AWAKE - 1) / WEEK_AWAKE;
        }

        private int allFat() {
            int sum = 0;
            for (int clip = 0; clip < clipCount; clip++) {
                sum += fats[clip];
            }
            return sum;
        }

        private int clipsInState(int wanted) {
            int set = 0;
            for (int clip = 0; clip < clipCount; clip++) {
                if (states[clip] == wanted) {
                    set |= 1 << clip;
                }
            }
            return set;
        }

        // -- checks

        private int faults() {
            int count = Math.abs(FIRST_FAT * clipCount + fed - allFat() - burned);
            for (int clip = 0; clip < clipCount; clip++) {
                if (states[clip] == ASLEEP && !(bedsWith(clip) == 1 && isFound(clip))) {
                    count++;
                }
            }
            for (int reel = 0; reel < reelCount; reel++) {
                count += Integer.bitCount(sleepersIn(reel) & ~clipsInState(ASLEEP));
            }
            return count;
        }

        private int bedsWith(int clip) {
            int count = 0;
            for (int reel = 0; reel < reelCount; reel++) {
                for (int bed = 0; bed < bedCounts[reel]; bed++) {
                    if (inBed(reel, bed) == clip) {
                        count++;
                    }
                }
            }
            return count;
        }

        private boolean isFound(int clip) {
            int place = placeOf(clip);
            if (place == NONE) {
                return false;
            }
            int reel = place / MOST_BEDS;
            int lastPassed = looks(clip, reel) - 1;
            return inBed(reel, wayBed(clip, reel, lastPassed)) == clip;
        }
    }

    private enum Token { WORD, NUMBER, OPEN, CLOSE, SEMICOLON, END, WRONG }

    /** The input buffer, and the token in it that was read last. */
    private static final class Text {
        private static final int MOST_NUMBER_DIGITS = 8;

        private final byte[] bytes = new byte[MOST_INPUT];
        private int size;
        private int position;
        private Token token = Token.END;
        private int start;
        private int number;
        private boolean hasZero;

        private void addSigns(String signs) {
            for (int index = 0; index < signs.length(); index++) {
                add(signs.charAt(index));
            }
        }

        private void addFour(int bits) {
            add(bits >>> 24);
            add(bits >>> 16);
            add(bits >>> 8);
            add(bits);
        }

        private void add(int lowByte) {
            if (size < MOST_INPUT) {
                bytes[size] = (byte) lowByte;
                size++;
            }
        }

        private void readToken() {
            while (position < size && (bytes[position] == ' ' || bytes[position] == '\n')) {
                position++;
            }
            start = position;
            if (position >= size) {
                token = Token.END;
                return;
            }
            int sign = bytes[position];
            if (sign >= 'a' && sign <= 'z') {
                readWord();
            } else if (sign >= '0' && sign <= '9') {
                readNumber();
            } else {
                token = tokenOf(sign);
                position++;
            }
        }

        private void readWord() {
            token = Token.WORD;
            while (position < size && bytes[position] >= 'a' && bytes[position] <= 'z') {
                position++;
            }
        }

        private void readNumber() {
            number = 0;
            hasZero = false;
            while (position < size && bytes[position] >= '0' && bytes[position] <= '9') {
                number = 10 * number + bytes[position] - '0';
                hasZero = hasZero || bytes[position] == '0';
                position++;
            }
            token = position - start > MOST_NUMBER_DIGITS ? Token.WRONG : Token.NUMBER;
        }

        private static Token tokenOf(int sign) {
            switch (sign) {
                case '(':
                    return Token.OPEN;
                case ')':
                    return Token.CLOSE;
                case ';':
                    return Token.SEMICOLON;
                default:
                    return Token.WRONG;
            }
        }

        private boolean isWord(String word) {
            if (token != Token.WORD || position - start != word.length()) {
                return false;
            }
            for (int index = 0; index < word.length() && start + index < size; index++) {
                if (bytes[start + index] != word.charAt(index)) {
                    return false;
                }
            }
            return true;
        }
    }

    private enum Command {
        CLIP("clip"), REEL("reel"), SCENE("scene"), SLEEP("sleep"), WAKE("wake"), CUT("cut"), AIR("air"),
        FEED("feed"), FOOD("food"), PAINT("paint"), WEEKS("weeks"), REPEAT("repeat");

        private final String word;

        Command(String word) {
            this.word = word;
        }
    }

    /**
     * Reads and executes the input buffer, token by token, on an archive of its own, so that a script
     * with an error leaves nothing behind. After an error no token is read and nothing is executed.
     */
    private static final class Script {
        private static final int NOT_ALLOWED_HERE = 1;
        private static final int BAD_NUMBER = 2;
        private static final int REFUSED = 3;
        private static final int TOO_DEEP = 4;
        private static final int TOO_MANY = 5;
        private static final int MOST_EXECUTED = 200;
        private static final int MOST_DEPTH = 2;
        private static final int MOST_ROUNDS = 20;
        private static final int MOST_STEPS = 1_000_000;
        private static final Command[] COMMANDS = Command.values();

        private final Archive archive = new Archive();
        private final Text text = new Text();
        private int errorKind;
        private int errorOffset = NONE;
        private int executed;
        private int depth;
        private final int[] bodyStarts = new int[MOST_DEPTH];
        private final int[] roundsLeft = new int[MOST_DEPTH];
        private int first;
        private int second;
        private int third;

        /** Leaves the outcome in archive, errorKind and errorOffset, and the input buffer empty. */
        private void run() {
            begin();
            boolean ended = false;
            for (int step = 0; step < MOST_STEPS && !ended && errorKind == 0; step++) {
                text.readToken();
                if (text.token == Token.END && depth == 0) {
                    ended = true;
                } else if (text.token == Token.CLOSE && depth > 0) {
                    endRound();
                } else {
                    runCommand();
                }
            }
            text.size = 0;
        }

        private void begin() {
            archive.empty();
            text.position = 0;
            errorKind = 0;
            errorOffset = NONE;
            executed = 0;
            depth = 0;
            expect(Token.WORD);
            if (errorKind == 0 && !text.isWord("archive")) {
                fail(NOT_ALLOWED_HERE);
            }
            expect(Token.SEMICOLON);
        }

        private void fail(int kind) {
            errorKind = kind;
            errorOffset = text.start;
        }

        private void expect(Token wanted) {
            if (errorKind != 0) {
                return;
            }
            text.readToken();
            if (text.token != wanted) {
                fail(NOT_ALLOWED_HERE);
            }
        }

        private void runCommand() {
            Command command = presentCommand();
            if (command == null) {
                fail(NOT_ALLOWED_HERE);
            } else if (command == Command.REPEAT) {
                beginRepeat();
            } else if (executed >= MOST_EXECUTED) {
                fail(TOO_MANY);
            } else {
                executed++;
                readNumbers(command);
                expect(Token.SEMICOLON);
                if (errorKind == 0 && isRefused(command)) {
                    fail(REFUSED);
                }
                if (errorKind == 0) {
                    carryOut(command);
                }
            }
        }

        private Command presentCommand() {
            for (Command command : COMMANDS) {
                if (text.isWord(command.word)) {
                    return command;
                }
            }
            return null;
        }

        private void beginRepeat() {
            if (depth >= MOST_DEPTH) {
                fail(TOO_DEEP);
                return;
            }
            int rounds = number(1, MOST_ROUNDS);
            expect(Token.OPEN);
            bodyStarts[depth] = text.position;
            roundsLeft[depth] = rounds;
            depth++;
        }

        private void endRound() {
            int level = depth - 1;
            if (level < 0 || level >= MOST_DEPTH) {
                return;
            }
            roundsLeft[level]--;
            if (roundsLeft[level] > 0) {
                text.position = bodyStarts[level];
            } else {
                depth = level;
                expect(Token.SEMICOLON);
            }
        }

        private void readNumbers(Command command) {
            switch (command) {
                case CLIP:
                    first = coloursNumber();
                    break;
                case REEL:
                    first = number(1, MOST_BEDS);
                    break;
                case SCENE:
                    first = number(1, GREATEST_LIMIT);
                    break;
                case SLEEP:
                    first = number(0, archive.clipCount - 1);
                    second = number(0, archive.reelCount - 1);
                    break;
                case WAKE:
                    first = number(0, archive.clipCount - 1);
                    break;
                case CUT:
                    first = number(0, archive.sceneCount - 1);
                    second = number(1, GREATEST_PATTERN);
                    break;
                case AIR:
                    first = number(0, archive.reelCount - 1);
                    break;
                case FEED:
                    first = number(0, archive.clipCount - 1);
                    second = number(1, GREATEST_MEAL);
                    break;
                case FOOD:
                    first = number(1, GREATEST_DELIVERY);
                    break;
                case PAINT:
                    first = number(0, archive.clipCount - 1);
                    second = number(0, archive.lengths[first] - 1);
                    third = number(1, GREATEST_COLOUR);
                    break;
                case WEEKS:
                    first = number(1, MOST_WEEKS_AT_ONCE);
                    break;
                default:
                    break;
            }
        }

        private int coloursNumber() {
            expect(Token.NUMBER);
            if (errorKind == 0 && text.hasZero) {
                fail(BAD_NUMBER);
            }
            return errorKind == 0 ? text.number : 0;
        }

        /** Answers 0 if there is an error: an index that is always safe to look at. */
        private int number(int least, int greatest) {
            expect(Token.NUMBER);
            if (errorKind == 0 && (text.number < least || text.number > greatest)) {
                fail(BAD_NUMBER);
            }
            return errorKind == 0 ? text.number : 0;
        }

        private boolean isRefused(Command command) {
            switch (command) {
                case CLIP:
                    return !archive.hasRoomForClip();
                case REEL:
                    return !archive.hasRoomForReel();
                case SCENE:
                    return !archive.hasRoomForScene();
                case SLEEP:
                    return archive.refusal(first, second) != ALLOWED;
                case WAKE:
                    return archive.states[first] != ASLEEP;
                case FEED:
                    return !archive.mayFeed(first, second);
                case FOOD:
                    return !archive.mayStore(first);
                case PAINT:
                    return archive.states[first] != AWAKE;
                case WEEKS:
                    return !archive.mayPass(first);
                default:
                    return false;
            }
        }

        private void carryOut(Command command) {
            switch (command) {
                case CLIP:
                    archive.putClip(first);
                    break;
                case REEL:
                    archive.putReel(first);
                    break;
                case SCENE:
                    archive.putScene(first);
                    break;
                case SLEEP:
                    archive.layDown(first, second);
                    break;
                case WAKE:
                    archive.rouse(first);
                    break;
                case CUT:
                    archive.cutScene(first, second);
                    break;
                case AIR:
                    archive.airReel(first);
                    break;
                case FEED:
                    archive.feedClip(first, second);
                    break;
                case FOOD:
                    archive.store(first);
                    break;
                case PAINT:
                    archive.paintClip(first, second, third);
                    break;
                case WEEKS:
                    archive.pass(first);
                    break;
                default:
                    break;
            }
        }
    }
}
