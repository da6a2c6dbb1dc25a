import java.util.ArrayDeque;
import java.util.ArrayList;
import java.util.Deque;
import java.util.List;
import java.util.NoSuchElementException;

/** The document once more, written as plainly as can be, to be compared with the program in random runs. */
final class PlainModel {
    private static final class Clip {
        String colours;
        int state;
        int fat = 40;
        int scene = -1;

        Clip copy() {
            Clip copy = new Clip();
            copy.colours = colours;
            copy.state = state;
            copy.fat = fat;
            copy.scene = scene;
            return copy;
        }

        int hash() {
            int hash = 0;
            for (char colour : colours.toCharArray()) {
                hash = (31 * hash + (colour - '0')) % 997;
            }
            return hash;
        }
    }

    private static final class State {
        final List<Clip> clips = new ArrayList<>();
        final List<List<Integer>> reels = new ArrayList<>();
        final List<Integer> limits = new ArrayList<>();
        final List<Integer> springs = new ArrayList<>();
        int week;
        int food = 100;
        int burned;
        int wakings;

        State copy() {
            State copy = new State();
            clips.forEach(clip -> copy.clips.add(clip.copy()));
            reels.forEach(reel -> copy.reels.add(new ArrayList<>(reel)));
            copy.limits.addAll(limits);
            copy.springs.addAll(springs);
            copy.week = week;
            copy.food = food;
            copy.burned = burned;
            copy.wakings = wakings;
            return copy;
        }
    }

    private static final class ScriptError extends Exception {
        private static final long serialVersionUID = 1;
        final int kind;
        final int offset;

        ScriptError(int kind, int offset) {
            this.kind = kind;
            this.offset = offset;
        }
    }

    private record Token(String text, int offset) {
        boolean isNumber() {
            return text.matches("[0-9]{1,8}");
        }
    }

    private State now = new State();
    private State snapshot;
    private final Deque<State> past = new ArrayDeque<>();
    private String input = "";
    private int errorKind;
    private int errorOffset = -1;
    private String report = "";
    private boolean inScript;

    PlainModel() {
        input = "archive; clip 123; clip 3214; clip 44; clip 12345678; clip 9; reel 3; reel 5; scene 2; scene 1; "
                + "sleep 0 0; sleep 1 0; sleep 2 1; sleep 3 1; weeks 2; cut 1 30; feed 4 20;";
        runScript();
        past.clear();
    }

    // ---- input and scripts

    int append(int... words) {
        if (input.length() + 20 > 600) {
            return -1;
        }
        for (int word : words) {
            for (int shift = 24; shift >= 0; shift -= 8) {
                input += (char) (word >> shift & 255);
            }
        }
        return input.length();
    }

    int truncateInput(int length) {
        if (length < 0 || length > input.length()) {
            throw new IllegalArgumentException();
        }
        input = input.substring(0, length);
        return length;
    }

    private List<Token> tokens;
    private int length;
    private int at;
    private int executed;

    int runScript() {
        State before = now;
        now = new State();
        inScript = true;
        try {
            splitInput();
            at = 0;
            executed = 0;
            demand("archive");
            demand(";");
            commands(0);
            errorKind = 0;
            errorOffset = -1;
        } catch (ScriptError error) {
            now = before;
            errorKind = error.kind;
            errorOffset = error.offset;
        }
        inScript = false;
        input = "";
        if (errorKind != 0) {
            return -1;
        }
        push(before);
        return now.clips.size();
    }

    private void splitInput() {
        tokens = new ArrayList<>();
        length = input.length();
        java.util.regex.Matcher matcher = java.util.regex.Pattern.compile("[a-z]+|[0-9]+|[^ \n]", java.util.regex.Pattern.DOTALL)
                .matcher(input);
        while (matcher.find()) {
            tokens.add(new Token(matcher.group(), matcher.start()));
        }
    }

    private Token take() {
        return at < tokens.size() ? tokens.get(at++) : new Token("", length);
    }

    private void demand(String text) throws ScriptError {
        Token token = take();
        if (!token.text.equals(text)) {
            throw new ScriptError(1, token.offset);
        }
    }

    private void commands(int depth) throws ScriptError {
        while (true) {
            Token token = take();
            if (token.text.isEmpty() && depth == 0 || token.text.equals(")") && depth > 0) {
                return;
            }
            command(token, depth);
            Token end = take();
            if (!end.text.equals(";")) {
                throw new ScriptError(1, end.offset);
            }
            try {
                pending.run();
            } catch (IllegalStateException refused) {
                throw new ScriptError(3, end.offset);
            }
        }
    }

    private Runnable pending;

    private void command(Token token, int depth) throws ScriptError {
        List<String> words = List.of("clip", "reel", "scene", "sleep", "wake", "cut", "air", "feed", "food", "paint", "weeks");
        if (token.text.equals("repeat")) {
            if (depth == 2) {
                throw new ScriptError(4, token.offset);
            }
            int times = number(1, 20);
            demand("(");
            int body = at;
            for (int round = 0; round < times; round++) {
                at = body;
                commands(depth + 1);
            }
            pending = () -> { };
            return;
        }
        if (!words.contains(token.text)) {
            throw new ScriptError(1, token.offset);
        }
        if (executed == 200) {
            throw new ScriptError(5, token.offset);
        }
        executed++;
        pending = reading(token.text);
    }

    private Runnable reading(String word) throws ScriptError {
        switch (word) {
            case "clip": {
                Token token = take();
                if (!token.isNumber()) {
                    throw new ScriptError(1, token.offset);
                }
                if (token.text.contains("0")) {
                    throw new ScriptError(2, token.offset);
                }
                return () -> addClip(Integer.parseInt(token.text));
            }
            case "reel": {
                int beds = number(1, 9);
                return () -> addReel(beds);
            }
            case "scene": {
                int limit = number(1, 9);
                return () -> addScene(limit);
            }
            case "sleep": {
                int clip = number(0, now.clips.size() - 1);
                int reel = number(0, now.reels.size() - 1);
                return () -> sleep(clip, reel);
            }
            case "wake": {
                int clip = number(0, now.clips.size() - 1);
                return () -> wake(clip);
            }
            case "cut": {
                int scene = number(0, now.limits.size() - 1);
                int pattern = number(1, 9999);
                return () -> cut(scene, pattern);
            }
            case "air": {
                int reel = number(0, now.reels.size() - 1);
                return () -> air(reel);
            }
            case "feed": {
                int clip = number(0, now.clips.size() - 1);
                int fat = number(1, 50);
                return () -> feed(clip, fat);
            }
            case "food": {
                int food = number(1, 999);
                return () -> addFood(food);
            }
            case "paint": {
                int clip = number(0, now.clips.size() - 1);
                int index = number(0, now.clips.get(clip).colours.length() - 1);
                int colour = number(1, 9);
                return () -> paint(clip, index, colour);
            }
            default: {
                int weeks = number(1, 50);
                return () -> passWeeks(weeks);
            }
        }
    }

    private int number(int least, int greatest) throws ScriptError {
        Token token = take();
        if (!token.isNumber()) {
            throw new ScriptError(1, token.offset);
        }
        int number = Integer.parseInt(token.text);
        if (number < least || number > greatest) {
            throw new ScriptError(2, token.offset);
        }
        return number;
    }

    // ---- changes

    private void push(State before) {
        past.push(before);
        if (past.size() > 8) {
            past.removeLast();
        }
    }

    private void change() {
        if (!inScript) {
            push(now.copy());
        }
    }

    private Clip clip(int clip) {
        if (clip < 0 || clip >= now.clips.size()) {
            throw new IndexOutOfBoundsException();
        }
        return now.clips.get(clip);
    }

    private List<Integer> reel(int reel) {
        if (reel < 0 || reel >= now.reels.size()) {
            throw new IndexOutOfBoundsException();
        }
        return now.reels.get(reel);
    }

    private int scene(int scene) {
        if (scene < 0 || scene >= now.limits.size()) {
            throw new IndexOutOfBoundsException();
        }
        return scene;
    }

    private static void range(int number, int least, int greatest) {
        if (number < least || number > greatest) {
            throw new IllegalArgumentException();
        }
    }

    private static void refuse(boolean refused) {
        if (refused) {
            throw new IllegalStateException();
        }
    }

    int addClip(int colours) {
        if (!Integer.toString(colours).matches("[1-9]{1,8}")) {
            throw new IllegalArgumentException();
        }
        refuse(now.clips.size() == 12);
        change();
        Clip clip = new Clip();
        clip.colours = Integer.toString(colours);
        now.clips.add(clip);
        return now.clips.size() - 1;
    }

    int addReel(int beds) {
        range(beds, 1, 9);
        refuse(now.reels.size() == 4);
        change();
        List<Integer> reel = new ArrayList<>();
        for (int bed = 0; bed < beds; bed++) {
            reel.add(-1);
        }
        now.reels.add(reel);
        return now.reels.size() - 1;
    }

    int addScene(int limit) {
        range(limit, 1, 9);
        refuse(now.limits.size() == 5);
        change();
        now.limits.add(limit);
        now.springs.add(limit);
        return now.limits.size() - 1;
    }

    int sleep(int clip, int reel) {
        refuse(whyNoSleep(clip, reel) != 0);
        change();
        return lay(clip, reel);
    }

    private List<Integer> way(int clip, int reel) {
        int count = reel(reel).size();
        List<Integer> way = new ArrayList<>();
        for (int step = 0; step < count; step++) {
            way.add((clip(clip).hash() % count + step) % count);
        }
        return way;
    }

    private int lay(int clip, int reel) {
        for (int bed : way(clip, reel)) {
            if (reel(reel).get(bed) < 0) {
                reel(reel).set(bed, clip);
                clip(clip).state = 1;
                return bed;
            }
        }
        throw new AssertionError("no bed");
    }

    int wake(int clip) {
        refuse(clip(clip).state != 1);
        change();
        int reel = reelOf(clip);
        leave(clip);
        clip(clip).state = 0;
        return reel;
    }

    private void leave(int clip) {
        now.reels.forEach(reel -> reel.replaceAll(what -> what == clip ? Integer.valueOf(-2) : what));
    }

    int cut(int scene, int pattern) {
        scene(scene);
        range(pattern, 1, 9999);
        change();
        int set = 0;
        for (List<Integer> reel : now.reels) {
            for (int bed = 0; bed < reel.size(); bed++) {
                int what = reel.get(bed);
                if (what >= 0 && now.springs.get(scene) > 0 && matches(what, pattern)) {
                    now.springs.set(scene, now.springs.get(scene) - 1);
                    reel.set(bed, -2);
                    clip(what).state = 0;
                    clip(what).scene = scene;
                    now.wakings++;
                    set += 1 << what;
                }
            }
        }
        return set;
    }

    int air(int reel) {
        reel(reel);
        change();
        return airNow(reel);
    }

    private int airNow(int reel) {
        List<Integer> old = new ArrayList<>(reel(reel));
        reel(reel).replaceAll(what -> -1);
        for (int clip = 0; clip < now.clips.size(); clip++) {
            if (old.contains(clip)) {
                lay(clip, reel);
            }
        }
        return (int) old.stream().filter(what -> what == -2).count();
    }

    int feed(int clip, int fat) {
        clip(clip);
        range(fat, 1, 50);
        refuse(clip(clip).state != 0 || now.food < fat || clip(clip).fat + fat > 99);
        change();
        now.food -= fat;
        return clip(clip).fat += fat;
    }

    int addFood(int food) {
        range(food, 1, 999);
        refuse(now.food + food > 9999);
        change();
        return now.food += food;
    }

    int paint(int clip, int index, int colour) {
        String colours = clip(clip).colours;
        if (index < 0 || index >= colours.length()) {
            throw new IndexOutOfBoundsException();
        }
        range(colour, 1, 9);
        refuse(clip(clip).state != 0);
        change();
        clip(clip).colours = colours.substring(0, index) + colour + colours.substring(index + 1);
        return clip(clip).hash();
    }

    int passWeeks(int weeks) {
        range(weeks, 1, 50);
        refuse(now.week + weeks > 999);
        change();
        int before = Integer.bitCount(fadedClips());
        for (int week = 0; week < weeks; week++) {
            passWeek();
        }
        return Integer.bitCount(fadedClips()) - before;
    }

    private void passWeek() {
        now.week++;
        for (int number = 0; number < now.clips.size(); number++) {
            Clip clip = clip(number);
            int fat = clip.state == 2 ? clip.fat : Math.max(0, clip.fat - (clip.state == 1 ? 1 : 4));
            now.burned += clip.fat - fat;
            clip.fat = fat;
            if (fat == 0) {
                clip.state = 2;
                leave(number);
            }
        }
        for (int scene = 0; scene < now.limits.size(); scene++) {
            if (now.springs.get(scene) < now.limits.get(scene)) {
                now.springs.set(scene, now.springs.get(scene) + 1);
            }
        }
    }

    // ---- undo and the snapshot

    int undo() {
        if (past.isEmpty()) {
            return -1;
        }
        now = past.pop();
        return past.size();
    }

    int undoCount() {
        return past.size();
    }

    int saveSnapshot() {
        snapshot = now.copy();
        return now.week;
    }

    int restoreSnapshot() {
        if (snapshot == null) {
            throw new NoSuchElementException();
        }
        now = snapshot.copy();
        past.clear();
        return now.week;
    }

    // ---- questions

    int scriptErrorKind() {
        return errorKind;
    }

    int scriptErrorOffset() {
        return errorOffset;
    }

    int week() {
        return now.week;
    }

    int food() {
        return now.food;
    }

    int clipCount() {
        return now.clips.size();
    }

    int reelCount() {
        return now.reels.size();
    }

    int sceneCount() {
        return now.limits.size();
    }

    int springs(int scene) {
        return now.springs.get(scene(scene));
    }

    int state(int clip) {
        return clip(clip).state;
    }

    int colours(int clip) {
        return Integer.parseInt(clip(clip).colours);
    }

    int length(int clip) {
        return clip(clip).colours.length();
    }

    int hash(int clip) {
        return clip(clip).hash();
    }

    int fat(int clip) {
        return clip(clip).fat;
    }

    int reelOf(int clip) {
        clip(clip);
        for (int reel = 0; reel < now.reels.size(); reel++) {
            if (now.reels.get(reel).contains(clip)) {
                return reel;
            }
        }
        return -1;
    }

    int bedOf(int clip) {
        return reelOf(clip) < 0 ? -1 : reel(reelOf(clip)).indexOf(clip);
    }

    int sceneOf(int clip) {
        return clip(clip).scene;
    }

    int commonRun(int clip, int other) {
        String one = clip(clip).colours;
        String two = clip(other).colours;
        for (int run = one.length(); run > 0; run--) {
            for (int start = 0; start + run <= one.length(); start++) {
                if (two.contains(one.substring(start, start + run))) {
                    return run;
                }
            }
        }
        return 0;
    }

    int nearestClip(int clip) {
        clip(clip);
        for (int run = 8; run >= 0; run--) {
            for (int other = 0; other < now.clips.size(); other++) {
                if (other != clip && commonRun(clip, other) == run) {
                    return other;
                }
            }
        }
        return -1;
    }

    int twinsOf(int clip) {
        clip(clip);
        int set = 0;
        for (int other = 0; other < now.clips.size(); other++) {
            set += other != clip && hash(other) == hash(clip) ? 1 << other : 0;
        }
        return set;
    }

    int weeksToFade(int clip) {
        clip(clip);
        State before = now;
        now = now.copy();
        int weeks = 0;
        while (state(clip) != 2) {
            passWeek();
            weeks++;
        }
        now = before;
        return weeks;
    }

    int bedCount(int reel) {
        return reel(reel).size();
    }

    int bed(int reel, int bed) {
        if (bed < 0 || bed >= reel(reel).size()) {
            throw new IndexOutOfBoundsException();
        }
        return reel(reel).get(bed);
    }

    int sleepers(int reel) {
        reel(reel);
        int set = 0;
        for (int clip = 0; clip < now.clips.size(); clip++) {
            set += reelOf(clip) == reel ? 1 << clip : 0;
        }
        return set;
    }

    int home(int clip, int reel) {
        return way(clip, reel).get(0);
    }

    int whyNoSleep(int clip, int reel) {
        clip(clip);
        reel(reel);
        return state(clip) != 0 ? 1 : fat(clip) < 10 ? 2 : reel(reel).stream().noneMatch(what -> what < 0) ? 3 : 0;
    }

    int bedFor(int clip, int reel) {
        if (whyNoSleep(clip, reel) != 0) {
            return -1;
        }
        return way(clip, reel).stream().filter(bed -> reel(reel).get(bed) < 0).findFirst().get();
    }

    int looksFor(int clip, int reel) {
        int looks = 0;
        for (int bed : way(clip, reel)) {
            looks++;
            int what = reel(reel).get(bed);
            if (what == clip || what == -1) {
                break;
            }
        }
        return looks;
    }

    int longestLook(int reel) {
        return reel(reel).stream().filter(what -> what >= 0).mapToInt(what -> looksFor(what, reel)).max().orElse(0);
    }

    int looksIfAired(int reel) {
        reel(reel);
        State before = now;
        now = now.copy();
        airNow(reel);
        int sum = reel(reel).stream().filter(what -> what >= 0).mapToInt(what -> looksFor(what, reel)).sum();
        now = before;
        return sum;
    }

    int longestCluster(int reel) {
        StringBuilder beds = new StringBuilder();
        reel(reel).forEach(what -> beds.append(what == -1 ? ' ' : 'x'));
        String twice = beds.toString() + beds;
        int longest = 0;
        for (int run = 1; run <= beds.length(); run++) {
            longest = twice.contains("x".repeat(run)) ? run : longest;
        }
        return longest;
    }

    int bestReel(int clip) {
        clip(clip);
        int best = -1;
        int fewest = 99;
        for (int reel = now.reels.size() - 1; reel >= 0; reel--) {
            if (whyNoSleep(clip, reel) == 0) {
                int passed = way(clip, reel).indexOf(bedFor(clip, reel));
                if (passed <= fewest) {
                    best = reel;
                    fewest = passed;
                }
            }
        }
        return best;
    }

    boolean matches(int clip, int pattern) {
        return firstMatch(clip, pattern) >= 0;
    }

    int matchingSleepers(int pattern) {
        range(pattern, 1, 9999);
        int set = 0;
        for (int clip = 0; clip < now.clips.size(); clip++) {
            set += state(clip) == 1 && matches(clip, pattern) ? 1 << clip : 0;
        }
        return set;
    }

    int wokenBy(int scene, int pattern) {
        scene(scene);
        range(pattern, 1, 9999);
        State before = now;
        now = now.copy();
        inScript = true;
        int set = cut(scene, pattern);
        inScript = false;
        now = before;
        return set;
    }

    int firstMatch(int clip, int pattern) {
        String colours = clip(clip).colours;
        range(pattern, 1, 9999);
        String digits = Integer.toString(pattern);
        for (int start = 0; start + digits.length() <= colours.length(); start++) {
            boolean match = true;
            for (int index = 0; index < digits.length(); index++) {
                char digit = digits.charAt(index);
                match &= digit == '0' || digit == colours.charAt(start + index);
            }
            if (match) {
                return start;
            }
        }
        return -1;
    }

    int bestPattern(int clip) {
        clip(clip);
        for (int pattern = 1; pattern <= 9999; pattern++) {
            if (Integer.toString(pattern).indexOf('0') < 0 && matches(clip, pattern)) {
                boolean alone = true;
                for (int other = 0; other < now.clips.size(); other++) {
                    alone &= other == clip || state(other) == 2 || !matches(other, pattern);
                }
                if (alone) {
                    return pattern;
                }
            }
        }
        return -1;
    }

    int burnedFat() {
        return now.burned;
    }

    int wakings() {
        return now.wakings;
    }

    int fadedClips() {
        int set = 0;
        for (int clip = 0; clip < now.clips.size(); clip++) {
            set += state(clip) == 2 ? 1 << clip : 0;
        }
        return set;
    }

    double meanFat() {
        int sum = 0;
        int number = 0;
        for (Clip clip : now.clips) {
            sum += clip.state == 2 ? 0 : clip.fat;
            number += clip.state == 2 ? 0 : 1;
        }
        return number == 0 ? 0.0 : (double) sum / (double) number;
    }

    float sleepShare() {
        long asleep = now.clips.stream().filter(clip -> clip.state == 1).count();
        return now.clips.isEmpty() ? 0.0f : (float) asleep / (float) now.clips.size();
    }

    int violations() {
        return 0;
    }

    int writeReel(int reel) {
        List<String> beds = new ArrayList<>();
        reel(reel).forEach(what -> beds.add(what == -1 ? "-" : what == -2 ? "~" : clip(what).colours));
        report = String.join(" ", beds);
        return report.length();
    }

    int reportByte(int index) {
        return index < 0 || index >= report.length() ? -1 : report.charAt(index);
    }
}
