import java.lang.reflect.InvocationTargetException;
import java.lang.reflect.Method;
import java.nio.charset.StandardCharsets;
import java.util.ArrayList;
import java.util.Comparator;
import java.util.List;
import java.util.Random;

/** Random runs of calls (always the same ones), each answered as PlainModel answers it. */
public final class RandomRunsTest {
    private static final int RUNS = 400;
    /** The document promises nothing of later calls. */
    private static final int CALLS = 512;
    /** Thirty that append, two that cut, one that runs and two that ask for the error. */
    private static final int CALLS_OF_A_SCRIPT = 35;
    private static final Check check = new Check();
    private static final String[] WORDS = {"clip", "reel", "scene", "sleep", "sleep", "sleep", "wake", "cut", "air", "feed",
        "food", "paint", "weeks", "repeat"};

    private final Random random;
    private final ClipHibernation program = new ClipHibernation();
    private final PlainModel model = new PlainModel();
    private final List<String> told = new ArrayList<>();
    private boolean agrees = true;

    private RandomRunsTest(long seed) {
        random = new Random(seed);
    }

    public static void main(String[] args) throws ReflectiveOperationException {
        List<Method> methods = new ArrayList<>();
        for (Method method : ClipHibernation.class.getDeclaredMethods()) {
            if (java.lang.reflect.Modifier.isPublic(method.getModifiers()) && !method.getName().equals("append")) {
                methods.add(method);
            }
        }
        methods.sort(Comparator.comparing(Method::getName));
        for (int run = 0; run < RUNS; run++) {
            new RandomRunsTest(run).play(methods, run);
        }
        check.end();
    }

    private void play(List<Method> methods, int run) throws ReflectiveOperationException {
        List<Method> changes = new ArrayList<>();
        for (String name : new String[] {"addClip", "addReel", "addScene", "sleep", "sleep", "sleep", "wake", "cut", "cut", "air",
            "feed", "addFood", "paint", "passWeeks", "undo", "runScript", "saveSnapshot", "restoreSnapshot"}) {
            methods.stream().filter(method -> method.getName().equals(name)).forEach(changes::add);
        }
        int calls = 0;
        while (calls < CALLS && agrees) {
            int kind = random.nextInt(20);
            if (kind == 0 && calls + CALLS_OF_A_SCRIPT <= CALLS) {
                calls += typeScript();
                calls += 3;
                call(find(methods, "runScript"));
                call(find(methods, "scriptErrorKind"));
                call(find(methods, "scriptErrorOffset"));
            } else {
                calls++;
                call(kind < 10 ? changes.get(random.nextInt(changes.size())) : methods.get(random.nextInt(methods.size())));
            }
        }
        check.dueText("run " + run + (agrees ? "" : " " + told), Boolean.toString(agrees), "true");
    }

    private static Method find(List<Method> methods, String name) {
        return methods.stream().filter(method -> method.getName().equals(name)).findFirst().get();
    }

    private void call(Method method) throws ReflectiveOperationException {
        Object[] numbers = new Object[method.getParameterCount()];
        for (int index = 0; index < numbers.length; index++) {
            numbers[index] = number(method.getName(), index);
        }
        Method twin = PlainModel.class.getDeclaredMethod(method.getName(), method.getParameterTypes());
        agree(method.getName() + List.of(numbers), answer(method, program, numbers), answer(twin, model, numbers));
    }

    private void agree(String call, Object got, Object want) {
        told.add(call + "=" + got);
        if (!got.equals(want)) {
            agrees = false;
            told.add("due is " + want);
        }
    }

    private static Object answer(Method method, Object object, Object[] numbers) throws ReflectiveOperationException {
        try {
            return method.invoke(object, numbers);
        } catch (InvocationTargetException thrown) {
            return "throws." + thrown.getCause().getClass().getName();
        }
    }

    /** Mostly a number that makes sense there, sometimes one at the edge, seldom one far off. */
    private int number(String method, int index) {
        if (random.nextInt(60) == 0) {
            return new int[] {-1, 0, 9, 10, 12, 50, 51, 99, 10000, Integer.MIN_VALUE, Integer.MAX_VALUE}[random.nextInt(11)];
        }
        switch (method + index) {
            case "addClip0":
                return colours();
            case "addReel0":
            case "addScene0":
                return 1 + random.nextInt(9);
            case "cut1":
            case "wokenBy1":
            case "matches1":
            case "firstMatch1":
            case "matchingSleepers0":
                return pattern();
            case "feed1":
                return 1 + random.nextInt(50);
            case "addFood0":
                return 1 + random.nextInt(999);
            case "passWeeks0":
                return random.nextInt(8) == 0 ? 1 + random.nextInt(50) : 1 + random.nextInt(4);
            case "paint1":
            case "bed1":
                return random.nextInt(9);
            case "paint2":
                return 1 + random.nextInt(9);
            case "reportByte0":
                return random.nextInt(40);
            case "truncateInput0":
                return random.nextInt(40);
            default:
                return placeNumber(method, index);
        }
    }

    private int placeNumber(String method, int index) {
        boolean ofReel = index == 1 && !method.equals("commonRun") || method.equals("air") || method.equals("writeReel")
                || List.of("bedCount", "bed", "sleepers", "longestLook", "looksIfAired", "longestCluster").contains(method);
        boolean ofScene = method.equals("springs") || method.equals("cut") || method.equals("wokenBy");
        int count = ofScene ? model.sceneCount() : ofReel ? model.reelCount() : model.clipCount();
        return random.nextInt(count + (random.nextInt(10) == 0 ? 2 : 0) + (count == 0 ? 1 : 0));
    }

    /** Few different colours, so that runs, hashes and patterns meet. */
    private int colours() {
        int number = 0;
        int most = random.nextInt(4) == 0 ? 9 : 3;
        for (int digits = 1 + random.nextInt(8); digits > 0; digits--) {
            number = 10 * number + 1 + random.nextInt(most);
        }
        return number;
    }

    private int pattern() {
        int number = 1 + random.nextInt(4);
        for (int digits = random.nextInt(4); digits > 0; digits--) {
            number = 10 * number + random.nextInt(4);
        }
        return number;
    }

    /** Answers how many calls it made. */
    private int typeScript() {
        StringBuilder text = new StringBuilder("archive;");
        text.append(random.nextInt(3) == 0 ? "" : "clip 11;clip 21;clip 3;clip 123;reel 3;reel 4;scene 4;");
        commands(text, random.nextInt(14), 0);
        if (random.nextInt(6) == 0) {
            int at = random.nextInt(text.length());
            text.setCharAt(at, "az09();X \n\u00E4".charAt(random.nextInt(11)));
        }
        if (random.nextInt(8) == 0) {
            text.setLength(random.nextInt(text.length()));
        }
        byte[] bytes = text.toString().getBytes(StandardCharsets.ISO_8859_1);
        int wanted = Math.min(bytes.length, 600);
        byte[] padded = java.util.Arrays.copyOf(bytes, 620);
        agree("truncateInput(0)", program.truncateInput(0), model.truncateInput(0));
        int calls = 2;
        for (int at = 0; at < wanted; at += 20) {
            java.nio.IntBuffer words = java.nio.ByteBuffer.wrap(padded, at, 20).slice().asIntBuffer();
            agree("append", program.append(words.get(0), words.get(1), words.get(2), words.get(3), words.get(4)),
                    model.append(words.get(0), words.get(1), words.get(2), words.get(3), words.get(4)));
            calls++;
        }
        agree("truncateInput of " + text, program.truncateInput(wanted), model.truncateInput(wanted));
        return calls;
    }

    private void commands(StringBuilder text, int count, int depth) {
        for (int command = 0; command < count; command++) {
            String word = WORDS[random.nextInt(WORDS.length)];
            text.append(word).append(random.nextInt(9) == 0 ? "\n" : " ");
            if (word.equals("repeat")) {
                text.append(1 + random.nextInt(random.nextInt(5) == 0 ? 21 : 3)).append(" (");
                if (depth < 2 || random.nextInt(8) == 0) {
                    commands(text, random.nextInt(4), Math.min(depth + 1, 2));
                }
                text.append(")");
            } else {
                numbers(text, word);
            }
            text.append(";");
        }
    }

    private void numbers(StringBuilder text, String word) {
        switch (word) {
            case "clip":
                text.append(colours());
                break;
            case "reel":
            case "scene":
                text.append(1 + random.nextInt(random.nextInt(9) == 0 ? 11 : 9));
                break;
            case "sleep":
                text.append(random.nextInt(4)).append(' ').append(random.nextInt(2));
                break;
            case "cut":
                text.append("0 ").append(pattern());
                break;
            case "air":
                text.append(random.nextInt(2));
                break;
            case "feed":
                text.append(random.nextInt(4)).append(' ').append(1 + random.nextInt(20));
                break;
            case "food":
                text.append(1 + random.nextInt(999));
                break;
            case "paint":
                text.append(random.nextInt(4)).append(" 0 ").append(1 + random.nextInt(9));
                break;
            case "weeks":
                text.append(1 + random.nextInt(5));
                break;
            default:
                text.append(random.nextInt(4));
                break;
        }
    }
}
