import java.lang.reflect.Constructor;
import java.lang.reflect.Field;
import java.lang.reflect.Method;
import java.lang.reflect.Modifier;
import java.util.TreeSet;

/** The public face: just the document's members and constants, and nothing else that is not private. */
public final class FaceTest {
    private static final String METHODS = "append(5) truncateInput(1) runScript(0) addClip(1) addReel(1) addScene(1) "
            + "sleep(2) wake(1) cut(2) air(1) feed(2) addFood(1) paint(3) passWeeks(1) undo(0) undoCount(0) "
            + "saveSnapshot(0) restoreSnapshot(0) scriptErrorKind(0) scriptErrorOffset(0) week(0) food(0) clipCount(0) "
            + "reelCount(0) sceneCount(0) springs(1) state(1) colours(1) length(1) hash(1) fat(1) reelOf(1) bedOf(1) "
            + "sceneOf(1) commonRun(2) nearestClip(1) twinsOf(1) weeksToFade(1) bedCount(1) bed(2) sleepers(1) home(2) "
            + "whyNoSleep(2) bedFor(2) looksFor(2) longestLook(1) looksIfAired(1) longestCluster(1) bestReel(1) "
            + "matches(2) matchingSleepers(1) wokenBy(2) firstMatch(2) bestPattern(1) burnedFat(0) wakings(0) "
            + "fadedClips(0) meanFat(0) sleepShare(0) violations(0) writeReel(1) reportByte(1)";
    private static final String CONSTANTS = "NONE=-1 AWAKE=0 ASLEEP=1 FADED=2 COLD=-1 WARM=-2 ALLOWED=0 NOT_AWAKE=1 "
            + "TOO_THIN=2 NO_BED=3";

    public static void main(String[] args) throws Exception {
        Check check = new Check();
        Class<?> face = ClipHibernation.class;
        check.due("public final", face.getModifiers() & (Modifier.PUBLIC | Modifier.FINAL), Modifier.PUBLIC | Modifier.FINAL);
        TreeSet<String> methods = new TreeSet<>();
        TreeSet<String> publicNames = new TreeSet<>();
        for (Method method : face.getDeclaredMethods()) {
            if (!Modifier.isPrivate(method.getModifiers())) {
                methods.add(method.getName() + "(" + method.getParameterCount() + ")");
                publicNames.add(method.getName());
                check.due(method.getName() + " is public alone", method.getModifiers(), Modifier.PUBLIC);
                dueTypes(check, method);
            }
        }
        check.dueText("the methods", methods.toString(), sorted(METHODS));
        for (Method method : face.getDeclaredMethods()) {
            boolean hidden = Modifier.isPrivate(method.getModifiers());
            check.due(method.getName() + " bears a public name", hidden && publicNames.contains(method.getName()) ? 1 : 0, 0);
        }
        TreeSet<String> constants = new TreeSet<>();
        for (Field field : face.getDeclaredFields()) {
            if (!Modifier.isPrivate(field.getModifiers())) {
                constants.add(field.getName() + "=" + field.getInt(null));
                check.due(field.getName() + " is a constant", field.getModifiers(),
                        Modifier.PUBLIC | Modifier.STATIC | Modifier.FINAL);
            }
        }
        check.dueText("the constants", constants.toString(), sorted(CONSTANTS));
        Constructor<?>[] constructors = face.getDeclaredConstructors();
        check.due("constructors", constructors.length, 1);
        check.due("its parameters", constructors[0].getParameterCount(), 0);
        check.end();
    }

    private static void dueTypes(Check check, Method method) {
        String name = method.getName();
        Class<?> answer = name.equals("matches") ? boolean.class
                : name.equals("meanFat") ? double.class : name.equals("sleepShare") ? float.class : int.class;
        check.dueText("the answer of " + name, method.getReturnType().getName(), answer.getName());
        for (Class<?> type : method.getParameterTypes()) {
            check.dueText("a parameter of " + name, type.getName(), "int");
        }
    }

    private static String sorted(String names) {
        TreeSet<String> set = new TreeSet<>();
        for (String name : names.split(" ")) {
            set.add(name);
        }
        return set.toString();
    }
}
