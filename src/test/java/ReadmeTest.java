import java.io.File;
import java.io.IOException;
import java.nio.file.Files;
import java.nio.file.Path;
import java.util.ArrayList;
import java.util.List;
import java.util.regex.Matcher;
import java.util.regex.Pattern;

/** What README.md shows compiles, runs, and prints what its comments tell. */
public final class ReadmeTest {
    /** This would run this test, and so itself, again. */
    private static final String ALL_TESTS = ".ci/run\n";

    private final Check check = new Check();
    private final Path folder;

    private ReadmeTest(Path folder) {
        this.folder = folder;
    }

    public static void main(String[] args) throws IOException, InterruptedException {
        Path project = Path.of(System.getProperty("project", ".")).toRealPath();
        Path shared = Path.of(System.getProperty("shared", "../shared")).toRealPath();
        String page = Files.readString(project.resolve("README.md"));
        Path room = Files.createTempDirectory("readme");
        ReadmeTest test = new ReadmeTest(room.resolve("main"));
        try {
            Files.createDirectory(test.folder);
            Files.createSymbolicLink(test.folder.resolve("src"), project.resolve("src"));
            Files.createSymbolicLink(room.resolve("shared"), shared);
            test.follow(page);
        } finally {
            delete(room.toFile());
        }
        test.check.end();
    }

    /** Goes the way of a reader: programs into files of their names, then the commands as they stand. */
    private void follow(String page) throws IOException, InterruptedException {
        List<String> programs = blocks(page, "java");
        for (String program : programs) {
            Files.writeString(folder.resolve(name(program) + ".java"), program);
        }
        List<String> commands = blocks(page, "sh");
        check.due("README.md shows how to run all tests", commands.remove(ALL_TESTS) ? 1 : 0, 1);
        for (String command : commands) {
            run(command, "sh", "-e", "-c", command);
        }
        for (String program : programs) {
            String file = name(program) + ".java";
            run(file, "javac", "-d", "out", "src/main/java/ClipHibernation.java", file);
            String printed = run(name(program), "java", "-cp", "out", name(program));
            check.dueText("what " + name(program) + " prints", printed, told(program));
        }
        check.due("README.md shows programs", programs.size() > 0 ? 1 : 0, 1);
    }

    private static List<String> blocks(String page, String language) {
        List<String> blocks = new ArrayList<>();
        Matcher matcher = Pattern.compile("(?ms)^```" + language + "\n(.*?)^```$").matcher(page);
        while (matcher.find()) {
            blocks.add(matcher.group(1));
        }
        return blocks;
    }

    private static String name(String program) {
        Matcher matcher = Pattern.compile("public final class (\\w+)").matcher(program);
        return matcher.find() ? matcher.group(1) : "Nameless";
    }

    private static String told(String program) {
        StringBuilder lines = new StringBuilder();
        Matcher matcher = Pattern.compile("(?m)// prints (.*)$").matcher(program);
        while (matcher.find()) {
            lines.append(matcher.group(1)).append(System.lineSeparator());
        }
        return lines.toString();
    }

    /** Answers what was printed, but for the errors' stream; an exit code other than 0 is a fault. */
    private String run(String what, String... words) throws IOException, InterruptedException {
        File none = folder.resolve("none").toFile();
        none.createNewFile();
        Path errors = folder.resolve("errors");
        Process process = new ProcessBuilder(words).directory(folder.toFile()).redirectInput(none)
                .redirectError(errors.toFile()).start();
        String printed = new String(process.getInputStream().readAllBytes());
        int code = process.waitFor();
        String told = code == 0 ? "0" : code + "\n" + printed + Files.readString(errors);
        check.dueText("the exit code of " + what, told, "0");
        return printed;
    }

    /** The links are deleted, not what they lead to. */
    private static void delete(File file) {
        File[] inside = Files.isSymbolicLink(file.toPath()) ? null : file.listFiles();
        if (inside != null) {
            for (File one : inside) {
                delete(one);
            }
        }
        file.delete();
    }
}
