import java.io.File;
import java.io.IOException;
import java.lang.reflect.Method;
import java.lang.reflect.Modifier;
import java.net.URL;
import java.net.URLClassLoader;
import java.nio.file.Files;
import java.nio.file.Path;
import java.util.ArrayList;
import java.util.List;
import java.util.regex.Matcher;
import java.util.regex.Pattern;
import javax.tools.ToolProvider;

/**
 * The calls that README.md shows, compiled as they stand there, one after the other on one object.
 * Behind each call stands its answer, then, if it has words more: "OUT is 15/2" for what OUT is
 * then, "STATUS 4" for what status() is then (0 if nothing is said of it).
 */
public final class ReadmeTest {
    private static final Pattern BLOCK = Pattern.compile("(?ms)^```java\n(.*?)^```$");
    private static final Pattern CALL = Pattern.compile("(?:\\w+ (\\w+) = )?(.*\\)); +// ([^, ]+)(.*)");
    private static final Pattern OUT_IS = Pattern.compile("OUT is (?:still )?(\\S+)");
    private static final Pattern STATUS_IS = Pattern.compile("STATUS (\\d)");
    private static final String NEW_OBJECT = "LightRoom room = new LightRoom();";
    private static int wrong = 0;
    private static int checked = 0;

    public static void main(String[] args) throws Exception {
        String readme = Files.readString(Path.of("README.md"));
        namesEveryCall(readme);
        runShownCalls(readme);
        System.out.println("README.md: " + checked + " calls made, " + wrong + " answers are not as it says");
        if (wrong != 0 || checked == 0) {
            System.exit(1);
        }
    }

    private static void wrong(String what) {
        wrong++;
        System.out.println("README.md: " + what);
    }

    private static void namesEveryCall(String readme) {
        for (Method method : LightRoom.class.getDeclaredMethods()) {
            if (Modifier.isPublic(method.getModifiers()) && !readme.contains("`" + method.getName() + "(")) {
                wrong("says nothing of " + method.getName());
            }
        }
    }

    private static void runShownCalls(String readme) throws Exception {
        StringBuilder members = new StringBuilder();
        StringBuilder lines = new StringBuilder();
        Matcher block = BLOCK.matcher(readme);
        while (block.find()) {
            if (block.group(1).startsWith("static ")) {
                members.append(block.group(1));
            } else {
                block.group(1).lines().filter(line -> !line.isBlank()).forEach(line -> lines.append(checkedLine(line)));
            }
        }
        compileAndRun("public final class ReadmeCalls {\n" + members
            + "public static void run() {\n" + lines + "}\n}\n");
    }

    /** The line as it stands in README.md, and a look at what it answered. */
    private static String checkedLine(String line) {
        Matcher call = CALL.matcher(line);
        if (line.equals(NEW_OBJECT)) {
            return line + "\n";
        }
        if (!call.matches()) {
            wrong("has a call without an answer: " + line);
            return "";
        }
        String variable = call.group(1);
        String ahead = variable == null ? "" : line + "\n";
        String answer = variable == null ? call.group(2) : variable;
        return ahead + "ReadmeTest.due(" + quoted(call.group(2)) + ", String.valueOf(" + answer + "), "
            + quoted(call.group(3)) + ", " + quoted(call.group(4)) + ", room);\n";
    }

    private static String quoted(String text) {
        return '"' + text.replace("\\", "\\\\").replace("\"", "\\\"") + '"';
    }

    /** Called by the compiled lines. */
    public static void due(String call, String got, String answer, String words, LightRoom room) {
        checked++;
        if (!got.equals(answer)) {
            wrong(call + " answered " + got + ", not " + answer);
        }
        Matcher status = STATUS_IS.matcher(words);
        int statusDue = status.find() ? Integer.parseInt(status.group(1)) : 0;
        boolean hasStatus = !call.startsWith("room.status(") && !call.startsWith("room.out(");
        if (hasStatus && room.status() != statusDue) {
            wrong(call + " has STATUS " + room.status() + ", not " + statusDue);
        }
        Matcher out = OUT_IS.matcher(words);
        if (out.find() && !Run.text(room).equals(out.group(1))) {
            wrong(call + " leaves OUT as " + Run.text(room) + ", not " + out.group(1));
        }
    }

    private static void compileAndRun(String source) throws Exception {
        Path directory = Files.createTempDirectory("readme");
        try {
            Path file = Files.writeString(directory.resolve("ReadmeCalls.java"), source);
            int failed = ToolProvider.getSystemJavaCompiler().run(null, null, null,
                "-cp", System.getProperty("java.class.path"), "-d", directory.toString(), file.toString());
            if (failed != 0) {
                wrong("has calls that don't compile");
                return;
            }
            try (URLClassLoader loader = new URLClassLoader(new URL[] {directory.toUri().toURL()})) {
                loader.loadClass("ReadmeCalls").getMethod("run").invoke(null);
            }
        } finally {
            delete(directory);
        }
    }

    private static void delete(Path directory) throws IOException {
        List<File> files = new ArrayList<>(List.of(directory.toFile().listFiles()));
        files.add(directory.toFile());
        for (File file : files) {
            Files.delete(file.toPath());
        }
    }
}
