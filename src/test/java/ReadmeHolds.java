import java.io.IOException;
import java.lang.reflect.Method;
import java.lang.reflect.Modifier;
import java.nio.file.Files;
import java.nio.file.Path;
import java.util.regex.Matcher;
import java.util.regex.Pattern;
import javax.tools.ToolProvider;

/** README.md: each call of its example answers the number behind it, and each call of the face is told of. */
public final class ReadmeHolds {
    private static final Pattern ANSWERED = Pattern.compile("^(x\\..*\\));\\s*// (-?\\d+)\\b.*");
    private static final Check c = new Check();

    public static void main(String[] args) throws IOException, ReflectiveOperationException {
        String readme = Files.readString(Path.of("README.md"));
        for (Method m : WordFolder.class.getDeclaredMethods()) {
            boolean isTold = Pattern.compile("`" + m.getName() + "\\b").matcher(readme).find();
            c.due(m.getName() + " is told of", isTold || !Modifier.isPublic(m.getModifiers()), true);
        }
        int from = readme.indexOf("```java\n");
        int to = readme.indexOf("\n```", Math.max(from, 0));
        c.due("README.md has an example", from >= 0 && to > from, true);
        if (from >= 0 && to > from) {
            runExample(readme.substring(from + "```java\n".length(), to));
        }
        c.end();
    }

    /** Compiles the example, each call with the answer that stands behind it, and runs it. */
    private static void runExample(String example) throws IOException, ReflectiveOperationException {
        StringBuilder source = new StringBuilder("public final class Told {\npublic static void run(Check c) {\n");
        int answers = 0;
        for (String line : example.split("\n")) {
            Matcher m = ANSWERED.matcher(line);
            boolean isAnswered = m.matches();
            c.due("an answer stands behind " + line, isAnswered || !line.startsWith("x."), true);
            answers += isAnswered ? 1 : 0;
            source.append(isAnswered ? "c.due(\"call " + answers + "\", " + m.group(1) + ", " + m.group(2) + ");" : line).append('\n');
        }
        source.append("}\n}\n");
        c.due("there are calls", answers > 0, true);
        Path room = Path.of(ReadmeHolds.class.getProtectionDomain().getCodeSource().getLocation().getPath());
        Path file = Files.writeString(room.resolve("Told.java"), source);
        int ended = ToolProvider.getSystemJavaCompiler().run(null, null, null, "-cp", room.toString(), "-d", room.toString(), file.toString());
        c.due("the example is compiled", ended, 0);
        if (ended == 0) {
            c.about("the example");
            Class.forName("Told").getMethod("run", Check.class).invoke(null, c);
        }
    }
}
