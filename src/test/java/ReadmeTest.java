import java.io.File;
import java.nio.file.Files;
import java.nio.file.Path;
import java.util.ArrayList;
import java.util.List;
import java.util.regex.Matcher;
import java.util.regex.Pattern;

/** Compiles and runs the example of README.md; it must print what its remarks say. Run from the project's root. */
public final class ReadmeTest {
    private static final Pattern BLOCK = Pattern.compile("(?s)```java\n(.*?)```");
    private static final Pattern PRINTS = Pattern.compile("System\\.out\\.println.*// prints ([^,\n]+)");

    public static void main(String[] args) throws Exception {
        Matcher block = BLOCK.matcher(Files.readString(Path.of("README.md")));
        String example = block.find() ? block.group(1) : "";
        List<String> due = new ArrayList<>();
        Matcher line = PRINTS.matcher(example);
        while (line.find()) due.add(line.group(1).trim());
        List<String> printed = outputOf(example);
        boolean holds = !due.isEmpty() && printed.equals(due);
        System.out.println(holds ? "the example prints what it says" : "printed " + printed + ", due is " + due);
        if (!holds) System.exit(1);
    }

    private static List<String> outputOf(String example) throws Exception {
        Path room = Files.createTempDirectory("readme");
        Path file = room.resolve("Example.java");
        String path = System.getProperty("java.class.path") + File.pathSeparator + room;
        try {
            Files.writeString(file, "public class Example { public static void main(String[] args) {\n" + example + "} }\n");
            linesOf("javac", "-cp", path, "-d", room.toString(), file.toString());
            // The machine's own warnings would stand among the lines.
            return linesOf("java", "-Xlog:disable", "-cp", path, "Example");
        } finally {
            Files.deleteIfExists(room.resolve("Example.class"));
            Files.deleteIfExists(file);
            Files.deleteIfExists(room);
        }
    }

    private static List<String> linesOf(String... command) throws Exception {
        Process process = new ProcessBuilder(command).redirectError(ProcessBuilder.Redirect.INHERIT).start();
        return new String(process.getInputStream().readAllBytes()).lines().toList();
    }
}
