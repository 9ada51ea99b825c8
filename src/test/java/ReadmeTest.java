import java.io.IOException;
import java.nio.charset.StandardCharsets;
import java.nio.file.Files;
import java.nio.file.Path;
import java.util.regex.Matcher;
import java.util.regex.Pattern;
import javax.tools.ToolProvider;

/** README.md: its program prints what stands below it, and each method and test class is named there. */
public final class ReadmeTest {
    private static final Check CHECK = new Check();

    public static void main(String[] args) throws Exception {
        String readme = Files.readString(Path.of("README.md"));
        exampleProgram(readme);
        methodsAndTests(readme);
        CHECK.end("ReadmeTest");
    }

    private static void exampleProgram(String readme) throws Exception {
        String program = block(readme, "```java\n");
        String due = block(readme, "It prints:\n\n```\n");
        Path folder = Files.createTempDirectory("readme");
        Path source = folder.resolve("Example.java");
        Files.writeString(source, program);
        int answer = ToolProvider.getSystemJavaCompiler().run(null, null, null, "-d", folder.toString(),
            "src/main/java/HexArbiter.java", source.toString());
        CHECK.same("the program compiles", 0, answer);
        if (answer == 0) {
            CHECK.same("what the program prints", due, printed(folder));
        }
        delete(folder);
    }

    private static String block(String readme, String head) {
        int start = readme.indexOf(head);
        int end = start < 0 ? -1 : readme.indexOf("```", start + head.length());
        CHECK.isTrue("there is a block behind " + head, end >= 0);
        return end < 0 ? "" : readme.substring(start + head.length(), end);
    }

    private static String printed(Path folder) throws Exception {
        Process process = new ProcessBuilder(Path.of(System.getProperty("java.home"), "bin", "java").toString(),
            "-cp", folder.toString(), "Example").redirectErrorStream(true).start();
        String text = new String(process.getInputStream().readAllBytes(), StandardCharsets.UTF_8);
        CHECK.same("the program ends well", 0, process.waitFor());
        return text;
    }

    private static void delete(Path folder) throws IOException {
        try (var files = Files.list(folder)) {
            for (Path file : files.toList()) {
                Files.delete(file);
            }
        }
        Files.delete(folder);
    }

    private static void methodsAndTests(String readme) throws IOException {
        Matcher face = Pattern.compile("\n    public \\w+ (\\w+)\\(").matcher(
            Files.readString(Path.of("src/main/java/HexArbiter.java")));
        while (face.find()) {
            CHECK.isTrue("README.md names " + face.group(1), readme.contains("`" + face.group(1) + "`"));
        }
        try (var files = Files.list(Path.of("src/test/java"))) {
            for (Path file : files.filter(one -> one.toString().endsWith("Test.java")).toList()) {
                String name = file.getFileName().toString().replace(".java", "");
                CHECK.isTrue("README.md names " + name, readme.contains("`" + name + "`"));
            }
        }
    }
}
