import java.io.IOException;
import java.nio.charset.StandardCharsets;
import java.nio.file.Files;
import java.nio.file.Path;
import java.util.ArrayList;
import java.util.Comparator;
import java.util.List;
import java.util.stream.Stream;

/** The example in README.md is compiled and run, and prints what its remarks say. */
public final class ReadmeTest {
    private static final String PRINTS = "System.out.println(";

    public static void main(String[] args) throws IOException, InterruptedException {
        String example = example(Files.readString(Path.of("README.md"), StandardCharsets.UTF_8));
        List<String> due = remarks(example);
        List<String> printed = printed(example);
        Due.is("the example prints something", due.size() > 10, true);
        Due.is("lines that the example prints", printed.size(), due.size());
        for (int i = 0; i < Math.min(due.size(), printed.size()); i++) {
            Due.is("line " + i + " of the example", Long.parseLong(printed.get(i)), Long.parseLong(due.get(i)));
        }
        Due.end("ReadmeTest");
    }

    private static String example(String readme) {
        int start = readme.indexOf("```java\n");
        int end = readme.indexOf("\n```\n", start);
        return start < 0 || end < 0 ? "" : readme.substring(start + "```java\n".length(), end + 1);
    }

    /** The number at the start of each remark behind a line that prints. */
    private static List<String> remarks(String example) {
        List<String> all = new ArrayList<>();
        for (String line : example.split("\n")) {
            int remark = line.indexOf("// ");
            if (line.contains(PRINTS)) {
                all.add(line.substring(remark + 3).split("[: ]")[0]);
            }
        }
        return all;
    }

    private static List<String> printed(String example) throws IOException, InterruptedException {
        Path place = Files.createTempDirectory("readme");
        try {
            Path file = Files.writeString(place.resolve("Example.java"), example);
            Path lines = place.resolve("lines");
            Due.is("exit code of javac", run(place.resolve("said"), "javac", "-d", place.toString(),
                    "src/main/java/LeasedTree.java", file.toString()), 0);
            Due.is("exit code of java", run(lines, "java", "-cp", place.toString(), "Example"), 0);
            return Files.readAllLines(lines);
        } finally {
            remove(place);
        }
    }

    private static int run(Path output, String... command) throws IOException, InterruptedException {
        ProcessBuilder builder = new ProcessBuilder(command).redirectOutput(output.toFile());
        return builder.redirectError(ProcessBuilder.Redirect.INHERIT).start().waitFor();
    }

    private static void remove(Path place) throws IOException {
        try (Stream<Path> files = Files.walk(place)) {
            for (Path file : files.sorted(Comparator.reverseOrder()).toList()) {
                Files.delete(file);
            }
        }
    }
}
