import java.io.IOException;
import java.nio.file.Files;
import java.nio.file.Path;
import java.util.ArrayList;
import java.util.List;

/** README.md's example is run as it stands there, and prints what its comments say. */
public final class ReadmeTest extends Trials {
    private static final String BEGIN = "```java";
    private static final String END = "```";
    private static final String PRINT = "System.out.println(";

    private static List<String> example() throws IOException {
        List<String> readme = Files.readAllLines(Path.of("README.md"));
        int begin = readme.indexOf(BEGIN);
        due("README.md has an example", begin >= 0, true);
        List<String> behind = readme.subList(begin + 1, readme.size());
        return behind.subList(0, Math.max(0, behind.indexOf(END)));
    }

    /** A line that prints says behind // what it prints, up to a colon if more is said. */
    private static List<String> promised(List<String> example) {
        List<String> all = new ArrayList<>();
        for (String line : example) {
            if (line.contains(PRINT)) {
                all.add(line.substring(line.indexOf("//") + 2).split(":")[0].trim());
            }
        }
        return all;
    }

    private static List<String> printed(List<String> example) throws IOException, InterruptedException {
        Path source = Files.createTempFile("Example", ".java");
        Files.writeString(source, "class Example {\npublic static void main(String[] args) {\n"
                + String.join("\n", example) + "\n}\n}\n");
        Path output = Files.createTempFile("Example", ".txt");
        new ProcessBuilder(Path.of(System.getProperty("java.home"), "bin", "java").toString(),
                "-cp", System.getProperty("java.class.path"), source.toString())
                .redirectErrorStream(true).redirectOutput(output.toFile()).start().waitFor();
        List<String> lines = Files.readAllLines(output);
        Files.delete(source);
        Files.delete(output);
        return lines;
    }

    public static void main(String[] args) throws IOException, InterruptedException {
        List<String> example = example();
        List<String> promised = promised(example);
        due("the example prints something", promised.isEmpty(), false);
        due("what the example prints", printed(example), promised);
        finish();
    }
}
