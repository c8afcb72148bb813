import java.io.IOException;
import java.nio.file.Files;
import java.nio.file.Path;
import java.util.ArrayList;
import java.util.List;

/** The document, the class's source and README.md, as the tests look at them. */
final class Texts {
    private static final Path ROOT = Path.of(System.getProperty("project.root", "."));

    private Texts() {
    }

    static List<String> source() throws IOException {
        return Files.readAllLines(ROOT.resolve(Path.of("src", "main", "java", "DiagramHouse.java")));
    }

    static List<String> readme() throws IOException {
        return Files.readAllLines(ROOT.resolve("README.md"));
    }

    /** The public face: the lines of the document's code block, without the last bracket. */
    static List<String> face() throws IOException {
        List<String> lines = block(Files.readAllLines(ROOT.resolve(Path.of("..", "shared", "DOC.md"))));
        lines.removeIf(line -> line.equals("}"));
        return lines;
    }

    /** The lines of the face that are methods: result, name, arguments and exceptions. */
    static List<String> methods() throws IOException {
        List<String> methods = new ArrayList<>();
        for (String line : face()) {
            if (line.matches("public \\w+ \\w+\\(.*;")) {
                methods.add(line.substring("public ".length(), line.length() - 1));
            }
        }
        return methods;
    }

    /** The first block of Java in a text. */
    static List<String> block(List<String> lines) {
        List<String> block = new ArrayList<>();
        int i = lines.indexOf("```java") + 1;
        while (i > 0 && i < lines.size() && !lines.get(i).equals("```")) {
            block.add(lines.get(i).trim());
            i++;
        }
        return block;
    }
}
