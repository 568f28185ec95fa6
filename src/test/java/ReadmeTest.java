import java.io.IOException;
import java.nio.file.Files;
import java.nio.file.Path;
import java.util.ArrayList;
import java.util.List;

/** The example in README.md: its lines are those of example() here, and what it says of their answers holds. */
public final class ReadmeTest {
    private static final Check check = new Check();

    private static void example() {
        // README.md begins here.
        ContentsSetter setter = new ContentsSetter();
        // "book width 40 lines 10 page 20;section 1 lines 5 preface;" in steps of 20 bytes
        setter.append(0x626f6f6b, 0x20776964, 0x74682034, 0x30206c69, 0x6e657320);
        setter.append(0x31302070, 0x61676520, 0x32303b73, 0x65637469, 0x6f6e2031);
        setter.append(0x206c696e, 0x65732035, 0x20707265, 0x66616365, 0x3b202020);
        setter.truncate(57);
        int sections = setter.load();          // 1, or PARSE_ERROR: see errorCode() and errorPosition()
        int page = setter.page(0);             // 2: the front part begins behind the table
        int length = setter.writeTable();      // outputByte(0) to outputByte(length - 1) are the table
        setter.setLength(0, 30);               // the next answers are those of the longer section
        setter.undo();
        // README.md ends here.
        check.due("sections", 1, sections);
        check.due("page", 2, page);
        // "preface" takes 12 units, ii 2: the dots stand at 15, 18, .. 36.
        check.due("table", "preface ........ ii\n", Driver.output(setter, length));
        check.due("undone", 5, setter.section(0, 1));
    }

    /** The lines between the one that ends with the first text and the next one that is the second, without blanks. */
    private static List<String> linesBetween(String file, String first, String second) throws IOException {
        List<String> lines = new ArrayList<>();
        boolean inside = false;
        for (String line : Files.readAllLines(Path.of(file))) {
            if (inside && line.strip().equals(second)) {
                return lines;
            }
            if (inside) {
                lines.add(line.strip());
            }
            inside = inside || line.strip().equals(first);
        }
        throw new IllegalStateException("no end in " + file);
    }

    public static void main(String[] args) throws IOException {
        example();
        check.due("README.md shows the example", String.join("\n",
                linesBetween("src/test/java/ReadmeTest.java", "// README.md begins here.", "// README.md ends here.")),
                String.join("\n", linesBetween("README.md", "```java", "```")));
        check.end();
    }
}
