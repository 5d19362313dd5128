import java.io.IOException;
import java.nio.file.Files;
import java.nio.file.Path;
import java.util.ArrayList;
import java.util.List;

/** The example of README.md, line by line: what its comments say is what the class answers. */
public final class ReadmeTest {
    private static final Due DUE = new Due("ReadmeTest");

    private final List<String> lines;
    private int read;

    private ReadmeTest(List<String> lines) {
        this.lines = lines;
    }

    public static void main(String[] args) throws IOException {
        new ReadmeTest(example(Files.readAllLines(Path.of("README.md")))).run();
        DUE.end();
    }

    private static List<String> example(List<String> readme) {
        List<String> lines = new ArrayList<>();
        boolean inside = false;
        for (String line : readme) {
            if (line.startsWith("```")) {
                inside = line.equals("```java");
            } else if (inside && !line.isBlank()) {
                lines.add(line);
            }
        }
        return lines;
    }

    private void run() {
        LeafOrder book = new LeafOrder();
        line("LeafOrder book = new LeafOrder();", "");
        int a = book.leaf(0, 5, 5, 10);
        line("int a = book.leaf(0, 5, 5, 10);", a);
        int b = book.leaf(10, 15, 15, 20);
        line("int b = book.leaf(10, 15, 15, 20);", b);
        int c = book.leaf(25, 30, 20, 25);
        line("int c = book.leaf(25, 30, 20, 25);", c);
        int d = book.leaf(80, 85, 85, 90);
        line("int d = book.leaf(80, 85, 85, 90);", d);
        line("book.catchword(a, 1, 10);", book.catchword(a, 1, 10));
        line("book.cut(a, 1, 0, 7);", book.cut(a, 1, 0, 7));
        line("book.cut(b, 0, 7, 0);", book.cut(b, 0, 7, 0));
        line("book.stain(a, 0, 3);", book.stain(a, 0, 3));
        line("book.stain(b, 0, 4);", book.stain(b, 0, 4));
        line("book.weights(1, 2, 20, 10, 3, 40);", book.weights(1, 2, 20, 10, 3, 40));
        line("book.must(a, d, false, true);", book.must(a, d, false, true));
        line("book.join(a, false, b, false);", book.join(a, false, b, false));
        line("book.best();", book.best());
        line("book.at(2, 0);", book.at(2, 0));
        line("book.at(2, 1);", book.at(2, 1));
        line("book.at(3, 2);", book.at(3, 2));
        line("book.next();", book.next());
        line("book.sure(a, b, 20);", book.sure(a, b, 20));
        line("book.sure(b, c, 20);", book.sure(b, c, 20));
        line("book.two();", book.two());
        line("book.book(d);", book.book(d));
        line("book.doubt(d, 10);", book.doubt(d, 10));
        line("book.doubt(d, 30);", book.doubt(d, 30));
        line("book.about(0);", book.about(0));
        DUE.is("lines of the example", lines.size(), read);
    }

    private void line(String call, Object answer) {
        String line = read < lines.size() ? lines.get(read) : "";
        read++;
        String[] parts = line.split("//", 2);
        String told = parts.length < 2 ? "" : parts[1].split(":", 2)[0].trim();
        DUE.yes("README.md has " + call, parts[0].trim().equals(call));
        DUE.yes(call + " answers " + answer + ", README.md says " + told,
                told.equals(String.valueOf(answer)));
    }
}
