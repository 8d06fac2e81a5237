import java.io.IOException;
import java.nio.file.Path;

/** Every sentence of the document that names a boundary has a test of its own; and every sentence is quoted by one. */
public final class BoundaryTest {
    public static void main(String[] args) throws IOException {
        Boundary.open(Path.of("../shared/DOC.md"));
        Boundary[] groups = {new BoundaryTexts(), new BoundaryTree(), new BoundaryActs(), new BoundaryLooks(),
            new BoundaryBest()};
        for (Boundary group : groups) {
            group.run();
        }
        quoted("Terms 1", "## Terms ", " 2. Each ARC has a FLOW");
        quoted("Terms 2", "## Terms ", " 3. Each reading of a text");
        quoted("Terms 3", "## Terms ", "Ahead of the calls `pivot`");
        for (int n = 1; n <= 35; n++) {
            String name = "## Promise " + n + ": ";
            quoted(name, name, n == 35 ? "## Not promised" : "## Promise " + (n + 1) + ":");
        }
        System.out.println(Boundary.checked() + " answers looked at, " + Boundary.wrong() + " wrong");
        if (Boundary.wrong() != 0) {
            System.exit(1);
        }
    }

    private static void quoted(String name, String from, String to) {
        String left = Boundary.uncovered(from, to);
        // The numbers of the terms need no test.
        if (!left.replaceAll("\\b[123]\\b", "").isBlank()) {
            Boundary.complain(name + " has words that no test quotes: " + left);
        }
    }
}
