import java.io.IOException;
import java.nio.file.Files;
import java.nio.file.Path;
import java.util.List;

/** What README.md shows is what the class answers, and its lists have every call and every test. */
public final class ReadmeTest {
    private static final Check check = new Check("ReadmeTest");
    private static final Path README = Path.of("README.md");
    private static final Path SELF = Path.of("src/test/java/ReadmeTest.java");

    public static void main(String[] args) throws IOException {
        aFlight();
        aText();
        List<String> lines = Files.readAllLines(README);
        examplesStandHere(lines);
        everyCall(String.join("\n", lines));
        everyTest(String.join("\n", lines));
        check.end();
    }

    private static void aFlight() {
        FasterToBeLater x = new FasterToBeLater();
        int ship = x.ship(0, 0, 1, 9);
        int station = x.ship(4, 1, 2, 0);
        int soonest = x.soonest(ship, station);
        int first = x.way(ship, station, 0);
        int second = x.way(ship, station, 1);
        int cost = x.change(ship, 1);
        int hits = x.step(2);
        int meets = x.meets(ship, station);
        int wrong = x.change(ship, 3);
        int refusals = x.status(12);
        long[] got = {ship, station, soonest, first, second, cost, hits, meets, wrong, refusals};
        long[] due = {0, 1, 2, 1, 0, 1, 0, 1, -2, 1};
        for (int i = 0; i < due.length; i++) {
            check.due("line " + (i + 2) + " of the first example", got[i], due[i]);
        }
    }

    private static void aText() {
        FasterToBeLater y = new FasterToBeLater();
        String text = "circles 3; cost 0 2; ship 5 0 0 drops 20; ship 3 0 0; step 4";
        for (int i = 0; i < text.length(); i++) {
            y.feed(text.charAt(i));
        }
        int statements = y.world();
        int circles = y.status(0);
        int bolts = y.status(3);
        check.due("statements", statements, 5);
        check.due("circles", circles, 3);
        check.due("hits", bolts, 4);
    }

    /** The examples in README.md, line by line, but for what their comments say. */
    private static void examplesStandHere(List<String> readme) throws IOException {
        String self = Files.readString(SELF).replaceAll("\\s+", " ");
        boolean isExample = false;
        int count = 0;
        for (String line : readme) {
            if (line.startsWith("```")) {
                isExample = line.equals("```java");
            } else if (isExample && !line.isBlank()) {
                String code = line.replaceAll("\\s*//.*", "").trim();
                count++;
                check.due("'" + code + "' is tried here", self.contains(code) ? 1 : 0, 1);
            }
        }
        check.due("README.md has examples", count > 10 ? 1 : 0, 1);
    }

    private static void everyCall(String readme) {
        for (java.lang.reflect.Method m : FasterToBeLater.class.getDeclaredMethods()) {
            if (java.lang.reflect.Modifier.isPublic(m.getModifiers())) {
                check.due(m.getName() + " is told of", readme.contains("`" + m.getName() + "(") ? 1 : 0, 1);
            }
        }
    }

    private static void everyTest(String readme) throws IOException {
        try (java.util.stream.Stream<Path> files = Files.list(SELF.getParent())) {
            for (Path file : files.toList()) {
                String name = file.getFileName().toString().replace(".java", "");
                check.due(name + " is told of", readme.contains(name) ? 1 : 0, 1);
            }
        }
    }
}
