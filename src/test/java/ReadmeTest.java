import java.nio.file.Files;
import java.nio.file.Path;
import java.util.ArrayList;
import java.util.List;
import java.util.stream.Stream;

/** What README.md says is so: the calls of its example answer as it says, and it names the tests that there are. */
public final class ReadmeTest {
    private static final String TEXT = "b10,2;g2,1,30,0,1;w0,10,5;w0,0,5;";

    private final List<String> calls = new ArrayList<>();
    private int at;

    private ReadmeTest(String readme) {
        for (String line : readme.split("\n")) {
            if (line.startsWith("    x.")) calls.add(line.trim());
        }
    }

    private void says(String call, long answer) {
        String line = at < calls.size() ? calls.get(at++) : "no more calls";
        String[] parts = line.split(" +// ");
        Due.holds("README.md calls " + call + ": " + line, parts.length == 2 && parts[0].equals(call));
        if (parts.length == 2) Due.is("README.md: " + call, answer, Long.parseLong(parts[1]));
    }

    private void example() {
        EnoughGive x = new EnoughGive();
        says("x.odds(0);", x.odds(0));
        for (char c : TEXT.toCharArray()) x.write(1, c);
        says("x.fault();", x.fault());
        says("x.lay();", x.lay());
        says("x.odds(1);", x.odds(1));
        says("x.odds(2);", x.odds(2));
        says("x.mean(0, 0);", x.mean(0, 0));
        says("x.just(-1);", x.just(-1));
        says("x.show(1);", x.show(1));
        says("x.mean(1, 0);", x.mean(1, 0));
        says("x.evening(0, 0, 0);", x.evening(0, 0, 0));
        says("x.keep();", x.keep());
        says("x.row(0, 31);", x.row(0, 31));
        says("x.wipe();", x.wipe());
        Due.is("README.md: how many calls", calls.size(), at);
    }

    private static void tests(String readme) throws Exception {
        try (Stream<Path> files = Files.list(Path.of("src/test/java"))) {
            for (Path file : (Iterable<Path>) files::iterator) {
                String name = file.getFileName().toString().replace(".java", "");
                if (name.endsWith("Test")) Due.holds("README.md names " + name, readme.contains("`" + name + "`"));
            }
        }
        for (String part : readme.split("`")) {
            if (part.matches("[A-Za-z]+Test|PlainModel")) Due.holds("there is " + part, Files.exists(Path.of("src/test/java/" + part + ".java")));
        }
    }

    public static void main(String[] args) throws Exception {
        String readme = Files.readString(Path.of("README.md"));
        new ReadmeTest(readme).example();
        Due.holds("README.md writes the text of the example", readme.contains("for (char c : \"" + TEXT + "\".toCharArray()) x.write(1, c);"));
        Due.holds("README.md tells the text that is laid at first", readme.contains("laid is g1,1,20,0,0;w0,20,10; and THE TEXT is empty"));
        tests(readme);
        Due.end("README.md");
    }
}
