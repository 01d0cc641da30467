import java.io.IOException;
import java.nio.file.Files;
import java.nio.file.Path;
import java.util.List;

/** The example of README.md answers what it says, and it is the one that is run here. */
public final class ReadmeTest {
    private static final Check check = new Check();
    private static final Path README = Path.of("README.md");
    private static final Path THIS = Path.of("src/test/java/ReadmeTest.java");

    public static void main(String[] args) throws IOException {
        example();
        exampleStandsHere();
        check.end();
    }

    private static void example() {
        TraitFlattener x = new TraitFlattener(2, 2, 3, 8);

        int five = x.beginBody();
        x.emit(TraitFlattener.OP_CONST, 5);
        int climb = x.beginBody();
        x.emit(TraitFlattener.OP_SUPER, 0);
        x.emit(TraitFlattener.OP_ADD, 100);
        int twice = x.beginBody();
        x.emit(TraitFlattener.OP_MUL, 2);

        x.define(0, 0, five);
        x.define(TraitFlattener.TRAIT_BASE + 0, 0, climb);
        x.define(TraitFlattener.TRAIT_BASE + 1, 0, twice);
        x.setSuper(1, 0);

        answers("0", x.use(1, 0));
        answers("105", x.run(1, 0, 7));
        answers("STATUS_OK", x.runStatus());

        int second = x.use(1, 1);
        answers("CONFLICT", x.provided(1, 0));
        answers("0", x.run(1, 0, 7));
        answers("STATUS_CONFLICT", x.runStatus());

        x.exclude(second, 0);
        x.alias(second, 2, 0);
        answers("105", x.run(1, 0, 7));
        answers("14", x.run(1, 2, 7));
        answers("1", x.lookup(1, 2, TraitFlattener.KIND_SELF_HOME));
    }

    private static void answers(String due, int got) {
        int want = switch (due) {
            case "STATUS_OK" -> TraitFlattener.STATUS_OK;
            case "STATUS_CONFLICT" -> TraitFlattener.STATUS_CONFLICT;
            case "CONFLICT" -> TraitFlattener.CONFLICT;
            default -> Integer.parseInt(due);
        };
        check.same("the example, where " + due + " is told,", got, want);
    }

    private static void exampleStandsHere() throws IOException {
        List<String> told = between(README, "```java", "```").stream().map(ReadmeTest::asRunHere).toList();
        List<String> run = between(THIS, "private static void example() {", "}");
        check.yes("README.md has an example", !told.isEmpty());
        check.yes("the example of README.md is " + told + ", here it is " + run, told.equals(run));
    }

    /** The lines after the first and before the second, without the empty ones. */
    private static List<String> between(Path file, String first, String second) throws IOException {
        return Files.readAllLines(file).stream().map(String::strip).dropWhile(line -> !line.equals(first)).skip(1)
                .takeWhile(line -> !line.equals(second)).filter(line -> !line.isEmpty()).toList();
    }

    /** "call;   // answers due: why" stands here as "answers("due", call);", and every other line as it is. */
    private static String asRunHere(String line) {
        String[] parts = line.split(" *// ", 2);
        if (parts.length < 2 || !parts[1].startsWith("answers ")) {
            return parts[0];
        }
        String due = parts[1].substring("answers ".length()).split(":")[0];
        return "answers(\"" + due + "\", " + parts[0].replaceFirst(";$", "") + ");";
    }
}
