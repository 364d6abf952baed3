import java.io.IOException;
import java.lang.reflect.Method;
import java.nio.file.Files;
import java.nio.file.Path;
import java.util.List;
import java.util.regex.Matcher;
import java.util.regex.Pattern;

/** What README.md tells: the answers of its example, and the names and refusals of its table. */
public final class ReadmeTest {
    private static final Check CHECK = new Check();
    private static final Pattern CALL = Pattern.compile("x\\.(\\w+)\\(([^)]*)\\);");
    private static final Pattern ANSWER = Pattern.compile("// (-?\\d+)");

    public static void main(String[] args) throws IOException, ReflectiveOperationException {
        List<String> lines = Files.readAllLines(Path.of("README.md"));
        example(lines);
        refusals(lines);
        testsAreNamed(lines);
        CHECK.end();
    }

    /** Each line makes its calls; the number behind // is what the last of them answers. */
    private static void example(List<String> lines) throws ReflectiveOperationException {
        SecondBest x = new SecondBest();
        int told = 0;
        for (String line : lines) {
            Matcher call = CALL.matcher(line);
            long got = 0;
            while (line.startsWith("x.") && call.find()) {
                got = made(x, call.group(1), call.group(2));
            }
            Matcher answer = ANSWER.matcher(line);
            if (line.startsWith("x.")) {
                CHECK.that("an answer is told: " + line, answer.find());
                CHECK.due(line, got, Long.parseLong(answer.group(1)));
                told++;
            }
        }
        CHECK.that("lines of the example", told > 20);
    }

    private static long made(SecondBest x, String name, String args) throws ReflectiveOperationException {
        for (Method method : SecondBest.class.getMethods()) {
            if (method.getName().equals(name)) {
                String[] parts = args.isEmpty() ? new String[0] : args.split(", ");
                Object[] numbers = new Object[parts.length];
                for (int i = 0; i < parts.length; i++) {
                    long v = parts[i].startsWith("'") ? parts[i].charAt(1) : Long.parseLong(parts[i]);
                    numbers[i] = method.getParameterTypes()[i] == long.class ? (Object) v : (Object) (int) v;
                }
                return ((Number) method.invoke(x, numbers)).longValue();
            }
        }
        throw new AssertionError("no call " + name);
    }

    private static void refusal(List<String> lines, long number, long got, String call) {
        CHECK.due(call, got, number);
        boolean isTold = false;
        for (String line : lines) {
            isTold |= line.startsWith("| " + number + " ") && line.contains("`" + call.substring(0, call.indexOf('(')) + "`");
        }
        CHECK.that(call + " is in the table of answers below 0", isTold || number == -1);
    }

    /** Each call that the table names answers so. */
    private static void refusals(List<String> lines) {
        SecondBest torn = Made.with(3, 1, 12, 20);
        torn.mend(2, 1, 0);
        refusal(lines, -2, torn.clash(), "clash()");
        refusal(lines, -2, torn.days(1, 2), "days(1, 2)");
        refusal(lines, -2, torn.next(0, 0), "next(0, 0)");
        torn.undo();
        refusal(lines, -2, torn.orders(0), "orders(0)");
        refusal(lines, -2, torn.proof(0), "proof(0)");
        refusal(lines, -2, torn.longest(1), "longest(1)");
        SecondBest full = World.FULL.make();
        refusal(lines, -3, full.player(1), "player(1)");
        refusal(lines, -3, full.match(1), "match(1)");
        refusal(lines, -3, World.STORED.make().feed(1), "feed(1)");
        refusal(lines, -3, World.STORED.make().body(1), "body(1)");
        SecondBest none = new SecondBest();
        refusal(lines, -5, none.ask(0, 0), "ask(0, 0)");
        refusal(lines, -5, none.proof(0), "proof(0)");
        refusal(lines, -5, none.worst(0), "worst(0)");
        refusal(lines, -5, none.mean(0, 0), "mean(0, 0)");
        refusal(lines, -5, none.next(0, 0), "next(0, 0)");
        refusal(lines, -5, World.ONE.make().friend(0), "friend(0)");
        refusal(lines, -5, World.ONE.make().lots(0, 1, 0), "lots(0, 1, 0)");
        refusal(lines, -5, none.champion(0), "champion(0)");
        refusal(lines, -5, none.table(0, 2), "table(0, 2)");
        refusal(lines, -5, none.undo(), "undo()");
        refusal(lines, -5, none.redo(), "redo()");
        SecondBest four = World.FOUR.make();
        refusal(lines, -11, four.put(0, 0, 1), "put(0, 0, 1)");
        refusal(lines, -11, four.shift(0, 0, 2, 0, 1), "shift(0, 0, 2, 0, 1)");
        refusal(lines, -11, four.taken(0, 0), "taken(0, 0)");
        refusal(lines, -12, four.matches(1, 0, 1), "matches(1, 0, 1)");
        refusal(lines, -12, four.put(1, 0, 1), "put(1, 0, 1)");
        refusal(lines, -12, four.shift(1, 0, 2, 0, 1), "shift(1, 0, 2, 0, 1)");
        refusal(lines, -12, four.taken(2, 0), "taken(2, 0)");
        refusal(lines, -13, four.put(2, 6, 1), "put(2, 6, 1)");
        refusal(lines, -13, four.shift(2, 0, 2, 1, 6), "shift(2, 0, 2, 1, 6)");
        refusal(lines, -14, four.row(2, 0, -1), "row(2, 0, -1)");
    }

    /** Every test of the project stands in the table of tests. */
    private static void testsAreNamed(List<String> lines) throws IOException {
        String whole = String.join("\n", lines);
        try (java.util.stream.Stream<Path> files = Files.list(Path.of("src/test/java"))) {
            files.map(f -> f.getFileName().toString()).filter(n -> n.endsWith(".java")).forEach(n ->
                CHECK.that(n + " stands in README.md", whole.contains("`" + n.replace(".java", "") + "`")));
        }
    }
}
