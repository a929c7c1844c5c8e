import java.nio.file.Files;
import java.nio.file.Path;
import java.util.ArrayList;
import java.util.List;
import java.util.regex.Matcher;
import java.util.regex.Pattern;

/** The answers that README.md tells behind the calls of its example are those of the class. */
public final class ReadmeTest {
    private static final Pattern TEXT = Pattern.compile("String text = \"([^\"]*)\";");
    private static final Pattern ASKED = Pattern.compile("x\\.(\\w+)\\((.*)\\); +// (-?\\d+): .*");

    public static void main(String[] args) throws Exception {
        String text = "";
        List<Matcher> calls = new ArrayList<>();
        for (String line : Files.readAllLines(Path.of("README.md"))) {
            Matcher told = TEXT.matcher(line);
            if (told.matches()) {
                text = told.group(1);
            }
            Matcher asked = ASKED.matcher(line);
            if (asked.matches()) {
                calls.add(asked);
            }
        }
        Check.due("the calls of README.md", 18, calls::size);
        DecisionChain x = new DecisionChain();
        Check.append(x, text);
        for (Matcher call : calls) {
            String arguments = call.group(2).replace("text.length()", String.valueOf(text.length()));
            int[] numbers = numbersOf(arguments);
            Check.due(call.group(), call.group(3), () -> answer(x, call.group(1), numbers));
        }
        Check.due("the text of the report", "0:500,1:500", () -> Check.report(x, 1));
        Check.finish();
    }

    private static int[] numbersOf(String arguments) {
        if (arguments.isEmpty()) {
            return new int[0];
        }
        String[] parts = arguments.split(", ");
        int[] numbers = new int[parts.length];
        for (int i = 0; i < parts.length; i++) {
            numbers[i] = Integer.parseInt(parts[i]);
        }
        return numbers;
    }

    private static Object answer(DecisionChain x, String name, int[] a) {
        return switch (name) {
            case "load" -> x.load(a[0]);
            case "flow" -> x.flow(a[0], a[1]);
            case "gainOfRun" -> x.gainOfRun();
            case "left" -> x.left(a[0]);
            case "bestAction" -> x.bestAction(a[0]);
            case "worth" -> x.worth(a[0], a[1]);
            case "save" -> x.save(a[0]);
            case "setLimit" -> x.setLimit(a[0], a[1]);
            case "broken" -> x.broken();
            case "takeBest" -> x.takeBest();
            case "weight" -> x.weight(a[0], a[1]);
            case "walk" -> x.walk();
            case "undoable" -> x.undoable();
            case "undo" -> x.undo();
            case "restore" -> x.restore(a[0]);
            case "limit" -> x.limit(a[0]);
            case "report" -> x.report(a[0]);
            case "reportByte" -> x.reportByte(a[0]);
            default -> "a call that this test does not know";
        };
    }
}
