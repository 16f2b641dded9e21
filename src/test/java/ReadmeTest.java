import java.io.IOException;
import java.nio.file.Files;
import java.nio.file.Path;
import java.util.ArrayList;
import java.util.List;

/** README.md's example: its lines are run as they stand there, each with the answer told behind it. */
public final class ReadmeTest extends Answers {
    private static final String OBJECT = "rules.";

    public static void main(String[] args) throws IOException {
        PortRules x = new PortRules();
        List<String> lines = example(Files.readAllLines(Path.of("README.md")));
        due("lines of calls in the example", 18, lines.size());
        for (String line : lines) {
            String call = line.substring(OBJECT.length(), line.indexOf(';'));
            due(call, told(line), answer(x, call));
        }
        end();
    }

    private static List<String> example(List<String> readme) {
        List<String> lines = new ArrayList<>();
        for (String line : readme) {
            if (line.startsWith(OBJECT)) {
                lines.add(line);
            }
        }
        return lines;
    }

    private static int told(String line) {
        String comment = line.substring(line.indexOf("//") + 2).trim();
        return Integer.parseInt(comment.split(":")[0]);
    }

    private static int answer(PortRules x, String call) {
        String name = call.substring(0, call.indexOf('('));
        String[] given = call.substring(call.indexOf('(') + 1, call.indexOf(')')).split(", ");
        switch (name) {
            case "part":
                return x.part(number(given, 0));
            case "port":
                return x.port(number(given, 0), number(given, 1), Boolean.parseBoolean(given[2]));
            case "unit":
                return x.unit(number(given, 0), number(given, 1), number(given, 2), number(given, 3));
            case "connect":
                return x.connect(number(given, 0), number(given, 1));
            case "at":
                return x.at(number(given, 0), number(given, 1));
            case "open":
                return x.open(number(given, 0));
            case "flatten":
                return x.flatten();
            case "check":
                return x.check();
            default:
                throw new IllegalStateException("ReadmeTest does not know the call " + call);
        }
    }

    private static int number(String[] given, int i) {
        return Integer.parseInt(given[i]);
    }
}
