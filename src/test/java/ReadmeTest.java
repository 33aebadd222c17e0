import java.io.IOException;
import java.lang.reflect.Method;
import java.lang.reflect.Modifier;
import java.nio.file.Files;
import java.nio.file.Path;
import java.util.regex.Matcher;
import java.util.regex.Pattern;

/** What README.md tells of the use: its runs of calls, with the answers that it tells. */
public final class ReadmeTest {
    private static final Path FILE = Path.of("README.md");
    private static final Pattern TELL = Pattern.compile("tell\\(x, \"([^\"]*)\"\\);");
    private static final Pattern CALL = Pattern.compile("x\\.(\\w+\\([^)]*\\)); +// (-?\\d+|NO): .*");
    private static final String NEW = "BallotWays x = new BallotWays();";

    public static void main(String[] args) throws IOException {
        Check check = new Check();
        String text = Files.readString(FILE);
        Runner runner = new Runner(check);
        int calls = 0;
        for (String line : text.split("\n")) {
            Matcher tell = TELL.matcher(line);
            Matcher call = CALL.matcher(line);
            runner.about("README: " + line);
            if (line.equals(NEW)) {
                runner.run("new");
            } else if (tell.matches()) {
                runner.run("'" + tell.group(1) + "'");
            } else if (call.matches()) {
                runner.run(call.group(1) + "=" + call.group(2));
                calls++;
            } else {
                check.isTrue("README: a call with its answer: " + line, !line.matches("(x\\.|tell\\(|BallotWays x).*"));
            }
        }
        check.isTrue("README: calls are met", calls > 0);
        for (Method m : BallotWays.class.getDeclaredMethods()) {
            boolean met = Pattern.compile("\\b" + m.getName() + "\\b").matcher(text).find();
            check.isTrue("README names " + m.getName(), met || !Modifier.isPublic(m.getModifiers()));
        }
        check.end();
    }
}
