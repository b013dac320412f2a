import java.io.IOException;
import java.lang.reflect.Method;
import java.nio.file.Files;
import java.nio.file.Path;
import java.util.regex.Matcher;
import java.util.regex.Pattern;

/** The calls of README.md, on one object from top to bottom, with the answers that it tells behind them. */
public final class ReadmeTests extends Checks {
    private static final Pattern CALL = Pattern.compile("court\\.(\\w+)\\((.*)\\); *// (-?\\w+).*");
    private static final int FEWEST_CALLS = 20;

    public static void main(String[] args) throws IOException, ReflectiveOperationException {
        ParapetCourt court = new ParapetCourt();
        int calls = 0;
        for (String line : Files.readAllLines(Path.of("README.md"))) {
            Matcher m = CALL.matcher(line);
            if (m.matches()) {
                calls++;
                is(line, answer(court, m.group(1), m.group(2)), m.group(3));
            } else if (line.startsWith("court.")) {
                tellWrong("a call of README.md without an answer: " + line);
            }
        }
        is("enough calls are told", calls >= FEWEST_CALLS, true);
        end("README.md is right");
    }

    private static String answer(ParapetCourt court, String name, String told) throws ReflectiveOperationException {
        String[] texts = told.isEmpty() ? new String[0] : told.split(", *");
        for (Method m : ParapetCourt.class.getMethods()) {
            if (m.getName().equals(name) && m.getParameterCount() == texts.length) {
                Object[] values = new Object[texts.length];
                for (int i = 0; i < texts.length; i++) {
                    boolean isWord = m.getParameterTypes()[i] == boolean.class;
                    values[i] = isWord ? (Object) Boolean.valueOf(texts[i]) : (Object) Integer.decode(texts[i]);
                }
                return String.valueOf(m.invoke(court, values));
            }
        }
        return "there is no such call";
    }
}
