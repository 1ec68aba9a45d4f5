import java.lang.reflect.Method;
import java.nio.file.Files;
import java.nio.file.Path;
import java.util.regex.Matcher;
import java.util.regex.Pattern;

/** The examples of README.md: each call answers the number that stands behind it. */
final class ReadmeTest {
    private static final Pattern CALL = Pattern.compile("market\\.(\\w+)\\((.*?)\\);\\s*// (-?\\d+): .*");

    public static void main(String[] args) throws Exception {
        SlackMarket market = null;
        int examples = 0;
        boolean inExample = false;
        for (String line : Files.readAllLines(Path.of("README.md"))) {
            if (line.startsWith("```")) {
                inExample = line.equals("```java");
            } else if (inExample && line.equals("SlackMarket market = new SlackMarket();")) {
                market = new SlackMarket();
                examples++;
            } else if (inExample) {
                call(market, line);
            }
        }
        Check.is("examples", examples, 2);
        Check.end();
    }

    private static void call(SlackMarket market, String line) throws Exception {
        Matcher matcher = CALL.matcher(line);
        Check.holds("a call and its answer: " + line, matcher.matches());
        String[] texts = matcher.group(2).isEmpty() ? new String[0] : matcher.group(2).split(", ");
        for (Method method : SlackMarket.class.getMethods()) {
            if (method.getName().equals(matcher.group(1)) && method.getParameterCount() == texts.length) {
                Object[] values = new Object[texts.length];
                for (int i = 0; i < values.length; i++) {
                    values[i] = value(texts[i], method.getParameterTypes()[i]);
                }
                long answer = ((Number) method.invoke(market, values)).longValue();
                Check.is(line, answer, Long.parseLong(matcher.group(3)));
                return;
            }
        }
        Check.holds("there is such a method: " + line, false);
    }

    private static Object value(String text, Class<?> type) {
        if (type == long.class) {
            return Long.decode(text.replace("L", ""));
        }
        return text.equals("SlackMarket.NONE") ? SlackMarket.NONE : Integer.parseInt(text);
    }
}
