import java.io.IOException;
import java.lang.reflect.Method;
import java.nio.charset.StandardCharsets;
import java.nio.file.Files;
import java.nio.file.Path;
import java.util.regex.Matcher;
import java.util.regex.Pattern;

/** The README: its run of calls answers what it says, and its settings are those of a new disc. */
public final class ReadmeTest {
    private static final Due DUE = new Due();
    private static final Pattern CALL = Pattern.compile("disc\\.(\\w+)\\((.*)\\); +// (-?\\d+).*");
    private static final Pattern TYPED = Pattern.compile("for \\(char sign : \"(.*)\"\\.toCharArray\\(\\)\\) \\{");
    private static final Pattern SETTING = Pattern.compile("(?m)^\\| (\\d) .*\\| (\\d+) to (\\d+) +\\| (\\d+) +\\|$");

    public static void main(String[] args) throws IOException, ReflectiveOperationException {
        String text = Files.readString(Path.of("README.md"), StandardCharsets.UTF_8);
        runOfCalls(text);
        settings(text);
        names(text);
        DUE.close();
    }

    private static void runOfCalls(String text) throws ReflectiveOperationException {
        DUE.part("the run of calls");
        int from = text.indexOf("```java\n") + 8;
        LineDisc disc = new LineDisc();
        int calls = 0;
        for (String line : text.substring(from, text.indexOf("```", from)).split("\n")) {
            Matcher call = CALL.matcher(line);
            Matcher typed = TYPED.matcher(line);
            if (call.matches()) {
                DUE.due(line, answer(disc, call.group(1), call.group(2)), Long.parseLong(call.group(3)));
                calls++;
            } else if (typed.matches()) {
                Due.typeAll(disc, typed.group(1));
            } else {
                DUE.holds("that this test knows " + line, line.matches("LineDisc disc = .*|    disc.type\\(sign\\);|\\}"));
            }
        }
        DUE.holds("that there are calls", calls > 0);
    }

    private static long answer(LineDisc disc, String name, String arguments) throws ReflectiveOperationException {
        String[] written = arguments.isEmpty() ? new String[0] : arguments.split(", ");
        for (Method method : LineDisc.class.getMethods()) {
            if (method.getName().equals(name) && method.getParameterCount() == written.length) {
                Object[] values = new Object[written.length];
                for (int i = 0; i < written.length; i++) {
                    boolean truth = method.getParameterTypes()[i] == boolean.class;
                    values[i] = truth ? (Object) Boolean.valueOf(written[i]) : (Object) Integer.valueOf(written[i]);
                }
                return ((Number) method.invoke(disc, values)).longValue();
            }
        }
        throw new NoSuchMethodException(name);
    }

    private static void settings(String text) {
        DUE.part("the settings");
        Matcher setting = SETTING.matcher(text);
        int which = 0;
        for (; setting.find(); which++) {
            LineDisc disc = new LineDisc();
            int low = Integer.parseInt(setting.group(2));
            int high = Integer.parseInt(setting.group(3));
            int first = Integer.parseInt(setting.group(4));
            DUE.due("number", Integer.parseInt(setting.group(1)), which);
            DUE.due("count of " + which, disc.count(17 + which), first);
            DUE.due("set below " + which, disc.set(which, low - 1), LineDisc.BAD_VALUE);
            DUE.due("set above " + which, disc.set(which, high + 1), LineDisc.BAD_VALUE);
            DUE.due("set highest " + which, disc.set(which, high), first);
            DUE.due("set lowest " + which, disc.set(which, low), high);
        }
        DUE.due("settings", which, 6);
    }

    /** Each call of the face and each constant with its number is named. */
    private static void names(String text) {
        DUE.part("names");
        for (Method method : LineDisc.class.getMethods()) {
            if (method.getDeclaringClass() == LineDisc.class) {
                DUE.holds(method.getName() + " is named", text.contains("`" + method.getName() + "`"));
            }
        }
        String[] constants = {"`UNKNOWN` (-1)", "`BAD_VALUE` (-2)", "`FULL` (-3)", "`NOT_POSSIBLE` (-4)", "`NONE` (-5"};
        for (String constant : constants) {
            DUE.holds(constant + " is named", text.contains(constant));
        }
    }
}
