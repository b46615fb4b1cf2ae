import java.lang.reflect.Method;
import java.lang.reflect.Modifier;
import java.nio.file.Files;
import java.nio.file.Path;
import java.util.List;
import java.util.regex.Matcher;
import java.util.regex.Pattern;

/** README.md's example is played as it stands there, and its table is held against the face of the class. */
public final class Readme {
    private static final Pattern MAKING = Pattern.compile("GroveWorks net = new GroveWorks\\((\\d+)\\);.*");
    private static final Pattern CALL = Pattern.compile("net\\.(\\w+)\\(([-\\d, ]*)\\);(.*)");
    private static final Pattern ANSWER = Pattern.compile(" *// answers (-?\\d+|true|false)\\b.*");

    private static final Check check = new Check("Readme");

    public static void main(String[] args) throws Exception {
        String text = Files.readString(Path.of("README.md"));
        playExample(text);
        findCalls(text);
        check.end();
    }

    private static List<String> linesOfExample(String text) {
        int from = text.indexOf("```java\n");
        int to = text.indexOf("\n```", from + 1);
        check.due("README.md has an example", from >= 0 && to > from, true);
        return from >= 0 && to > from ? text.substring(from, to).lines().skip(1).toList() : List.of();
    }

    private static void playExample(String text) throws Exception {
        GroveWorks net = null;
        int answers = 0;
        for (String line : linesOfExample(text)) {
            Matcher making = MAKING.matcher(line);
            Matcher call = CALL.matcher(line);
            if (making.matches()) {
                net = new GroveWorks(Integer.parseInt(making.group(1)));
            } else if (net != null && call.matches()) {
                Object got = callByName(net, call.group(1), call.group(2).split(", "));
                Matcher answer = ANSWER.matcher(call.group(3));
                if (answer.matches()) {
                    answers++;
                    check.due(line + " answers " + got, got.toString().equals(answer.group(1)), true);
                }
                check.due(line + " is not refused untold", answer.matches() || Boolean.TRUE.equals(got), true);
            } else {
                check.due("a line that can't be played: " + line, false, true);
            }
        }
        check.due("the example tells answers", answers > 0, true);
    }

    private static Object callByName(GroveWorks net, String name, String[] words) throws Exception {
        Class<?>[] types = new Class<?>[words.length];
        Object[] values = new Object[words.length];
        for (int i = 0; i < words.length; i++) {
            types[i] = int.class;
            values[i] = Integer.valueOf(words[i]);
        }
        return GroveWorks.class.getMethod(name, types).invoke(net, values);
    }

    private static void findCalls(String text) {
        for (Method method : GroveWorks.class.getDeclaredMethods()) {
            if (!Modifier.isPublic(method.getModifiers())) {
                continue;
            }
            Matcher row = Pattern.compile("(?m)^\\|.*`" + method.getName() + "\\(([^)]*)\\)`.*\\|$").matcher(text);
            boolean isThere = row.find();
            check.due("the table names " + method.getName(), isThere, true);
            if (isThere) {
                int parameters = row.group(1).split(", ").length;
                check.due("parameters of " + method.getName() + " in the table", parameters, method.getParameterCount());
            }
        }
    }
}
