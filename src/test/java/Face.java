import java.io.IOException;
import java.lang.reflect.Constructor;
import java.lang.reflect.Field;
import java.lang.reflect.Method;
import java.lang.reflect.Modifier;
import java.nio.file.Files;
import java.nio.file.Path;
import java.util.Arrays;
import java.util.Set;
import java.util.TreeSet;
import java.util.regex.Matcher;
import java.util.regex.Pattern;

/** The class shows the document's face and nothing else, and its text keeps to ../shared/LANGUAGE.md. */
public final class Face {
    private static int wrong = 0;

    private static final String[] METHODS = {
        "boolean plug(int, int, int, int)", "boolean host(int, int)", "boolean meet(int, int)", "boolean cut(int)",
        "boolean mend(int)", "boolean join(int, int)", "boolean leave(int, int)", "int send(int, int)",
        "boolean lose(int, int)", "int tick(int)", "int got(int, int)", "int frame(int, int, int)",
        "int way(int, boolean, int, int)", "int port(int, int, int)", "int members(int, int, int)",
        "int branch(int, int, int, int, int)", "int tree(int, int, int, int)", "int count(int)",
    };

    public static void main(String[] args) throws IOException {
        members();
        text(Files.readString(Path.of("src/main/java/GroveWorks.java")));
        System.out.println(wrong == 0 ? "the face is as due" : wrong + " faults");
        if (wrong != 0) {
            System.exit(1);
        }
    }

    private static void fault(boolean isFault, String name) {
        if (isFault) {
            wrong++;
            System.out.println(name);
        }
    }

    private static void members() {
        Set<String> want = new TreeSet<>(Arrays.asList(METHODS));
        Set<String> names = new TreeSet<>();
        Set<String> shown = new TreeSet<>();
        for (Method method : GroveWorks.class.getDeclaredMethods()) {
            String types = Arrays.toString(Arrays.stream(method.getParameterTypes()).map(Class::getName).toArray());
            String line = method.getReturnType() + " " + method.getName() + "(" + types.substring(1, types.length() - 1) + ")";
            if (Modifier.isPublic(method.getModifiers())) {
                shown.add(line);
                names.add(method.getName());
                fault(Modifier.isStatic(method.getModifiers()), "static: " + line);
            } else {
                fault(!Modifier.isPrivate(method.getModifiers()), "neither public nor private: " + line);
            }
        }
        fault(!shown.equals(want), "public methods are " + shown);
        for (Method method : GroveWorks.class.getDeclaredMethods()) {
            boolean isPrivate = Modifier.isPrivate(method.getModifiers());
            fault(isPrivate && names.contains(method.getName()), "a private method of a public name: " + method);
            fault(method.getParameterCount() > 7, "more than seven parameters: " + method);
        }
        for (Field field : GroveWorks.class.getDeclaredFields()) {
            boolean isNone = field.getName().equals("NONE") && Modifier.isPublic(field.getModifiers());
            fault(!isNone && !Modifier.isPrivate(field.getModifiers()), "field that is not private: " + field);
            boolean isLoose = Modifier.isStatic(field.getModifiers()) && !Modifier.isFinal(field.getModifiers());
            fault(isLoose, "static and not final: " + field);
        }
        Constructor<?>[] constructors = GroveWorks.class.getDeclaredConstructors();
        fault(constructors.length != 1 || constructors[0].getParameterCount() != 1, "constructors");
        fault(!Modifier.isFinal(GroveWorks.class.getModifiers()), "not final");
        Class<?>[] inside = GroveWorks.class.getDeclaredClasses();
        fault(inside.length > 12, "more than twelve classes");
        for (Class<?> one : inside) {
            fault(!Modifier.isStatic(one.getModifiers()), "not static: " + one);
            fault(one.getDeclaredFields().length > 20, "more than twenty fields: " + one);
        }
    }

    private static void text(String text) {
        String bare = text.replaceAll("(?s)/\\*.*?\\*/", "").replaceAll("//[^\n]*", "");
        String[] words = {"throw", "throws", "try", "catch", "finally", "synchronized", "assert", "hashCode", "toString",
            "equals", "package", "protected", "double", "float", "Thread", "System", "Random"};
        for (String word : words) {
            fault(Pattern.compile("\\b" + word + "\\b").matcher(bare).find(), "the word " + word);
        }
        fault(bare.contains("->") || bare.contains("::"), "a lambda or a method reference");
        fault(!bare.contains("import java.util.Arrays;"), "the import");
        fault(bare.indexOf("import ") != bare.lastIndexOf("import "), "more than one import");
        Matcher wide = Pattern.compile("[^\\x00-\\xff]").matcher(text);
        fault(wide.find(), "a character above 255");
        methodsAreShort(bare);
    }

    private static void methodsAreShort(String bare) {
        String[] lines = bare.split("\n");
        for (int i = 0; i < lines.length; i++) {
            Matcher start = Pattern.compile("^( +)[\\w\\[\\] ]+\\([^;]*\\) \\{$").matcher(lines[i]);
            if (!start.find() || lines[i].trim().matches("(if|for|while|switch|else).*")) {
                continue;
            }
            int end = i;
            while (end < lines.length && !lines[end].equals(start.group(1) + "}")) {
                end++;
            }
            fault(end - i > 60, "longer than sixty lines: " + lines[i].trim());
        }
    }
}
