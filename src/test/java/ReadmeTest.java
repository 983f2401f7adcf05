import java.io.IOException;
import java.lang.reflect.Method;
import java.lang.reflect.Modifier;
import java.nio.file.Files;
import java.nio.file.Path;
import java.util.ArrayList;
import java.util.List;
import java.util.Set;
import java.util.TreeSet;
import java.util.regex.Matcher;
import java.util.regex.Pattern;

/** What README.md says holds: its example answers so, its table has each call; run from the project's folder. */
public final class ReadmeTest {
    private static final Pattern MADE = Pattern.compile("GlulxFrames x = new GlulxFrames\\((\\d+)\\);");
    private static final Pattern ANSWERED = Pattern.compile("x\\.(\\w+)\\(([^)]*)\\); +// (-?\\d+): .*");
    private static final Pattern CALL = Pattern.compile("`(\\w+)\\(([^)`]*)\\)`");

    private static int wrong = 0;

    private static void check(boolean holds, String what) {
        if (!holds) {
            wrong++;
            System.out.println(what);
        }
    }

    private static List<String> parts(String list) {
        return list.isBlank() ? List.of() : List.of(list.trim().split("\\s*,\\s*"));
    }

    private static int answer(GlulxFrames x, String name, List<String> numbers) throws ReflectiveOperationException {
        Class<?>[] types = new Class<?>[numbers.size()];
        Object[] given = new Object[numbers.size()];
        for (int i = 0; i < given.length; i++) {
            types[i] = int.class;
            given[i] = Integer.decode(numbers.get(i));
        }
        return (Integer) GlulxFrames.class.getMethod(name, types).invoke(x, given);
    }

    private static void example(String readme) throws ReflectiveOperationException {
        Matcher block = Pattern.compile("(?s)```java\n(.*?)```").matcher(readme);
        if (!block.find()) {
            check(false, "there is no example");
            return;
        }
        String[] lines = block.group(1).split("\n");
        Matcher made = MADE.matcher(lines[0]);
        if (!made.matches()) {
            check(false, "makes no object: " + lines[0]);
            return;
        }
        GlulxFrames x = new GlulxFrames(Integer.parseInt(made.group(1)));
        for (int i = 1; i < lines.length; i++) {
            Matcher line = ANSWERED.matcher(lines[i]);
            boolean told = line.matches();
            check(told, "tells no answer: " + lines[i]);
            if (!told) continue;
            int got = answer(x, line.group(1), parts(line.group(2)));
            check(got == Integer.parseInt(line.group(3)), "answers " + got + ": " + lines[i]);
        }
    }

    private static void table(String readme) {
        Set<String> told = new TreeSet<>();
        for (String row : readme.split("\n")) {
            if (!row.startsWith("| `")) continue;
            Matcher call = CALL.matcher(row.substring(0, row.indexOf(" | ")));
            while (call.find()) told.add(call.group(1) + " of " + parts(call.group(2)).size());
        }
        Set<String> face = new TreeSet<>();
        for (Method method : GlulxFrames.class.getDeclaredMethods()) {
            if (Modifier.isPublic(method.getModifiers())) face.add(method.getName() + " of " + method.getParameterCount());
        }
        check(told.equals(face), "the table has " + told + ",\nthe face is " + face);
    }

    private static void files(String readme) {
        List<String> named = new ArrayList<>();
        Matcher file = Pattern.compile("(?:\\.\\./shared|src|\\.ci)/[\\w./]*\\w").matcher(readme);
        while (file.find()) named.add(file.group());
        check(!named.isEmpty(), "no file is named");
        for (String name : named) check(Files.exists(Path.of(name)), "there is no " + name);
    }

    public static void main(String[] args) throws IOException, ReflectiveOperationException {
        String readme = Files.readString(Path.of("README.md"));
        example(readme);
        table(readme);
        files(readme);
        System.out.println(wrong == 0 ? "README.md holds" : wrong + " things that README.md says do not hold");
        if (wrong != 0) System.exit(1);
    }
}
