import java.io.IOException;
import java.lang.reflect.Constructor;
import java.lang.reflect.Field;
import java.lang.reflect.Method;
import java.lang.reflect.Modifier;
import java.nio.file.Files;
import java.nio.file.Path;
import java.util.Arrays;
import java.util.List;
import java.util.Set;
import java.util.TreeSet;
import java.util.regex.Matcher;
import java.util.regex.Pattern;

/** What of ../shared/LANGUAGE.md can be seen by looking at the class and at its text; run from the project's folder. */
public final class LanguageTest {
    private static final Path PROGRAM = Path.of("src/main/java/GlulxFrames.java");

    private static final List<String> FACE = List.of(
        "function(int,int)", "format(int,int,int)", "accelerate(int,int)", "told(int,int)", "local(int,int)",
        "call(int,int,int,int,int)", "leave(int)", "caught(int,int,int)", "thrown(int,int)", "tail(int,int)",
        "push(int)", "pop()", "popped()", "peek(int)", "copy(int)", "roll(int,int)", "swap()", "load(int,int)",
        "store(int,int,int)", "byteAt(int)", "cell(int)", "count(int)");

    private static final List<String> FORBIDDEN = List.of(
        "throw", "throws", "try", "catch", "finally", "synchronized", "assert", "import", "package", "native", "volatile",
        "Object", "var", "System", "Thread", "Random", "double", "float", "equals", "hashCode", "toString");

    private static int wrong = 0;

    private static void check(boolean holds, String what) {
        if (!holds) {
            wrong++;
            System.out.println(what);
        }
    }

    private static String signature(Method method) {
        StringBuilder text = new StringBuilder(method.getName()).append('(');
        for (Class<?> type : method.getParameterTypes()) {
            if (text.charAt(text.length() - 1) != '(') text.append(',');
            text.append(type.getName());
        }
        return text.append(')').toString();
    }

    private static void face() {
        Class<GlulxFrames> c = GlulxFrames.class;
        check(Modifier.isPublic(c.getModifiers()) && Modifier.isFinal(c.getModifiers()), "the class is not public and final");
        Set<String> shown = new TreeSet<>();
        Set<String> names = new TreeSet<>();
        for (Method method : c.getDeclaredMethods()) {
            if (Modifier.isPrivate(method.getModifiers())) continue;
            shown.add(signature(method));
            names.add(method.getName());
            check(Modifier.isPublic(method.getModifiers()) && method.getReturnType() == int.class
                && !Modifier.isStatic(method.getModifiers()), "not as in the face: " + method);
        }
        check(shown.equals(new TreeSet<>(FACE)), "the face is " + shown);
        for (Method method : c.getDeclaredMethods()) {
            check(Modifier.isPublic(method.getModifiers()) || !names.contains(method.getName()),
                "a private method bears the name of a public one: " + method);
        }
        Constructor<?>[] made = c.getDeclaredConstructors();
        check(made.length == 1 && Modifier.isPublic(made[0].getModifiers())
            && Arrays.equals(made[0].getParameterTypes(), new Class<?>[] {int.class}), "the constructor");
    }

    private static void fields(Class<?> c) {
        int own = 0;
        for (Field field : c.getDeclaredFields()) {
            int is = field.getModifiers();
            if (!Modifier.isStatic(is)) own++;
            check(!Modifier.isStatic(is) || Modifier.isFinal(is), "a static field that is not final: " + field);
            if (c == GlulxFrames.class) {
                boolean constant = List.of("NONE", "BAD").contains(field.getName());
                check(constant ? Modifier.isPublic(is) && Modifier.isStatic(is) && field.getType() == int.class
                    : Modifier.isPrivate(is), "not as in the face: " + field);
            }
        }
        check(own <= 20, "too many fields: " + c);
    }

    private static void classes() {
        Class<?>[] inside = GlulxFrames.class.getDeclaredClasses();
        check(inside.length <= 11, "too many classes");
        fields(GlulxFrames.class);
        for (Class<?> c : inside) {
            check(Modifier.isStatic(c.getModifiers()) && !Modifier.isPublic(c.getModifiers())
                && !Modifier.isProtected(c.getModifiers()), "not private and static: " + c);
            fields(c);
            for (Method method : c.getDeclaredMethods()) {
                check(method.getParameterCount() <= 7, "too many parameters: " + method);
            }
        }
    }

    private static void text() throws IOException {
        String text = Files.readString(PROGRAM);
        check(text.chars().allMatch(sign -> sign < 128), "a sign above 127");
        String code = text.replaceAll("(?s)/\\*.*?\\*/", " ").replaceAll("//[^\n]*", " ");
        for (String word : FORBIDDEN) {
            check(!Pattern.compile("\\b" + word + "\\b").matcher(code).find(), "the word " + word);
        }
        check(!code.contains("->") && !code.contains("::"), "a lambda or a method reference");
        Matcher divided = Pattern.compile("[^\\s/*]*\\s*[/%]\\s*([^\\s;)\\]]+)").matcher(code);
        while (divided.find()) {
            check(divided.group(1).matches("[A-Z_]+|[1-9][0-9]*"), "divided by no constant: " + divided.group().trim());
        }
    }

    public static void main(String[] args) throws IOException {
        face();
        classes();
        text();
        System.out.println(wrong == 0 ? "the language is kept to" : wrong + " rules are not kept to");
        if (wrong != 0) System.exit(1);
    }
}
