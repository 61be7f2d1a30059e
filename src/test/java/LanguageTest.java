import java.io.IOException;
import java.lang.reflect.Constructor;
import java.lang.reflect.Field;
import java.lang.reflect.Method;
import java.lang.reflect.Modifier;
import java.nio.file.Files;
import java.nio.file.Path;
import java.util.Set;
import java.util.TreeSet;
import java.util.regex.Matcher;
import java.util.regex.Pattern;

/** The public face, and the rules of LANGUAGE.md that can be read off the source. */
public final class LanguageTest {
    private static final String SOURCE = "src/main/java/SignalBox.java";
    private static final Set<String> FACE = Set.of(
            "section(int,int,int,int)", "share(int,int)", "remove(int)", "same(int,int)", "lead(int,int)", "unlead(int)",
            "run(int,int,int)", "shunt(int,int,int)", "passed()", "trace(int)", "told(int,int)", "count(int)");
    private static final String FORBIDDEN =
            "\\b(throw|throws|try|catch|finally|synchronized|assert|import|package|protected|instanceof|"
            + "System|Thread|Runtime|Random|Object|Exception|hashCode|equals|toString)\\b|->|::";

    private static int wrong = 0;

    public static void main(String[] args) throws IOException {
        face();
        fields();
        source(Files.readString(Path.of(SOURCE)));
        System.out.println(wrong == 0 ? "the rules are kept" : wrong + " rules are broken");
        if (wrong != 0) System.exit(1);
    }

    private static void rule(boolean kept, String text) {
        if (!kept) {
            wrong++;
            System.out.println("broken: " + text);
        }
    }

    private static void face() {
        rule(Modifier.isPublic(SignalBox.class.getModifiers()) && Modifier.isFinal(SignalBox.class.getModifiers()), "a public final class");
        Constructor<?>[] constructors = SignalBox.class.getDeclaredConstructors();
        rule(constructors.length == 1 && Modifier.isPublic(constructors[0].getModifiers())
                && constructors[0].getParameterCount() == 0, "one public constructor without parameters");
        Set<String> found = new TreeSet<>();
        Set<String> names = new TreeSet<>();
        for (Method method : SignalBox.class.getDeclaredMethods()) {
            if (!Modifier.isPublic(method.getModifiers())) continue;
            found.add(signature(method));
            names.add(method.getName());
            rule(method.getReturnType() == int.class && !Modifier.isStatic(method.getModifiers()), method + " answers an int");
        }
        rule(found.equals(new TreeSet<>(FACE)), "the public methods are those of the document, but there are " + found);
        for (Method method : SignalBox.class.getDeclaredMethods()) {
            boolean isPublic = Modifier.isPublic(method.getModifiers());
            rule(isPublic || Modifier.isPrivate(method.getModifiers()), method + " is public or private");
            rule(isPublic || !names.contains(method.getName()), method + " bears no public name");
            rule(method.getParameterCount() <= 7, method + " has at most seven parameters");
        }
        for (Class<?> inside : SignalBox.class.getDeclaredClasses()) {
            rule(Modifier.isStatic(inside.getModifiers()), inside + " is static");
        }
    }

    private static String signature(Method method) {
        StringBuilder text = new StringBuilder(method.getName()).append('(');
        String comma = "";
        for (Class<?> type : method.getParameterTypes()) {
            text.append(comma).append(type.getSimpleName());
            comma = ",";
        }
        return text.append(')').toString();
    }

    private static void fields() {
        Set<String> open = new TreeSet<>();
        for (Field field : SignalBox.class.getDeclaredFields()) {
            int modifiers = field.getModifiers();
            if (!Modifier.isPrivate(modifiers)) open.add(Modifier.toString(modifiers) + " " + field.getName());
            rule(!Modifier.isStatic(modifiers) || Modifier.isFinal(modifiers), field + " is final");
        }
        rule(open.equals(Set.of("public static final BAD", "public static final FULL")), "BAD and FULL alone are public, but there are " + open);
    }

    private static void source(String text) {
        String code = text.replaceAll("/\\*(?s:.*?)\\*/", "").replaceAll("//[^\n]*", "");
        Matcher word = Pattern.compile(FORBIDDEN).matcher(code);
        while (word.find()) rule(false, "'" + word.group() + "' in the source");
        for (int i = 0; i < text.length(); i++) rule(text.charAt(i) < 128, "a character beyond ASCII at " + i);
    }
}
