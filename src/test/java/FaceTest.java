import java.lang.reflect.Constructor;
import java.lang.reflect.Field;
import java.lang.reflect.Method;
import java.lang.reflect.Modifier;
import java.nio.file.Files;
import java.nio.file.Path;
import java.util.Set;
import java.util.TreeSet;
import java.util.regex.Matcher;
import java.util.regex.Pattern;

/** The face is the document's and no more, and the text keeps to what of LANGUAGE.md can be seen by words. */
public final class FaceTest {
    private static int wrong = 0;

    private static final String[] METHODS = {
        "feed(long,int)", "show()", "told(int)", "player(int,int,int)", "of(int,int)", "drum(int)", "put(int,int)",
        "heard(int,int)", "spread(int,int)", "back(int,int)", "best(int)", "early(int,int)", "beats(int)",
        "form(int)", "way(int)", "counts()", "meet()", "hard(int)", "march()",
        "seen(int)", "off(int)", "whom(int,int,int)", "out()",
        "act(int,int,int)", "trace(int)", "as(int,int)", "image()", "undo()", "count(int)"};

    private static void check(boolean holds, String rule) {
        if (!holds) {
            wrong++;
            System.out.println("not so: " + rule);
        }
    }

    public static void main(String[] args) throws Exception {
        members();
        nestedClasses();
        text(Files.readString(Path.of(System.getProperty("fieldband.source", "src/main/java/FieldBand.java"))));
        if (wrong != 0) System.exit(1);
    }

    private static String signature(Method method) {
        StringBuilder text = new StringBuilder(method.getName()).append('(');
        for (Class<?> type : method.getParameterTypes()) {
            if (text.charAt(text.length() - 1) != '(') text.append(',');
            text.append(type.getName());
        }
        return text.append(')').toString();
    }

    private static void members() {
        Class<?> face = FieldBand.class;
        check(Modifier.isPublic(face.getModifiers()) && Modifier.isFinal(face.getModifiers()), "public final class");
        Set<String> names = new TreeSet<>();
        Set<String> found = new TreeSet<>();
        for (String method : METHODS) names.add(method.substring(0, method.indexOf('(')));
        for (Method method : face.getDeclaredMethods()) {
            if (Modifier.isPrivate(method.getModifiers())) {
                check(!names.contains(method.getName()), "no private method named " + method.getName());
            } else {
                found.add(signature(method));
                check(method.getReturnType() == int.class && Modifier.isPublic(method.getModifiers())
                    && !Modifier.isStatic(method.getModifiers()), "public int " + method.getName());
            }
        }
        check(found.equals(Set.of(METHODS)), "the methods are " + found);
        Constructor<?>[] constructors = face.getDeclaredConstructors();
        check(constructors.length == 1 && constructors[0].getParameterCount() == 0
            && Modifier.isPublic(constructors[0].getModifiers()), "one public constructor");
        for (Field field : face.getDeclaredFields()) {
            boolean constant = Set.of("NONE", "BAD", "STATE", "FULL").contains(field.getName());
            check(constant == Modifier.isPublic(field.getModifiers()), "public: " + field.getName());
            check(constant || Modifier.isPrivate(field.getModifiers()), "private: " + field.getName());
        }
        check(FieldBand.NONE == -1 && FieldBand.BAD == -2 && FieldBand.STATE == -3 && FieldBand.FULL == -4, "constants");
    }

    private static void nestedClasses() {
        Class<?>[] nested = FieldBand.class.getDeclaredClasses();
        check(nested.length <= 12, "some twelve classes at most");
        for (Class<?> one : nested) {
            check(Modifier.isStatic(one.getModifiers()), "static class " + one.getSimpleName());
            check(!Modifier.isPublic(one.getModifiers()) && !Modifier.isProtected(one.getModifiers()),
                "private or package-visible class " + one.getSimpleName());
            for (Method method : one.getDeclaredMethods()) {
                check(method.getParameterCount() <= 7, "seven parameters: " + method.getName());
            }
            for (Field field : one.getDeclaredFields()) staticsAreFinal(field);
        }
        for (Field field : FieldBand.class.getDeclaredFields()) staticsAreFinal(field);
    }

    private static void staticsAreFinal(Field field) {
        check(!Modifier.isStatic(field.getModifiers()) || Modifier.isFinal(field.getModifiers()),
            "static and final: " + field.getName());
    }

    private static void text(String source) {
        check(source.chars().allMatch(c -> c < 128), "plain signs alone");
        String code = source.replaceAll("(?s)/\\*.*?\\*/", "").replaceAll("//[^\n]*", "")
            .replaceAll("\"[^\"\n]*\"", "\"\"");
        String words = "\\b(throw|throws|try|catch|synchronized|assert|import|package|goto|native|volatile|transient|"
            + "Object|Exception|Error|Thread|Random|Exact|hashCode|toString)\\b|->|::";
        Matcher forbidden = Pattern.compile(words).matcher(code);
        check(!forbidden.find(), "none of the words that the rules leave out");
        Matcher system = Pattern.compile("\\bSystem\\.(\\w+)").matcher(code);
        while (system.find()) check(system.group(1).equals("arraycopy"), "System." + system.group(1));
        Matcher method = Pattern.compile("(?m)^(    |        )[a-z][^;=\n]*\\) \\{\n((?!\\1\\}).*\n)*").matcher(code);
        while (method.find()) {
            String body = method.group();
            check(body.chars().filter(c -> c == '\n').count() <= 60, "sixty lines: " + body.lines().findFirst().get());
        }
    }
}
