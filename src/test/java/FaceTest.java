import java.lang.reflect.Constructor;
import java.lang.reflect.Field;
import java.lang.reflect.Method;
import java.lang.reflect.Modifier;
import java.nio.file.Files;
import java.nio.file.Path;
import java.util.Map;
import java.util.Set;
import java.util.TreeSet;

/** The face is the document's and no more (rule 1 of LANGUAGE.md; the other rules are LanguageTest's). */
public final class FaceTest {
    private static int wrong = 0;

    private static final String[] METHODS = {
        "feed(long,int)", "show()", "told(int)", "player(int,int,int)", "of(int,int)", "drum(int)", "put(int,int)",
        "heard(int,int)", "spread(int,int)", "back(int,int)", "best(int)", "early(int,int)", "beats(int)",
        "form(int)", "way(int)", "counts()", "meet()", "hard(int)", "march()",
        "seen(int)", "off(int)", "whom(int,int,int)", "out()",
        "act(int,int,int)", "trace(int)", "as(int,int)", "image()", "undo()", "count(int)"};

    /** By the place of a group's first method in METHODS. */
    private static final Map<Integer, String> HEADS = Map.of(
        0, "shows, players", 7, "hearing", 13, "forms", 19, "films", 23, "acts, the image");

    private static void check(boolean holds, String rule) {
        if (!holds) {
            wrong++;
            System.out.println("not so: " + rule);
        }
    }

    public static void main(String[] args) throws Exception {
        members();
        groups(Files.readString(Path.of(System.getProperty("fieldband.source", "src/main/java/FieldBand.java"))));
        if (wrong != 0) System.exit(1);
    }

    private static String signature(Method method) {
        StringBuilder text = new StringBuilder(method.getName()).append('(');
        for (Class<?> type : method.getParameterTypes()) {
            if (text.charAt(text.length() - 1) != '(') text.append(',');
            text.append(type.getName());
        }
        return text.append(')').toString();
    }

    private static void members() {
        Class<?> face = FieldBand.class;
        check(Modifier.isPublic(face.getModifiers()) && Modifier.isFinal(face.getModifiers()), "public final class");
        Set<String> names = new TreeSet<>();
        Set<String> found = new TreeSet<>();
        for (String method : METHODS) names.add(method.substring(0, method.indexOf('(')));
        for (Method method : face.getDeclaredMethods()) {
            if (Modifier.isPrivate(method.getModifiers())) {
                check(!names.contains(method.getName()), "no private method named " + method.getName());
            } else {
                found.add(signature(method));
                check(method.getReturnType() == int.class && Modifier.isPublic(method.getModifiers())
                    && !Modifier.isStatic(method.getModifiers()), "public int " + method.getName());
            }
        }
        check(found.equals(Set.of(METHODS)), "the methods are " + found);
        Constructor<?>[] constructors = face.getDeclaredConstructors();
        check(constructors.length == 1 && constructors[0].getParameterCount() == 0
            && Modifier.isPublic(constructors[0].getModifiers()), "one public constructor");
        for (Field field : face.getDeclaredFields()) {
            boolean constant = Set.of("NONE", "BAD", "STATE", "FULL").contains(field.getName());
            check(constant == Modifier.isPublic(field.getModifiers()), "public: " + field.getName());
            check(constant || Modifier.isPrivate(field.getModifiers()), "private: " + field.getName());
        }
        check(FieldBand.NONE == -1 && FieldBand.BAD == -2 && FieldBand.STATE == -3 && FieldBand.FULL == -4, "constants");
    }

    /** "Ahead of the calls .. the interface says": the heads of the groups, and the calls in the document's order. */
    private static void groups(String source) {
        int at = 0;
        for (int i = 0; i < METHODS.length; i++) {
            if (HEADS.containsKey(i)) at = behind(source, "    // ---- " + HEADS.get(i) + "\n", at);
            at = behind(source, "    public int " + METHODS[i].substring(0, METHODS[i].indexOf('(') + 1), at);
        }
    }

    private static int behind(String source, String text, int from) {
        int at = source.indexOf(text, from);
        check(at >= 0, "in its place: " + text.trim());
        return Math.max(from, at);
    }
}
