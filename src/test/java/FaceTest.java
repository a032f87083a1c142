import java.io.IOException;
import java.lang.reflect.Constructor;
import java.lang.reflect.Field;
import java.lang.reflect.Method;
import java.lang.reflect.Modifier;
import java.nio.charset.StandardCharsets;
import java.nio.file.Files;
import java.nio.file.Path;
import java.util.Arrays;
import java.util.HashSet;
import java.util.Set;
import java.util.TreeSet;
import java.util.regex.Matcher;
import java.util.regex.Pattern;

/** The public face of the document, and those rules of LANGUAGE.md that can be read off. */
public final class FaceTest {
    private static final Path SOURCE = Path.of("src/main/java/MovingHeap.java");
    private static final String[] METHODS = {
        "long insert(int,int)", "long remove(int)", "long setVelocity(int,int)",
        "long jump(int,int)", "int size()", "long point(int,int)", "long at(int)",
        "long pass(int)", "long step()", "int time()", "long count(int)", "long failure(int)",
        "long calendar(int,int)", "int calendarSize()", "long topChange()",
        "long meeting(int,int)", "long topAt(int)", "long valueAt(int,int)",
        "long orderAt(int,int)", "long sizeAt(int)", "long topChanges(int,int)",
        "long leastBetween(int,int)", "int forget()"
    };
    private static final String[] FIELDS = {
        "INVALID_ARGUMENT", "NOT_POSSIBLE", "LIMIT_REACHED", "NOT_FOUND"
    };
    /** What no rule of the language leaves to the program. */
    private static final String[] FORBIDDEN = {
        "\\bthrow\\b", "\\btry\\b", "\\bcatch\\b", "\\bsynchronized\\b", "\\bassert\\b",
        "\\bimport\\b", "\\bpackage\\b", "\\bSystem\\b", "\\bThread\\b", "->", "::",
        "Exact\\b", "\\bwhile \\(true\\)", "\\bequals\\b", "\\bhashCode\\b", "\\btoString\\b"
    };
    private static final int LONGEST_METHOD = 60;

    private FaceTest() {
    }

    public static void main(String[] args) throws IOException {
        constants();
        publicMembers();
        privateMembers();
        nestedClasses();
        source();
        Due.finish();
    }

    private static void constants() {
        Due.is("INVALID_ARGUMENT", MovingHeap.INVALID_ARGUMENT, -1000000000001L);
        Due.is("NOT_POSSIBLE", MovingHeap.NOT_POSSIBLE, -1000000000002L);
        Due.is("LIMIT_REACHED", MovingHeap.LIMIT_REACHED, -1000000000003L);
        Due.is("NOT_FOUND", MovingHeap.NOT_FOUND, -1000000000004L);
    }

    private static void publicMembers() {
        Due.is("modifiers", MovingHeap.class.getModifiers(), Modifier.PUBLIC | Modifier.FINAL);
        Set<String> methods = new TreeSet<>();
        for (Method method : MovingHeap.class.getDeclaredMethods()) {
            if (!Modifier.isPrivate(method.getModifiers())) {
                methods.add(signature(method));
                Due.holds(method + " is just public", method.getModifiers() == Modifier.PUBLIC);
            }
        }
        Due.holds("the methods of the face: " + methods,
            methods.equals(new TreeSet<>(Arrays.asList(METHODS))));
        Set<String> fields = new TreeSet<>();
        for (Field field : MovingHeap.class.getDeclaredFields()) {
            if (!Modifier.isPrivate(field.getModifiers())) {
                fields.add(field.getName());
            }
        }
        Due.holds("the constants of the face: " + fields,
            fields.equals(new TreeSet<>(Arrays.asList(FIELDS))));
        Constructor<?>[] constructors = MovingHeap.class.getDeclaredConstructors();
        Due.is("constructors", constructors.length, 1);
        Due.is("parameters of the constructor", constructors[0].getParameterCount(), 0);
        Due.holds("a public constructor", Modifier.isPublic(constructors[0].getModifiers()));
    }

    private static String signature(Method method) {
        StringBuilder text = new StringBuilder();
        text.append(method.getReturnType()).append(' ').append(method.getName()).append('(');
        Class<?>[] parameters = method.getParameterTypes();
        for (int i = 0; i < parameters.length; i++) {
            text.append(i == 0 ? "" : ",").append(parameters[i]);
        }
        return text.append(')').toString();
    }

    private static Set<String> publicNames() {
        Set<String> names = new HashSet<>();
        for (String method : METHODS) {
            names.add(method.substring(method.indexOf(' ') + 1, method.indexOf('(')));
        }
        return names;
    }

    private static void privateMembers() {
        for (Method method : MovingHeap.class.getDeclaredMethods()) {
            if (Modifier.isPrivate(method.getModifiers())) {
                Due.holds(method + " bears a name of its own",
                    !publicNames().contains(method.getName()));
            }
        }
        staticFieldsAreFinal(MovingHeap.class);
    }

    private static void staticFieldsAreFinal(Class<?> type) {
        for (Field field : type.getDeclaredFields()) {
            if (Modifier.isStatic(field.getModifiers())) {
                Due.holds(field + " is final", Modifier.isFinal(field.getModifiers()));
            }
        }
    }

    private static void nestedClasses() {
        Class<?>[] inside = MovingHeap.class.getDeclaredClasses();
        Due.holds("at most twelve classes", inside.length < 12);
        for (Class<?> type : inside) {
            Due.holds(type + " is static", Modifier.isStatic(type.getModifiers()));
            Due.holds(type + " is not public", !Modifier.isPublic(type.getModifiers()));
            Due.holds(type + " has few fields", type.getDeclaredFields().length <= 20);
            Due.is("classes inside " + type, type.getDeclaredClasses().length, 0);
            for (Method method : type.getDeclaredMethods()) {
                Due.holds(method + " has few parameters", method.getParameterCount() <= 7);
                Due.holds(method + " bears a name of its own",
                    !publicNames().contains(method.getName()));
            }
            staticFieldsAreFinal(type);
        }
    }

    private static void source() throws IOException {
        String text = Files.readString(SOURCE, StandardCharsets.UTF_8);
        for (int i = 0; i < text.length(); i++) {
            Due.holds("sign " + i + " is 1 to 127", text.charAt(i) >= 1 && text.charAt(i) <= 127);
        }
        String code = text.replaceAll("(?s)/\\*.*?\\*/", "").replaceAll("//[^\n]*", "");
        for (String word : FORBIDDEN) {
            Matcher found = Pattern.compile(word).matcher(code);
            Due.holds("no " + word, !found.find());
        }
        int start = 0;
        String[] lines = text.split("\n");
        for (int i = 0; i < lines.length; i++) {
            if (lines[i].matches(" +[A-Za-z].*\\) \\{")) {
                start = i;
            }
            if (lines[i].matches(" +\\}")) {
                Due.holds("line " + i + " ends a short method", i - start < LONGEST_METHOD);
            }
            Due.holds("line " + i + " is short", lines[i].length() <= 100);
        }
    }
}
