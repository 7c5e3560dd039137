import java.io.IOException;
import java.lang.reflect.Constructor;
import java.lang.reflect.Field;
import java.lang.reflect.Method;
import java.lang.reflect.Modifier;
import java.nio.file.Files;
import java.nio.file.Path;
import java.util.ArrayList;
import java.util.Arrays;
import java.util.List;
import java.util.Set;
import java.util.TreeSet;
import java.util.regex.Matcher;
import java.util.regex.Pattern;

/** The face is that of the document and no more, and the file keeps to what can be looked up of LANGUAGE.md. */
public final class FaceTest {
    private static final Path SOURCE = Path.of("src/main/java/SwapTables.java");
    private static final Path DOCUMENT = Path.of("../shared/DOC.md");
    private static final Due due = new Due("FaceTest");

    public static void main(String[] args) throws IOException {
        methods();
        membersAreHidden();
        nestedClasses();
        words();
        methodsAreShort();
        due.end();
    }

    private static Set<String> documentedMethods() throws IOException {
        Set<String> found = new TreeSet<>();
        Matcher face = Pattern.compile("public (int|long) (\\w+)\\(([^)]*)\\);").matcher(Files.readString(DOCUMENT));
        while (face.find()) {
            int many = face.group(3).isEmpty() ? 0 : face.group(3).split(",").length;
            found.add(face.group(1) + " " + face.group(2) + " " + many);
        }
        return found;
    }

    private static void methods() throws IOException {
        Set<String> own = new TreeSet<>();
        for (Method method : SwapTables.class.getDeclaredMethods()) {
            if (Modifier.isPublic(method.getModifiers())) {
                own.add(method.getReturnType() + " " + method.getName() + " " + method.getParameterCount());
                due.holds(method + " takes ints", Arrays.stream(method.getParameterTypes()).allMatch(int.class::equals));
                due.holds(method + " is no static one", !Modifier.isStatic(method.getModifiers()));
            }
        }
        due.is("the document's methods", documentedMethods().size(), 37);
        due.holds("the same methods: " + own, own.equals(documentedMethods()));
    }

    private static void membersAreHidden() {
        Set<String> constants = Set.of("BAD", "NOT", "FULL", "STATE", "VOID");
        due.holds("public and final", SwapTables.class.getModifiers() == (Modifier.PUBLIC | Modifier.FINAL));
        for (Field field : SwapTables.class.getDeclaredFields()) {
            int kind = constants.contains(field.getName()) ? Modifier.PUBLIC : Modifier.PRIVATE;
            due.holds(field.getName(), (field.getModifiers() & kind) != 0);
            due.holds(field.getName() + " is final, if static", isFixedIfStatic(field));
        }
        Set<String> open = new TreeSet<>();
        for (Method method : SwapTables.class.getDeclaredMethods()) {
            boolean isPublic = Modifier.isPublic(method.getModifiers());
            due.holds(method.getName(), isPublic || Modifier.isPrivate(method.getModifiers()));
            if (isPublic) {
                due.holds(method.getName() + " stands once", open.add(method.getName()));
            }
        }
        for (Class<?> nested : SwapTables.class.getDeclaredClasses()) {
            for (Method method : nested.getDeclaredMethods()) {
                due.holds(nested + " has another name than " + method.getName(), !open.contains(method.getName()));
            }
        }
        Constructor<?>[] constructors = SwapTables.class.getDeclaredConstructors();
        due.is("constructors", constructors.length, 1);
        due.is("parameters of it", constructors[0].getParameterCount(), 0);
    }

    private static boolean isFixedIfStatic(Field field) {
        return !isStatic(field) || Modifier.isFinal(field.getModifiers());
    }

    private static boolean isStatic(Field field) {
        return Modifier.isStatic(field.getModifiers());
    }

    private static void nestedClasses() {
        long own = Arrays.stream(SwapTables.class.getDeclaredFields()).filter(field -> !isStatic(field)).count();
        due.holds("some twenty fields beside constants, not " + own, own <= 20);
        List<Class<?>> nested = new ArrayList<>(List.of(SwapTables.class.getDeclaredClasses()));
        due.holds("some twelve classes in the file", 1 + nested.size() <= 12);
        for (Class<?> one : nested) {
            due.holds(one + " is static", Modifier.isStatic(one.getModifiers()));
            due.holds(one + " is private", Modifier.isPrivate(one.getModifiers()));
            due.holds(one + " has some twenty fields", one.getDeclaredFields().length <= 20);
            for (Field field : one.getDeclaredFields()) {
                due.holds(field + " is final, if static", isFixedIfStatic(field));
            }
        }
    }

    private static String withoutComments(String source) {
        return source.replaceAll("(?s)/\\*.*?\\*/", "").replaceAll("//[^\n]*", "");
    }

    /** Each method ends where its own indentation comes again. One that calls itself is private and static (rule 8). */
    private static void methodsAreShort() throws IOException {
        Matcher method = Pattern.compile("(?m)^( +)((?:public |private )?(?:static )?(?:[\\w\\[\\]]+ )?(\\w+)\\([^)]*\\)) \\{\n"
            + "((?s:.*?))^\\1}\n").matcher(withoutComments(Files.readString(SOURCE)));
        int found = 0;
        while (method.find()) {
            found++;
            String head = method.group(2);
            String body = method.group(4);
            due.holds(head + " is short", body.lines().count() <= 60);
            boolean callsItself = Pattern.compile("(?<![.\\w])" + method.group(3) + "\\(").matcher(body).find();
            due.holds(head + ", if it calls itself, is private and static", !callsItself || head.startsWith("private static"));
        }
        int declared = SwapTables.class.getDeclaredMethods().length;
        for (Class<?> one : SwapTables.class.getDeclaredClasses()) {
            declared += one.getDeclaredMethods().length;
        }
        due.holds("all methods are looked at: " + found + " of " + declared, found >= declared);
    }

    private static void words() throws IOException {
        String source = Files.readString(SOURCE);
        String code = withoutComments(source);
        String[] ruledOut = {"\\bthrow\\b", "\\btry\\b", "\\bcatch\\b", "\\bsynchronized\\b", "\\bassert\\b", "->", "::",
            "\\bimport\\b", "\\bpackage\\b", "\\bprotected\\b", "\\bdouble\\b", "\\bfloat\\b", "Exact\\(", "System\\.(?!arraycopy)",
            "\\bwhile\\b", "\\bObject\\b", "\\.equals\\(", "hashCode", "toString", "\\bThread\\b", "\\bnull\\b"};
        for (String word : ruledOut) {
            due.holds("no " + word, !Pattern.compile(word).matcher(code).find());
        }
        due.holds("signs 1 to 127 alone", source.chars().allMatch(sign -> sign < 128));
        for (Class<?> one : SwapTables.class.getDeclaredClasses()) {
            for (Method method : one.getDeclaredMethods()) {
                due.holds(method + " has at most seven parameters", method.getParameterCount() <= 7);
            }
        }
    }
}
