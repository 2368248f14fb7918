import java.io.IOException;
import java.lang.reflect.Constructor;
import java.lang.reflect.Field;
import java.lang.reflect.Method;
import java.lang.reflect.Modifier;
import java.nio.file.Files;
import java.nio.file.Path;
import java.util.Set;
import java.util.TreeSet;

/** The public face, and the rules of the language that a look from outside can see. */
final class FaceTest {
    private static final String ILLEGAL = "IllegalArgumentException ";
    private static final String FULL = "UnsupportedOperationException ";
    private static final String INDEX = "IndexOutOfBoundsException ";

    private static final Set<String> FACE = Set.of(
            "void clear()",
            "int symbol(int int ) " + ILLEGAL + FULL,
            "int production(int int int int ) " + ILLEGAL + FULL,
            "boolean depend(int int int ) " + INDEX + ILLEGAL,
            "int graphs(int ) " + INDEX + FULL,
            "boolean circular() " + FULL,
            "boolean strong()",
            "boolean doubly()",
            "int relation(int int boolean ) " + INDEX,
            "int pass(int int boolean ) " + INDEX,
            "int passes(boolean )");

    public static void main(String[] args) throws IOException {
        methods();
        otherMembers();
        sizes();
        source();
        Check.end();
    }

    private static void methods() {
        Set<String> seen = new TreeSet<>();
        Set<String> names = new TreeSet<>();
        for (Method method : AttributeKinds.class.getDeclaredMethods()) {
            if (Modifier.isPrivate(method.getModifiers())) {
                continue;
            }
            seen.add(told(method));
            names.add(method.getName());
            Check.same(method + " is public and not static", method.getModifiers(),
                    Modifier.PUBLIC);
        }
        Check.same("the face", seen.toString(), new TreeSet<>(FACE).toString());
        noOtherOfTheName(AttributeKinds.class, names);
        for (Class<?> inside : AttributeKinds.class.getDeclaredClasses()) {
            noOtherOfTheName(inside, names);
        }
    }

    private static String told(Method method) {
        StringBuilder text = new StringBuilder();
        text.append(method.getReturnType()).append(' ').append(method.getName()).append('(');
        for (Class<?> type : method.getParameterTypes()) {
            text.append(type).append(' ');
        }
        text.append(") ");
        for (Class<?> type : method.getExceptionTypes()) {
            text.append(type.getSimpleName()).append(' ');
        }
        return method.getExceptionTypes().length == 0
                ? text.toString().trim() : text.toString();
    }

    private static void noOtherOfTheName(Class<?> of, Set<String> names) {
        for (Method method : of.getDeclaredMethods()) {
            boolean face = of == AttributeKinds.class && Modifier.isPublic(method.getModifiers());
            if (!face && names.contains(method.getName())) {
                Check.fail(method + " bears the name of a public method");
            }
        }
    }

    private static void otherMembers() {
        Class<?> kinds = AttributeKinds.class;
        Check.same("the class", kinds.getModifiers(), Modifier.PUBLIC | Modifier.FINAL);
        Constructor<?>[] constructors = kinds.getDeclaredConstructors();
        Check.same("constructors", constructors.length, 1);
        Check.same("the constructor is public", constructors[0].getModifiers(), Modifier.PUBLIC);
        Check.same("its parameters", constructors[0].getParameterCount(), 0);
        theConstant();
        for (Field field : kinds.getDeclaredFields()) {
            boolean constant = field.getName().equals("NONE");
            Check.same(field + " is private", Modifier.isPrivate(field.getModifiers()), !constant);
            if (Modifier.isStatic(field.getModifiers())) {
                Check.same(field + " is final", Modifier.isFinal(field.getModifiers()), true);
            }
        }
        for (Class<?> inside : kinds.getDeclaredClasses()) {
            Check.same(inside + " is static", Modifier.isStatic(inside.getModifiers()), true);
            for (Field field : inside.getDeclaredFields()) {
                Check.same(field + " is static", Modifier.isStatic(field.getModifiers()), false);
            }
        }
    }

    /** Rule 11: at most seven parameters, some twelve classes, some twenty fields a class. */
    private static void sizes() {
        Class<?>[] inside = AttributeKinds.class.getDeclaredClasses();
        Check.same("at most 11 classes inside", inside.length <= 11, true);
        size(AttributeKinds.class);
        for (Class<?> each : inside) {
            size(each);
        }
    }

    private static void size(Class<?> of) {
        int fields = 0;
        for (Field field : of.getDeclaredFields()) {
            fields += Modifier.isStatic(field.getModifiers()) ? 0 : 1;
        }
        Check.same(of + " has at most 20 fields", fields <= 20, true);
        for (Method method : of.getDeclaredMethods()) {
            Check.same(method + " takes at most 7", method.getParameterCount() <= 7, true);
        }
    }

    /** "public static final int NONE = -1". */
    private static void theConstant() {
        Field[] open = AttributeKinds.class.getFields();
        Check.same("public fields", open.length, 1);
        for (Field field : open) {
            Check.same("the public field", Modifier.toString(field.getModifiers()) + " "
                    + field.getType() + " " + field.getName(), "public static final int NONE");
        }
        Check.same("NONE", AttributeKinds.NONE, -1);
    }

    private static void source() throws IOException {
        String text = Files.readString(Path.of("src/main/java/AttributeKinds.java"));
        String[] none = {"import ", "package ", "->", "::", "try", "catch", "finally",
            "synchronized", "assert", "System.out", "System.nano", "System.current", "Exact(",
            "while (true", "for (;;"};
        for (String word : none) {
            Check.same("'" + word + "' in the source", text.contains(word), false);
        }
    }
}
