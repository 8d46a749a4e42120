import java.lang.reflect.Constructor;
import java.lang.reflect.Field;
import java.lang.reflect.Method;
import java.lang.reflect.Modifier;
import java.lang.reflect.Parameter;
import java.util.ArrayList;
import java.util.HashSet;
import java.util.List;
import java.util.Set;
import java.util.TreeSet;

/**
 * The class shows the public face of the document, and nothing beside it that is not private.
 * Its parameters have their names here only if it was compiled with -parameters, as .ci/run does.
 */
public final class FaceTest {
    private static final Set<String> FACE = Set.of(
        "public final class QuotientFilter",
        "public static final int BAD = -1",
        "public static final int FULL = -2",
        "public static final int NONE = -3",
        "public QuotientFilter()",
        "public int add(int f, int x)",
        "public int remove(int f, int x)",
        "public boolean maybe(int f, int x)",
        "public int times(int f, int print)",
        "public int count(int f)",
        "public int size(int f)",
        "public int print(int f, int k)",
        "public int grow(int f)",
        "public int shrink(int f)",
        "public int pour(int f)",
        "public int clear(int f)",
        "public int printOf(int x)");

    private static final Class<QuotientFilter> SHOWN = QuotientFilter.class;

    private static void addHead(Set<String> all) {
        all.add(SHOWN.toGenericString());
        if (SHOWN.getSuperclass() != Object.class) {
            all.add("extends " + SHOWN.getSuperclass().getName());
        }
        for (Class<?> face : SHOWN.getInterfaces()) {
            all.add("implements " + face.getName());
        }
        for (Class<?> nested : SHOWN.getDeclaredClasses()) {
            all.add("nested " + nested.toGenericString());
        }
    }

    private static void addFields(Set<String> all) throws IllegalAccessException {
        for (Field field : SHOWN.getDeclaredFields()) {
            int modifiers = field.getModifiers();
            if (!Modifier.isPrivate(modifiers)) {
                String value = Modifier.isStatic(modifiers) ? " = " + field.get(null) : "";
                all.add(Modifier.toString(modifiers) + " " + field.getType().getSimpleName() + " " + field.getName()
                    + value);
            }
        }
    }

    private static void addConstructors(Set<String> all) {
        for (Constructor<?> made : SHOWN.getDeclaredConstructors()) {
            all.add(Modifier.toString(made.getModifiers()) + " " + made.getName() + list(made.getParameters())
                + thrown(made.getExceptionTypes()));
        }
    }

    private static void addMethods(Set<String> all) {
        Set<String> publicNames = new HashSet<>();
        for (Method method : SHOWN.getDeclaredMethods()) {
            if (Modifier.isPublic(method.getModifiers())) {
                publicNames.add(method.getName());
            }
        }
        for (Method method : SHOWN.getDeclaredMethods()) {
            // A private method with a public one's name is against rule 1 of LANGUAGE.md.
            if (!Modifier.isPrivate(method.getModifiers()) || publicNames.contains(method.getName())) {
                all.add(Modifier.toString(method.getModifiers()) + " " + method.getReturnType().getSimpleName() + " "
                    + method.getName() + list(method.getParameters()) + thrown(method.getExceptionTypes()));
            }
        }
    }

    private static String list(Parameter[] parameters) {
        List<String> names = new ArrayList<>();
        for (Parameter parameter : parameters) {
            names.add(parameter.getType().getSimpleName() + " " + parameter.getName());
        }
        return "(" + String.join(", ", names) + ")";
    }

    private static String thrown(Class<?>[] exceptions) {
        return exceptions.length == 0 ? "" : " throws " + exceptions.length;
    }

    public static void main(String[] args) throws IllegalAccessException {
        Set<String> shown = new TreeSet<>();
        addHead(shown);
        addFields(shown);
        addConstructors(shown);
        addMethods(shown);
        Set<String> missing = new TreeSet<>(FACE);
        missing.removeAll(shown);
        Set<String> surplus = new TreeSet<>(shown);
        surplus.removeAll(FACE);
        for (String member : missing) {
            System.out.println("missing: " + member);
        }
        for (String member : surplus) {
            System.out.println("not in the document: " + member);
        }
        if (!missing.isEmpty() || !surplus.isEmpty()) {
            System.exit(1);
        }
        System.out.println("the face is the document's");
    }
}
