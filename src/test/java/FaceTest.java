import java.lang.reflect.Constructor;
import java.lang.reflect.Field;
import java.lang.reflect.Method;
import java.lang.reflect.Modifier;
import java.util.Set;
import java.util.TreeSet;

/** The class shows the public face of the document, and nothing beside it that is not private. */
public final class FaceTest {
    private static final Set<String> FACE = Set.of(
        "public final class QuotientFilter",
        "public static final int QuotientFilter.BAD",
        "public static final int QuotientFilter.FULL",
        "public static final int QuotientFilter.NONE",
        "public QuotientFilter()",
        "public int QuotientFilter.add(int,int)",
        "public int QuotientFilter.remove(int,int)",
        "public boolean QuotientFilter.maybe(int,int)",
        "public int QuotientFilter.times(int,int)",
        "public int QuotientFilter.count(int)",
        "public int QuotientFilter.size(int)",
        "public int QuotientFilter.print(int,int)",
        "public int QuotientFilter.grow(int)",
        "public int QuotientFilter.shrink(int)",
        "public int QuotientFilter.pour(int)",
        "public int QuotientFilter.clear(int)",
        "public int QuotientFilter.printOf(int)");

    private static Set<String> shown() {
        Class<QuotientFilter> c = QuotientFilter.class;
        Set<String> all = new TreeSet<>();
        all.add(c.toGenericString());
        for (Field field : c.getDeclaredFields()) {
            if (!Modifier.isPrivate(field.getModifiers())) {
                all.add(field.toString());
            }
        }
        for (Constructor<?> constructor : c.getDeclaredConstructors()) {
            all.add(constructor.toString());
        }
        for (Method method : c.getDeclaredMethods()) {
            if (!Modifier.isPrivate(method.getModifiers())) {
                all.add(method.toString());
            }
        }
        return all;
    }

    public static void main(String[] args) {
        Set<String> shown = shown();
        Set<String> missing = new TreeSet<>(FACE);
        missing.removeAll(shown);
        Set<String> surplus = new TreeSet<>(shown);
        surplus.removeAll(FACE);
        for (String member : missing) {
            System.out.println("missing: " + member);
        }
        for (String member : surplus) {
            System.out.println("not in the document: " + member);
        }
        if (!missing.isEmpty() || !surplus.isEmpty()) {
            System.exit(1);
        }
        System.out.println("the face is the document's");
    }
}
