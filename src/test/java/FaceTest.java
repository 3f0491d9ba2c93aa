import java.lang.reflect.Constructor;
import java.lang.reflect.Field;
import java.lang.reflect.Member;
import java.lang.reflect.Method;
import java.lang.reflect.Modifier;
import java.util.Arrays;
import java.util.Set;
import java.util.TreeSet;
import java.util.stream.Collectors;

/** The members of the class are those of the document, and no others can be seen. */
public final class FaceTest {
    private static final String CHANGES = " throws IllegalStateException, UnsupportedOperationException";
    private static final String READS = " throws IllegalStateException, IndexOutOfBoundsException";

    private static final String[] DUE = {
        "public static final int NONE",
        "public LogFs()",
        "public int make(int, long, boolean)" + CHANGES,
        "public boolean link(int, long, int)" + CHANGES,
        "public boolean unlink(int, long)" + CHANGES,
        "public int write(int, int, long, int)" + CHANGES,
        "public int fill(int, int, int, int)" + CHANGES,
        "public boolean truncate(int)" + CHANGES,
        "public int sync()" + CHANGES,
        "public boolean failAfter(int)",
        "public int mount() throws UnsupportedOperationException",
        "public int find(int, long) throws IllegalStateException",
        "public int read(int, int)" + READS,
        "public int look(int, int)" + READS,
        "public int disk(int, int) throws IndexOutOfBoundsException",
        "public int memory(int, int)" + READS,
        "public int count(int)",
    };

    public static void main(String[] args) {
        Set<String> due = new TreeSet<>(Arrays.asList(DUE));
        Set<String> seen = new TreeSet<>();
        Set<String> names = new TreeSet<>();
        for (Field field : LogFs.class.getDeclaredFields()) {
            addIfSeen(seen, field, head(field) + field.getType().getSimpleName() + " " + field.getName());
        }
        for (Constructor<?> made : LogFs.class.getDeclaredConstructors()) {
            addIfSeen(seen, made, head(made) + "LogFs" + parameters(made.getParameterTypes()));
        }
        for (Method method : LogFs.class.getDeclaredMethods()) {
            addIfSeen(seen, method, head(method) + method.getReturnType().getSimpleName() + " " + method.getName()
                    + parameters(method.getParameterTypes()) + exceptions(method));
            Check.yes("one method alone is named " + method.getName(), names.add(method.getName()));
        }
        if (!seen.equals(due)) {
            Check.tell("the members are " + seen + ", due are " + due);
        }
        Check.yes("the class is public and final",
                LogFs.class.getModifiers() == (Modifier.PUBLIC | Modifier.FINAL));
        for (Class<?> inside : LogFs.class.getDeclaredClasses()) {
            Check.yes(inside.getName() + " is static", Modifier.isStatic(inside.getModifiers()));
            Check.no(inside.getName() + " is public", Modifier.isPublic(inside.getModifiers()));
        }
        Check.end();
    }

    private static void addIfSeen(Set<String> seen, Member member, String text) {
        if (!Modifier.isPrivate(member.getModifiers())) {
            seen.add(text);
        }
    }

    private static String head(Member member) {
        String modifiers = Modifier.toString(member.getModifiers());
        return modifiers.isEmpty() ? "" : modifiers + " ";
    }

    private static String exceptions(Method method) {
        Class<?>[] types = method.getExceptionTypes();
        return types.length == 0 ? "" : " throws " + names(types);
    }

    private static String parameters(Class<?>[] types) {
        return "(" + names(types) + ")";
    }

    private static String names(Class<?>[] types) {
        return Arrays.stream(types).map(Class::getSimpleName).collect(Collectors.joining(", "));
    }
}
