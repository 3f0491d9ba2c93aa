import java.lang.reflect.Constructor;
import java.lang.reflect.Field;
import java.lang.reflect.Member;
import java.lang.reflect.Method;
import java.lang.reflect.Modifier;
import java.util.Arrays;
import java.util.Set;
import java.util.TreeSet;

/** The members of the class are those of the document, and no others can be seen. */
public final class FaceTest {
    private static final String[] DUE = {
        "public static final int NONE",
        "public LogFs()",
        "public int make(int, long, boolean)",
        "public boolean link(int, long, int)",
        "public boolean unlink(int, long)",
        "public int write(int, int, long, int)",
        "public int fill(int, int, int, int)",
        "public boolean truncate(int)",
        "public int sync()",
        "public boolean failAfter(int)",
        "public int mount()",
        "public int find(int, long)",
        "public int read(int, int)",
        "public int look(int, int)",
        "public int disk(int, int)",
        "public int memory(int, int)",
        "public int count(int)",
    };

    public static void main(String[] args) {
        Set<String> due = new TreeSet<>(Arrays.asList(DUE));
        Set<String> seen = new TreeSet<>();
        Set<String> names = new TreeSet<>();
        for (Field field : LogFs.class.getDeclaredFields()) {
            addIfSeen(seen, field, head(field) + field.getType().getSimpleName() + " " + field.getName());
        }
        for (Constructor<?> made : LogFs.class.getDeclaredConstructors()) {
            addIfSeen(seen, made, head(made) + "LogFs" + parameters(made.getParameterTypes()));
        }
        for (Method method : LogFs.class.getDeclaredMethods()) {
            addIfSeen(seen, method, head(method) + method.getReturnType().getSimpleName() + " " + method.getName()
                    + parameters(method.getParameterTypes()));
            Check.yes("one method alone is named " + method.getName(), names.add(method.getName()));
        }
        if (!seen.equals(due)) {
            Check.tell("the members are " + seen + ", due are " + due);
        }
        Check.yes("the class is public and final",
                LogFs.class.getModifiers() == (Modifier.PUBLIC | Modifier.FINAL));
        for (Class<?> inside : LogFs.class.getDeclaredClasses()) {
            Check.yes(inside.getName() + " is static", Modifier.isStatic(inside.getModifiers()));
            Check.no(inside.getName() + " is public", Modifier.isPublic(inside.getModifiers()));
        }
        Check.end();
    }

    private static void addIfSeen(Set<String> seen, Member member, String text) {
        if (!Modifier.isPrivate(member.getModifiers())) {
            seen.add(text);
        }
    }

    private static String head(Member member) {
        String modifiers = Modifier.toString(member.getModifiers());
        return modifiers.isEmpty() ? "" : modifiers + " ";
    }

    private static String parameters(Class<?>[] types) {
        StringBuilder text = new StringBuilder("(");
        for (int i = 0; i < types.length; i++) {
            text.append(i == 0 ? "" : ", ").append(types[i].getSimpleName());
        }
        return text.append(")").toString();
    }
}
