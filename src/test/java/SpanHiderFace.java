import java.lang.reflect.Constructor;
import java.lang.reflect.Field;
import java.lang.reflect.Member;
import java.lang.reflect.Method;
import java.lang.reflect.Modifier;
import java.util.Arrays;
import java.util.Set;
import java.util.TreeSet;

// The public face of the class is the document's, whole, and nothing else is visible.
public final class SpanHiderFace {
    private static final String[] FACE = {
        "SpanHider()",
        "int point(int, int)",
        "int clear()",
        "int plane(int, int, int)",
        "int draw()",
        "int remove(int)",
        "int shift(int, int, int)",
        "int tilt(int)",
        "int drawn()",
        "int owner(int, int)",
        "int depthAt(int, int)",
        "int covers(int, int, int)",
        "int spans(int)",
        "int spanStart(int, int)",
        "int spanOwner(int, int)",
        "int owned(int)",
        "int covered(int)",
        "int lit()",
        "int seams()",
    };

    private static int wrong = 0;

    public static void main(String[] args) {
        int modifiers = SpanHider.class.getModifiers();
        check(Modifier.isPublic(modifiers) && Modifier.isFinal(modifiers), "the class is public and final");
        check(SpanHider.class.getDeclaredClasses().length == 0, "no nested class");
        Set<String> publicNames = new TreeSet<>();
        Set<String> seen = visibleMembers(publicNames);
        check(seen.equals(new TreeSet<>(Arrays.asList(FACE))), "the face is the document's, but is " + seen);
        for (Method method : SpanHider.class.getDeclaredMethods()) {
            boolean hidden = Modifier.isPrivate(method.getModifiers());
            check(!hidden || !publicNames.contains(method.getName()), "a public name for itself: " + method);
            check(method.getParameterCount() <= 7, "at most seven parameters: " + method);
        }
        for (Field field : SpanHider.class.getDeclaredFields()) {
            checkField(field);
        }
        System.out.println(wrong == 0 ? "the face is as due" : wrong + " things are not as due");
        if (wrong != 0) {
            System.exit(1);
        }
    }

    private static void check(boolean holds, String what) {
        if (!holds) {
            wrong++;
            System.out.println("does not hold: " + what);
        }
    }

    private static Set<String> visibleMembers(Set<String> publicNames) {
        Set<String> seen = new TreeSet<>();
        for (Constructor<?> made : SpanHider.class.getDeclaredConstructors()) {
            if (isVisible(made)) {
                seen.add("SpanHider" + parameters(made.getParameterTypes()));
            }
        }
        for (Method method : SpanHider.class.getDeclaredMethods()) {
            if (isVisible(method)) {
                boolean plain = Modifier.isPublic(method.getModifiers()) && !Modifier.isStatic(method.getModifiers());
                check(plain, "public and of the object: " + method);
                publicNames.add(method.getName());
                seen.add(method.getReturnType().getSimpleName() + " " + method.getName()
                    + parameters(method.getParameterTypes()));
            }
        }
        return seen;
    }

    private static boolean isVisible(Member member) {
        return !Modifier.isPrivate(member.getModifiers());
    }

    private static String parameters(Class<?>[] types) {
        StringBuilder text = new StringBuilder("(");
        for (Class<?> type : types) {
            text.append(text.length() == 1 ? "" : ", ").append(type.getSimpleName());
        }
        return text.append(")").toString();
    }

    private static void checkField(Field field) {
        Class<?> type = field.getType();
        check(!isVisible(field), "private: " + field);
        if (Modifier.isStatic(field.getModifiers())) {
            check(Modifier.isFinal(field.getModifiers()) && (type == int.class || type == long.class),
                "a constant of int or long: " + field);
        }
        Class<?> kind = type.isArray() ? type.getComponentType() : type;
        check(kind.isPrimitive() && kind != float.class && kind != double.class, "whole numbers alone: " + field);
    }
}
