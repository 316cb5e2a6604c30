import java.lang.reflect.Constructor;
import java.lang.reflect.Executable;
import java.lang.reflect.Field;
import java.lang.reflect.Member;
import java.lang.reflect.Method;
import java.lang.reflect.Modifier;
import java.util.Set;
import java.util.TreeSet;

/** The class has the document's face, and nothing else that could be seen from outside. */
public final class FaceTest {
    private static final String[] FACE = {
        "BADVER = -1", "NOHANDLE = -2", "NOROOM = -3", "MIXED = -4",
        "TreapVersions[int, int, int][]",
        "int put[int, int, int][]", "int remove[int, int][]", "int below[int, int][]", "int join[int, int][]",
        "boolean drop[int][]", "boolean isLive[int][]", "int get[int, int][NoSuchElementException]",
        "boolean contains[int, int][]", "int size[int][]", "int floor[int, int][NoSuchElementException]",
        "int keyAt[int, int][NoSuchElementException, IndexOutOfBoundsException]", "long sum[int, int, int][]",
        "int depth[int, int][NoSuchElementException]", "int shared[int, int][]",
        "int nodes[][]", "int used[][]", "int sweeps[][]"};

    private FaceTest() {
    }

    public static void main(String[] args) throws IllegalAccessException {
        Class<?> type = TreapVersions.class;
        Check.holds("the class is public and final", Modifier.isPublic(type.getModifiers()) && Modifier.isFinal(type.getModifiers()));
        Set<String> seen = seenFromOutside(type);
        for (String member : FACE) {
            Check.holds("the face has: " + member, seen.remove(member));
        }
        Check.same("members beside the face " + seen, 0, seen.size());
        checkNested(type);
        checkHidden(type, publicNames(type));
        for (Class<?> nested : type.getDeclaredClasses()) {
            checkHidden(nested, publicNames(type));
        }
        Check.end();
    }

    private static Set<String> seenFromOutside(Class<?> type) throws IllegalAccessException {
        Set<String> seen = new TreeSet<>();
        for (Field field : type.getDeclaredFields()) {
            if (isVisible(field)) {
                seen.add(isConstant(field) ? field.getName() + " = " + field.get(null) : field.toString());
            }
        }
        for (Constructor<?> constructor : type.getDeclaredConstructors()) {
            if (isVisible(constructor)) {
                seen.add(markOfNonPublic(constructor) + constructor.getName() + tail(constructor));
            }
        }
        for (Method method : type.getDeclaredMethods()) {
            if (isVisible(method)) {
                String head = method.getReturnType() + " " + method.getName();
                seen.add(markOfNonPublic(method) + head + tail(method));
            }
        }
        return seen;
    }

    private static boolean isVisible(Member member) {
        return !Modifier.isPrivate(member.getModifiers()) && !member.isSynthetic();
    }

    private static boolean isConstant(Field field) {
        int wanted = Modifier.PUBLIC | Modifier.STATIC | Modifier.FINAL;
        return field.getModifiers() == wanted && field.getType() == int.class;
    }

    private static String markOfNonPublic(Member member) {
        int wanted = Modifier.PUBLIC;
        return member.getModifiers() == wanted ? "" : "not just public: ";
    }

    private static String tail(Executable executable) {
        return names(executable.getParameterTypes()) + names(executable.getExceptionTypes());
    }

    private static String names(Class<?>[] types) {
        StringBuilder text = new StringBuilder("[");
        for (Class<?> type : types) {
            text.append(text.length() > 1 ? ", " : "").append(type.getSimpleName());
        }
        return text.append("]").toString();
    }

    private static void checkNested(Class<?> type) {
        for (Class<?> nested : type.getDeclaredClasses()) {
            int modifiers = nested.getModifiers();
            boolean hidden = !Modifier.isPublic(modifiers) && !Modifier.isProtected(modifiers);
            Check.holds(nested.getSimpleName() + " is hidden and static", hidden && Modifier.isStatic(modifiers));
        }
    }

    private static Set<String> publicNames(Class<?> type) {
        Set<String> names = new TreeSet<>();
        for (Method method : type.getDeclaredMethods()) {
            if (Modifier.isPublic(method.getModifiers())) {
                names.add(method.getName());
            }
        }
        return names;
    }

    /** LANGUAGE.md, rules 1 and 5: no private method with a public one's name, no static state. */
    private static void checkHidden(Class<?> type, Set<String> publicNames) {
        for (Method method : type.getDeclaredMethods()) {
            boolean clashes = !Modifier.isPublic(method.getModifiers()) && publicNames.contains(method.getName());
            Check.holds(type.getSimpleName() + "." + method.getName() + " has a name of its own", !clashes);
        }
        for (Field field : type.getDeclaredFields()) {
            boolean isState = Modifier.isStatic(field.getModifiers()) && !Modifier.isFinal(field.getModifiers());
            Check.holds(type.getSimpleName() + "." + field.getName() + " is no static state", !isState);
        }
    }
}
