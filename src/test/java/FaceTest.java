import java.lang.reflect.Constructor;
import java.lang.reflect.Field;
import java.lang.reflect.Method;
import java.lang.reflect.Modifier;
import java.util.TreeSet;

/** "The public face", and rules 1, 5 and 11 of LANGUAGE.md as far as the compiled class shows them. */
public final class FaceTest {
    private static final Class<?> CLASS = StackCoder.class;
    private static final int MOST_CLASSES = 12;
    private static final int MOST_FIELDS = 20;
    private static final int MOST_PARAMETERS = 7;

    public static void main(String[] args) {
        publicAndFinal();
        constructor();
        methods();
        noOtherMember();
        noPrivateMethodNamedAsAPublicOne();
        classesInside();
        staticFieldsAreFinal();
        fewFieldsAndParameters();
        Check.end();
    }

    /** The public face: "public final class StackCoder", which extends and implements nothing. */
    private static void publicAndFinal() {
        Check.due("the class", Modifier.toString(CLASS.getModifiers()), "public final");
        Check.due("its package", CLASS.getPackageName(), "");
        Check.due("what it extends", CLASS.getSuperclass().getName(), "java.lang.Object");
        Check.due("what it implements", CLASS.getInterfaces().length, 0);
    }

    /** The public face: "public StackCoder(int depth)", and no other. */
    private static void constructor() {
        TreeSet<String> got = new TreeSet<>();
        for (Constructor<?> one : CLASS.getDeclaredConstructors()) {
            got.add(one.toGenericString());
        }
        Check.due("the constructors", got.toString(), "[public StackCoder(int)]");
    }

    /** The public face: the methods that stand there, none of them static or declared to throw. */
    private static void methods() {
        String want = """
            public boolean StackCoder.cut(int)
            public boolean StackCoder.set(int,int,int,int,int)
            public int StackCoder.add(int,int,int,int)
            public int StackCoder.carried(int)
            public int StackCoder.cell(int)
            public int StackCoder.code(int)
            public int StackCoder.depth()
            public int StackCoder.length()
            public int StackCoder.live(int)
            public int StackCoder.need(int)
            public int StackCoder.out(int)
            public int StackCoder.run(int)
            public int StackCoder.size()
            public int StackCoder.steps()
            public int StackCoder.stores()
            """;
        TreeSet<String> got = new TreeSet<>();
        for (Method one : CLASS.getDeclaredMethods()) {
            if (!Modifier.isPrivate(one.getModifiers())) {
                got.add(one.toGenericString());
            }
        }
        Check.due("the methods", String.join("\n", got) + "\n", want);
    }

    /** Rule 1: "no other public, protected or package-visible member". */
    private static void noOtherMember() {
        for (Field one : CLASS.getDeclaredFields()) {
            Check.due("private: " + one, Modifier.isPrivate(one.getModifiers()), true);
        }
    }

    /** Rule 1: "No private method bears the name of a public one." */
    private static void noPrivateMethodNamedAsAPublicOne() {
        TreeSet<String> face = new TreeSet<>();
        for (Method one : CLASS.getMethods()) {
            face.add(one.getName());
        }
        for (Method one : CLASS.getDeclaredMethods()) {
            boolean isPrivate = Modifier.isPrivate(one.getModifiers());
            Check.due("named apart: " + one, isPrivate && face.contains(one.getName()), false);
        }
        for (Class<?> inside : CLASS.getDeclaredClasses()) {
            for (Method one : inside.getDeclaredMethods()) {
                Check.due("named apart: " + one, face.contains(one.getName()), false);
            }
        }
    }

    /** Rules 1 and 11: classes inside are "private or package-visible and static", some twelve at most. */
    private static void classesInside() {
        Class<?>[] inside = CLASS.getDeclaredClasses();
        Check.due("few classes", inside.length + 1 <= MOST_CLASSES, true);
        for (Class<?> one : inside) {
            int modifiers = one.getModifiers();
            boolean hidden = !Modifier.isPublic(modifiers) && !Modifier.isProtected(modifiers);
            Check.due("hidden and static: " + one, hidden && Modifier.isStatic(modifiers), true);
        }
    }

    /** Rule 5: "Static fields are final". */
    private static void staticFieldsAreFinal() {
        for (Class<?> one : allClasses()) {
            for (Field field : one.getDeclaredFields()) {
                int modifiers = field.getModifiers();
                boolean free = Modifier.isStatic(modifiers) && !Modifier.isFinal(modifiers);
                Check.due("final, if static: " + field, free, false);
            }
        }
    }

    /** Rule 11: at most seven parameters, and "some twenty fields beside its constants". */
    private static void fewFieldsAndParameters() {
        for (Class<?> one : allClasses()) {
            int fields = 0;
            for (Field field : one.getDeclaredFields()) {
                fields += Modifier.isStatic(field.getModifiers()) ? 0 : 1;
            }
            Check.due("few fields: " + one, fields <= MOST_FIELDS, true);
            for (Method method : one.getDeclaredMethods()) {
                Check.due("few parameters: " + method, method.getParameterCount() <= MOST_PARAMETERS, true);
            }
        }
    }

    private static Class<?>[] allClasses() {
        Class<?>[] inside = CLASS.getDeclaredClasses();
        Class<?>[] all = java.util.Arrays.copyOf(inside, inside.length + 1);
        all[inside.length] = CLASS;
        return all;
    }
}
