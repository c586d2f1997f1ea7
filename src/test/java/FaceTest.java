import java.lang.reflect.Constructor;
import java.lang.reflect.Field;
import java.lang.reflect.Method;
import java.lang.reflect.Modifier;
import java.util.HashSet;
import java.util.Set;
import java.util.TreeSet;

/** 'The public face', and what LANGUAGE.md asks of the members of the class. */
public final class FaceTest extends Checks {
    private static final Class<DetourHooker> FACE = DetourHooker.class;

    private static final String[] CONSTANTS = {
        "public static final int BAD_ARG = -1", "public static final int FULL = -2",
        "public static final int HOOKED = -3", "public static final int UNFIT = -4",
        "public static final int NO_RUN = 0", "public static final int HALTED = 1",
        "public static final int BAD_CODE = 2", "public static final int OVERFLOW = 3",
        "public static final int TIRED = 4"};

    private static final String[] METHODS = {
        "public int halt()", "public int inc(int)", "public int dec(int)", "public int move(int, int)",
        "public int jump(int)", "public int branch(int, int)", "public int call(int)", "public int giveBack()",
        "public int where(int)", "public int length()", "public int peek(int)", "public int clear()",
        "public int setRegister(int, int)", "public int register(int)", "public int hook(int)",
        "public int unhook(int)", "public int calls(int)", "public int hooks()", "public int run(int)",
        "public int ending()", "public int executed()"};

    private static final Set<Class<?>> NUMBERS =
        Set.of(int.class, long.class, short.class, byte.class, char.class, boolean.class);

    private static String lines(Iterable<String> words) {
        return String.join("; ", words);
    }

    private static String sorted(String... words) {
        return lines(new TreeSet<>(Set.of(words)));
    }

    private static String typesOf(Class<?>[] types) {
        StringBuilder text = new StringBuilder("(");
        for (Class<?> t : types) text.append(text.length() > 1 ? ", " : "").append(t.getName());
        return text.append(')').toString();
    }

    private static boolean isOpen(int modifiers) {
        return !Modifier.isPrivate(modifiers);
    }

    private static void theClass() {
        due("public and final and no more", FACE.getModifiers(), Modifier.PUBLIC | Modifier.FINAL);
        dueText("its name, with the package", FACE.getName(), "DetourHooker");
        dueText("what it extends", FACE.getSuperclass().getName(), "java.lang.Object");
        due("the interfaces that it has", FACE.getInterfaces().length, 0);
        due("the classes inside it", FACE.getDeclaredClasses().length, 0);
    }

    private static void theConstants() {
        Set<String> found = new TreeSet<>();
        for (Field f : FACE.getDeclaredFields()) {
            if (!isOpen(f.getModifiers())) continue;
            String words = Modifier.toString(f.getModifiers()) + " " + f.getType().getName() + " " + f.getName();
            found.add(Modifier.isStatic(f.getModifiers()) ? words + " = " + valueOf(f) : words);
        }
        dueText("what is open of the fields", lines(found), sorted(CONSTANTS));
    }

    private static String valueOf(Field f) {
        try {
            return String.valueOf(f.get(null));
        } catch (IllegalAccessException hidden) {
            return "hidden";
        }
    }

    /** Only a constant of the compiler's can be a case label; the two groups may share no number. */
    private static int place(int code) {
        switch (code) {
            case DetourHooker.UNFIT: return 0;
            case DetourHooker.HOOKED: return 1;
            case DetourHooker.FULL: return 2;
            case DetourHooker.BAD_ARG: return 3;
            case DetourHooker.NO_RUN: return 4;
            case DetourHooker.HALTED: return 5;
            case DetourHooker.BAD_CODE: return 6;
            case DetourHooker.OVERFLOW: return 7;
            case DetourHooker.TIRED: return 8;
            default: return -1;
        }
    }

    private static void constantsAsCaseLabels() {
        for (int code = UNFIT; code <= TIRED; code++) due("the place of " + code, place(code), code - UNFIT);
    }

    private static void theConstructor() {
        Constructor<?>[] made = FACE.getDeclaredConstructors();
        due("how many constructors", made.length, 1);
        String words = Modifier.toString(made[0].getModifiers()) + " DetourHooker" + typesOf(made[0].getParameterTypes());
        dueText("the constructor", words, "public DetourHooker()");
        due("what it says that it throws", made[0].getExceptionTypes().length, 0);
    }

    private static void theMethods() {
        Set<String> found = new TreeSet<>();
        for (Method m : FACE.getDeclaredMethods()) {
            if (!isOpen(m.getModifiers())) continue;
            found.add(Modifier.toString(m.getModifiers()) + " " + m.getReturnType().getName() + " " + m.getName()
                + typesOf(m.getParameterTypes()));
            due("what " + m.getName() + " says that it throws", m.getExceptionTypes().length, 0);
        }
        due("how many methods", found.size(), 21);
        dueText("what is open of the methods", lines(found), sorted(METHODS));
    }

    private static void namesOfPrivateMethods() {
        Set<String> open = new HashSet<>();
        for (Method m : FACE.getDeclaredMethods()) {
            if (isOpen(m.getModifiers())) open.add(m.getName());
        }
        for (Method m : FACE.getDeclaredMethods()) {
            boolean shared = !isOpen(m.getModifiers()) && open.contains(m.getName());
            if (shared) tell("the private method " + m.getName() + " bears the name of a public one");
        }
    }

    private static boolean isAllowed(Class<?> type) {
        return NUMBERS.contains(type.isArray() ? type.getComponentType() : type);
    }

    private static void typesOfTheMembers() {
        for (Field f : FACE.getDeclaredFields()) {
            if (!isAllowed(f.getType())) tell("the field " + f.getName() + " is a " + f.getType().getName());
        }
        for (Method m : FACE.getDeclaredMethods()) {
            boolean answers = m.getReturnType() == void.class || NUMBERS.contains(m.getReturnType());
            if (!answers) tell(m.getName() + " answers a " + m.getReturnType().getName());
            for (Class<?> t : m.getParameterTypes()) {
                if (!isAllowed(t)) tell(m.getName() + " takes a " + t.getName());
            }
        }
    }

    private static void staticFields() {
        for (Field f : FACE.getDeclaredFields()) {
            if (!Modifier.isStatic(f.getModifiers())) continue;
            boolean number = f.getType() == int.class || f.getType() == long.class;
            if (!number || !Modifier.isFinal(f.getModifiers())) tell("the static field " + f.getName() + " is no constant");
        }
    }

    private static void notTooMany() {
        int fields = 0;
        for (Field f : FACE.getDeclaredFields()) {
            if (!Modifier.isStatic(f.getModifiers())) fields++;
        }
        if (fields > 40) tell("the class has " + fields + " fields beside its constants");
        for (Method m : FACE.getDeclaredMethods()) {
            if (m.getParameterCount() > 7) tell(m.getName() + " takes " + m.getParameterCount() + " parameters");
        }
    }

    public static void main(String[] args) {
        sentence("public final class DetourHooker", FaceTest::theClass);
        sentence("the constants with their values, and no other open field", FaceTest::theConstants);
        sentence("the constants are constants for the compiler", FaceTest::constantsAsCaseLabels);
        sentence("the constructor, and no other", FaceTest::theConstructor);
        sentence("the 21 methods, and no other open one", FaceTest::theMethods);
        sentence("LANGUAGE.md 1: no private method bears the name of a public one", FaceTest::namesOfPrivateMethods);
        sentence("LANGUAGE.md 2 and 4: numbers and arrays of them, and no array answered", FaceTest::typesOfTheMembers);
        sentence("LANGUAGE.md 5: static fields are constants of int or long", FaceTest::staticFields);
        sentence("LANGUAGE.md 10: at most forty fields and seven parameters", FaceTest::notTooMany);
        end();
    }
}
