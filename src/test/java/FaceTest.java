import java.lang.reflect.Field;
import java.lang.reflect.Method;
import java.lang.reflect.Modifier;
import java.util.Arrays;
import java.util.Set;
import java.util.TreeSet;

/** The class has exactly the document's face, and a run of calls makes next to no objects. */
public final class FaceTest {
    private static final String ISE = " throws IllegalStateException";
    private static final String IAE = " throws IllegalArgumentException";
    private static final String IOOBE = " throws IndexOutOfBoundsException";
    private static final String[] FACE = {
        "int addHalt()" + ISE,
        "int addLane(int,int,int,int)" + IOOBE + IAE + ISE,
        "int setRain(int,int)" + IOOBE + IAE,
        "int setRound(int,int)" + IAE,
        "int halt(int,int)" + IOOBE,
        "int lane(int,int)" + IOOBE,
        "int way(int,int)" + IOOBE,
        "int addBook(int)" + IAE + ISE,
        "int addReader(int,int,int)" + IOOBE + IAE + ISE,
        "int reserve(int,int)" + IOOBE + ISE,
        "int cancel(int,int)" + IOOBE,
        "int book(int,int)" + IOOBE,
        "int reader(int,int)" + IOOBE,
        "int pay(int,int)" + IOOBE + IAE,
        "int pass(int)" + IAE,
        "int count(int)" + IOOBE,
        "int foresee(int,int)" + IAE + IOOBE,
        "int gets(int,int)" + IOOBE,
        "int advise(int)" + IAE + ISE,
        "double daily()",
        "long digest()",
    };

    private FaceTest() {
    }

    public static void main(String[] args) {
        theFace();
        nothingElse();
        withinTheLanguage();
        noNewObjects();
        Check.end();
    }

    private static void theFace() {
        Set<String> face = new TreeSet<>();
        Set<String> names = new TreeSet<>();
        for (Method method : LibraryVan.class.getDeclaredMethods()) {
            if (Modifier.isPublic(method.getModifiers())) {
                face.add(told(method));
                names.add(method.getName());
            }
        }
        Check.isTrue("the face is " + face, face.equals(new TreeSet<>(Arrays.asList(FACE))));
        Check.isTrue("the class is final", Modifier.isFinal(LibraryVan.class.getModifiers()));
        Check.equal("public constructors", LibraryVan.class.getConstructors().length, 1);
        Check.equal("constructors", LibraryVan.class.getDeclaredConstructors().length, 1);
        for (Method method : LibraryVan.class.getDeclaredMethods()) {
            int modifiers = method.getModifiers();
            boolean alone = Modifier.isPublic(modifiers) || !names.contains(method.getName());
            Check.isTrue("no private method is named " + method.getName() + " too", alone);
        }
    }

    private static String told(Method method) {
        StringBuilder text = new StringBuilder();
        text.append(method.getReturnType()).append(' ').append(method.getName()).append('(');
        for (int i = 0; i < method.getParameterCount(); i++) {
            text.append(i == 0 ? "" : ",").append(method.getParameterTypes()[i]);
        }
        text.append(')');
        for (Class<?> thrown : method.getExceptionTypes()) {
            text.append(" throws ").append(thrown.getSimpleName());
        }
        return text.toString();
    }

    private static void nothingElse() {
        for (Method method : LibraryVan.class.getDeclaredMethods()) {
            int modifiers = method.getModifiers();
            Check.isTrue(method + " is public or private",
                    Modifier.isPublic(modifiers) || Modifier.isPrivate(modifiers));
        }
        for (Field field : LibraryVan.class.getDeclaredFields()) {
            int modifiers = field.getModifiers();
            Check.isTrue(field + " is private", Modifier.isPrivate(modifiers));
            Check.isTrue(field + " is final", Modifier.isFinal(modifiers));
        }
        for (Class<?> inside : LibraryVan.class.getDeclaredClasses()) {
            Check.isTrue(inside + " is static", Modifier.isStatic(inside.getModifiers()));
        }
    }

    /** What can be seen of LANGUAGE.md's rules 1 to 3, 5 and 11 from outside the file. */
    private static void withinTheLanguage() {
        Class<?>[] inside = LibraryVan.class.getDeclaredClasses();
        Check.isTrue((inside.length + 1) + " classes are some twelve", inside.length < 12);
        keepsToTheLanguage(LibraryVan.class);
        for (Class<?> one : inside) {
            Check.isTrue(one + " is not public or protected",
                    (one.getModifiers() & (Modifier.PUBLIC | Modifier.PROTECTED)) == 0);
            Check.equal("classes inside " + one, one.getDeclaredClasses().length, 0);
            keepsToTheLanguage(one);
        }
    }

    private static void keepsToTheLanguage(Class<?> one) {
        int fields = 0;
        for (Field field : one.getDeclaredFields()) {
            boolean isStatic = Modifier.isStatic(field.getModifiers());
            fields += isStatic ? 0 : 1;
            Check.isTrue(field + " is a constant, if it is static",
                    !isStatic || Modifier.isFinal(field.getModifiers()));
            Check.isTrue(field + " is of a type that the language has", isOfTheLanguage(field));
        }
        Check.isTrue(fields + " fields of " + one + " are some twenty", fields <= 20);
        for (Method method : one.getDeclaredMethods()) {
            Check.isTrue(method + " takes at most seven", method.getParameterCount() <= 7);
            Check.isTrue(method + " is written, not made by javac", !method.isSynthetic());
        }
    }

    private static boolean isOfTheLanguage(Field field) {
        Class<?> type = field.getType();
        if (type == java.util.ArrayList.class) {
            return field.getGenericType().getTypeName().contains("<LibraryVan$");
        }
        while (type.isArray()) {
            type = type.getComponentType();
        }
        return type.isPrimitive() || type.getName().startsWith("LibraryVan$");
    }

    /** All 512 calls live in one room: the dearest ones must not make objects of their own. */
    private static void noNewObjects() {
        LibraryVan van = HaltsAndRoundTest.withHalts(8);
        for (int i = 0; i < 16; i++) {
            van.addLane(i % 8, (i + 1 + i / 8) % 8, 1 + i, i % 10);
        }
        for (int i = 0; i < 24; i++) {
            van.addBook(i % 6);
        }
        for (int i = 0; i < 10; i++) {
            van.addReader(i % 8, i % 6, 3 * i + 1);
            van.reserve(i, i);
        }
        van.setRound(2345678, 300);
        com.sun.management.ThreadMXBean threads = (com.sun.management.ThreadMXBean)
                java.lang.management.ManagementFactory.getThreadMXBean();
        long self = Thread.currentThread().getId();
        long before = threads.getThreadAllocatedBytes(self);
        for (int i = 0; i < 100; i++) {
            van.advise(30);
            van.gets(i % 10, i % 24);
            van.foresee(60, i % 4);
            van.digest();
        }
        long made = threads.getThreadAllocatedBytes(self) - before;
        Check.isTrue("400 calls made " + made + " bytes", made < 100_000);
    }
}
