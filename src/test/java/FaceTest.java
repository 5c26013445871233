import java.lang.reflect.Constructor;
import java.lang.reflect.Field;
import java.lang.reflect.Method;
import java.lang.reflect.Modifier;
import java.util.TreeSet;

/** "The public face": the class has it, letter by letter, and no other open member. */
public final class FaceTest {
    private static final String[] FACE = {
        "int feed(int, int, int, int, int) throws IllegalStateException",
        "int trim(int) throws IllegalArgumentException",
        "int teach()",
        "int errorAt()",
        "int count(int) throws IndexOutOfBoundsException",
        "int party(int, int) throws IndexOutOfBoundsException",
        "int money(int, int) throws IndexOutOfBoundsException",
        "int setRate(int, int) throws IndexOutOfBoundsException, IllegalArgumentException",
        "int has(int, int, boolean) throws IndexOutOfBoundsException",
        "int deposit(int, int, int) throws IndexOutOfBoundsException, IllegalArgumentException",
        "int withdraw(int, int, int) throws IndexOutOfBoundsException, IllegalArgumentException, IllegalStateException",
        "int pledge(int, int, int) throws IndexOutOfBoundsException, IllegalArgumentException, IllegalStateException",
        "int payment(int, int) throws IndexOutOfBoundsException",
        "int amend(int, int) throws IndexOutOfBoundsException, IllegalArgumentException, IllegalStateException",
        "int putOff(int, int) throws IndexOutOfBoundsException, IllegalArgumentException, IllegalStateException",
        "int owes(int, int, int) throws IndexOutOfBoundsException",
        "int pass(int) throws IllegalArgumentException",
        "int run(int) throws IndexOutOfBoundsException",
        "boolean settles(int) throws IndexOutOfBoundsException",
        "int when(int) throws IndexOutOfBoundsException",
        "int frees(int, int) throws IndexOutOfBoundsException",
        "int advise(int, int) throws IndexOutOfBoundsException, IllegalArgumentException",
        "int ring(int) throws IndexOutOfBoundsException",
        "int report(int) throws IllegalArgumentException",
        "int byteAt(int) throws IndexOutOfBoundsException",
        "double kept()",
        "long digest()"};

    public static void main(String[] args) {
        theClass();
        methods();
        otherMembers();
        Check.end("FaceTest");
    }

    private static boolean isClosed(int modifiers) {
        return Modifier.isPrivate(modifiers);
    }

    private static void theClass() {
        int modifiers = NettingDesk.class.getModifiers();
        Check.same("public and final", Modifier.toString(modifiers), "public final");
        Check.same("of no package", NettingDesk.class.getPackageName(), "");
        Constructor<?>[] made = NettingDesk.class.getDeclaredConstructors();
        Check.same("constructors", made.length, 1);
        Check.same("a public one", Modifier.toString(made[0].getModifiers()), "public");
        Check.same("without arguments", made[0].getParameterCount(), 0);
    }

    private static String names(Class<?>[] types) {
        StringBuilder all = new StringBuilder();
        for (Class<?> type : types) {
            all.append(all.length() == 0 ? "" : ", ").append(type.getSimpleName());
        }
        return all.toString();
    }

    private static void methods() {
        TreeSet<String> due = new TreeSet<>();
        TreeSet<String> got = new TreeSet<>();
        TreeSet<String> open = new TreeSet<>();
        for (String one : FACE) {
            due.add(one);
        }
        for (Method method : NettingDesk.class.getDeclaredMethods()) {
            if (!isClosed(method.getModifiers()) && !method.isSynthetic()) {
                String refusals = names(method.getExceptionTypes());
                open.add(method.getName());
                got.add(method.getReturnType().getSimpleName() + " " + method.getName() + "("
                    + names(method.getParameterTypes()) + ")" + (refusals.isEmpty() ? "" : " throws " + refusals));
                Check.same("modifiers of " + method.getName(), Modifier.toString(method.getModifiers()), "public");
            }
        }
        Check.same("methods", String.join("\n", got), String.join("\n", due));
        for (Method method : NettingDesk.class.getDeclaredMethods()) {
            if (isClosed(method.getModifiers())) {
                Check.same("a private " + method.getName() + " with the name of a public one",
                    open.contains(method.getName()) ? 1 : 0, 0);
            }
        }
    }

    private static void otherMembers() {
        for (Field field : NettingDesk.class.getDeclaredFields()) {
            Check.same("private: " + field.getName(), isClosed(field.getModifiers()) ? 1 : 0, 1);
            Check.same("final, if it is static: " + field.getName(),
                Modifier.isStatic(field.getModifiers()) && !Modifier.isFinal(field.getModifiers()) ? 1 : 0, 0);
        }
        for (Class<?> inner : NettingDesk.class.getDeclaredClasses()) {
            int modifiers = inner.getModifiers();
            Check.same("static and not open: " + inner.getSimpleName(),
                Modifier.isStatic(modifiers) && !Modifier.isPublic(modifiers) && !Modifier.isProtected(modifiers) ? 1 : 0, 1);
        }
    }
}
