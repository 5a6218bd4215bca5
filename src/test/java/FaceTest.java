import java.lang.reflect.Constructor;
import java.lang.reflect.Executable;
import java.lang.reflect.Field;
import java.lang.reflect.Method;
import java.lang.reflect.Modifier;
import java.util.Arrays;
import java.util.TreeSet;

/** The public face, and nothing besides it; rule 1 of LANGUAGE.md. */
public final class FaceTest {
    private static final String I = "IndexOutOfBoundsException";
    private static final String A = "IllegalArgumentException";
    private static final String S = "IllegalStateException";
    private static final String N = "NoSuchElementException";
    private static final String M = "ArithmeticException";
    private static final String[] FACE = {
        "int addFamily(char)" + A + S, "int put(int,int,int)" + I + A + S, "int delete(int,int)" + I + A + S,
        "int deleteRange(int,int,int)" + I + A + S, "int merge(int,int,int)" + I + A + S,
        "int bringIn(int,int,int,int,int)" + I + A + S, "int lastNumber()", "int get(int,int,int)" + I + A + N,
        "int getAnew(int,int,int)" + I + A + N, "int snapshot()" + S, "int release(int)" + I,
        "int open(int,int)" + I + S, "int next(int)" + I, "int previous(int)" + I, "int value(int)" + I + N,
        "int close(int)" + I, "int flush(int)" + I + S, "int inMemory(int)" + I, "int runs(int,int)" + I,
        "int file(int,int,int)" + I, "int entries(int,int,int)" + I, "int ranges(int,int,int)" + I,
        "int bound(int,int,int,boolean)" + I, "boolean passes(int,int,int,int)" + I + A, "float debt(int,int)" + I,
        "int debtBits(int,int)" + I, "int compact(int)" + I + S + N, "int work(int)" + A + S, "int stop()" + S,
        "boolean isMerging()", "int sync()", "int log()", "int crash()", "int backup()" + S, "int restore(int)" + I,
        "int shared(int,int)" + I, "int version()", "int blocks()", "int asked()", "int falsePasses()",
        "int slowed()", "int dropped()", "float falseShare()" + M, "double amplification()" + M,
        "long amplificationBits()" + M, "boolean isSound()"};

    public static void main(String[] args) {
        Check check = new Check("FaceTest");
        TreeSet<String> open = new TreeSet<>();
        TreeSet<String> names = new TreeSet<>();
        for (Method method : StratumLedge.class.getDeclaredMethods()) {
            if (Modifier.isPublic(method.getModifiers())) {
                open.add(method.getReturnType().getSimpleName() + " " + method.getName() + text(method));
                names.add(method.getName());
            }
        }
        check.same("the methods", open.toString(), new TreeSet<>(Arrays.asList(FACE)).toString());
        for (Method method : StratumLedge.class.getDeclaredMethods()) {
            if (!Modifier.isPublic(method.getModifiers())) {
                check.same(method.getName() + " is private", Modifier.isPrivate(method.getModifiers()), true);
                check.same(method.getName() + " is a name of the face", names.contains(method.getName()), false);
            }
        }
        for (Field field : StratumLedge.class.getDeclaredFields()) {
            check.same(field.getName() + " is private", Modifier.isPrivate(field.getModifiers()), true);
        }
        Constructor<?>[] made = StratumLedge.class.getDeclaredConstructors();
        check.same("constructors", made.length, 1);
        check.same("the constructor", Modifier.isPublic(made[0].getModifiers()) + text(made[0]), "true()");
        for (Class<?> inner : StratumLedge.class.getDeclaredClasses()) {
            check.same(inner.getName() + " is static", Modifier.isStatic(inner.getModifiers()), true);
            check.same(inner.getName() + " is public", Modifier.isPublic(inner.getModifiers()), false);
        }
        check.same("the class", Modifier.toString(StratumLedge.class.getModifiers()), "public final");
        check.end();
    }

    private static String text(Executable part) {
        StringBuilder text = new StringBuilder("(");
        for (Class<?> parameter : part.getParameterTypes()) {
            text.append(text.length() > 1 ? "," : "").append(parameter.getSimpleName());
        }
        text.append(")");
        for (Class<?> thrown : part.getExceptionTypes()) {
            text.append(thrown.getSimpleName());
        }
        return text.toString();
    }
}
