import java.lang.reflect.Constructor;
import java.lang.reflect.Field;
import java.lang.reflect.InvocationTargetException;
import java.lang.reflect.Method;
import java.lang.reflect.Modifier;
import java.util.Arrays;
import java.util.Random;
import java.util.Set;
import java.util.TreeSet;

/** The public face, and that nothing but the document's exceptions ever comes out of it. */
public final class FaceTest {
    private static final String[] FACE = {
        "boolean crosses()", "boolean whole()",
        "int cost(int,int) IllegalArgumentException",
        "int count(int)",
        "int decode(int,int) IllegalArgumentException",
        "int encoding(int,int,int,int) IllegalArgumentException UnsupportedOperationException",
        "int feed(int) IllegalArgumentException UnsupportedOperationException",
        "int kind(int) IllegalArgumentException",
        "int listed(int,int) IndexOutOfBoundsException",
        "int node(int,int) IndexOutOfBoundsException",
        "int take(int) IllegalArgumentException IllegalStateException",
        "int tests(int) IllegalArgumentException",
        "int tried(int,int) IllegalArgumentException"};
    private static final int[] EDGES = {Integer.MIN_VALUE, Integer.MIN_VALUE + 1, -256, -2, -1, 0, 1, 2, 3, 4, 5, 7, 8,
        15, 16, 63, 64, 255, 256, 510, 511, 512, 1 << 30, Integer.MAX_VALUE - 1, Integer.MAX_VALUE};

    private static final Check CHECK = new Check();

    public static void main(String[] args) throws IllegalAccessException {
        face();
        insideClasses();
        anyArguments();
        CHECK.end("FaceTest");
    }

    private static String told(Method method) {
        StringBuilder text = new StringBuilder(method.getReturnType() + " " + method.getName() + "(");
        for (Class<?> type : method.getParameterTypes()) {
            text.append(text.charAt(text.length() - 1) == '(' ? "" : ",").append(type);
        }
        text.append(")");
        for (Class<?> type : method.getExceptionTypes()) {
            text.append(" ").append(type.getSimpleName());
        }
        return text.toString();
    }

    private static void face() {
        CHECK.same("the class is public and final", DecodeTests.class.getModifiers(), Modifier.PUBLIC | Modifier.FINAL);
        Set<String> seen = new TreeSet<>();
        for (Method method : DecodeTests.class.getDeclaredMethods()) {
            if (!Modifier.isPrivate(method.getModifiers())) {
                CHECK.same(method + " is public alone", method.getModifiers(), Modifier.PUBLIC);
                seen.add(told(method));
            }
        }
        CHECK.same("the methods are the document's: " + seen, seen.equals(new TreeSet<>(Arrays.asList(FACE))), true);
        for (Field field : DecodeTests.class.getDeclaredFields()) {
            boolean none = field.getName().equals("NONE");
            CHECK.same(field + " is private", Modifier.isPrivate(field.getModifiers()), !none);
        }
        CHECK.same("NONE", DecodeTests.NONE, -1);
        Constructor<?>[] made = DecodeTests.class.getDeclaredConstructors();
        CHECK.same("constructors", made.length, 1);
        CHECK.same("the constructor takes an int", made[0].getParameterTypes()[0] == int.class, true);
    }

    private static void insideClasses() {
        Set<String> names = new TreeSet<>();
        for (Method method : DecodeTests.class.getMethods()) {
            if (method.getDeclaringClass() == DecodeTests.class) {
                names.add(method.getName());
            }
        }
        for (Class<?> inside : DecodeTests.class.getDeclaredClasses()) {
            CHECK.same(inside + " is static", Modifier.isStatic(inside.getModifiers()), true);
            CHECK.same(inside + " has few fields", inside.getDeclaredFields().length <= 20, true);
            for (Method method : inside.getDeclaredMethods()) {
                CHECK.same(method + " has a name of its own", names.contains(method.getName()), false);
            }
        }
    }

    /** Goes on beyond 512 calls: the answers are free there, but the machine must not throw there either. */
    private static void anyArguments() throws IllegalAccessException {
        Random random = new Random(7L);
        Method[] methods = Arrays.stream(DecodeTests.class.getDeclaredMethods())
            .filter(m -> Modifier.isPublic(m.getModifiers()))
            .sorted((a, b) -> a.getName().compareTo(b.getName())).toArray(Method[]::new);
        for (int bits = -20; bits <= 20; bits++) {
            DecodeTests x = new DecodeTests(bits);
            for (int call = 0; call < 3000; call++) {
                Method method = methods[random.nextInt(methods.length)];
                Object[] values = new Object[method.getParameterCount()];
                for (int i = 0; i < values.length; i++) {
                    values[i] = random.nextInt(3) == 0 ? EDGES[random.nextInt(EDGES.length)] : random.nextInt(4);
                }
                oneCall(x, method, values);
            }
        }
    }

    private static void oneCall(DecodeTests x, Method method, Object[] values) throws IllegalAccessException {
        String call = method.getName() + Arrays.toString(values);
        try {
            method.invoke(x, values);
            CHECK.same(call, 0, 0);
        } catch (InvocationTargetException e) {
            Class<?> thrown = e.getCause().getClass();
            boolean told = Arrays.asList(method.getExceptionTypes()).contains(thrown);
            CHECK.same(call + " throws only what is told, not " + thrown, told, true);
        }
    }
}
