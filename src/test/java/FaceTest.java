import java.lang.reflect.Constructor;
import java.lang.reflect.Field;
import java.lang.reflect.Method;
import java.lang.reflect.Modifier;
import java.util.ArrayList;
import java.util.Collections;
import java.util.List;
import java.util.Random;

/** The public face (all promises), and that no call ever throws, whatever its arguments are. */
public final class FaceTest {
    private static final Due DUE = new Due("FaceTest");

    /** The face of the document: each method with its parameters (i int, l long). */
    private static final String[] FACE = {
        "stroke iii", "ofStroke ii", "change iii", "become ii", "as ii", "over iii", "ofLook ii", "see ii", "forget ",
        "feed li", "text i", "law iiiii", "orders ", "sure ii", "wrong i", "best i", "span ii", "test ii", "next i",
        "join ii", "joinings i", "times i", "lamp ii", "hand i", "again ", "seed i", "voice iii", "trace i",
        "sheet iii", "put iii", "move iiiii", "looks i", "judge i", "image ", "restore ", "tell i", "check ",
        "count i", "told i"};

    private static final int[] EDGES = {
        Integer.MIN_VALUE, Integer.MIN_VALUE + 1, -1000000001, -65536, -2, -1, 0, 1, 2, 3, 4, 5, 6, 7, 8, 9, 12, 16,
        31, 32, 35, 36, 40, 41, 69, 70, 99, 100, 9999, 10000, 65535, Integer.MAX_VALUE - 1, Integer.MAX_VALUE};

    public static void main(String[] args) throws Exception {
        face();
        members();
        neverThrows();
        DUE.end();
    }

    private static String told(Method method) {
        StringBuilder s = new StringBuilder(method.getName()).append(' ');
        for (Class<?> type : method.getParameterTypes()) {
            s.append(type == int.class ? 'i' : type == long.class ? 'l' : '?');
        }
        return s.toString();
    }

    private static void face() {
        DUE.that("the class is public and final",
                Modifier.isPublic(HandOverHorse.class.getModifiers()) && Modifier.isFinal(HandOverHorse.class.getModifiers()));
        List<String> found = new ArrayList<>();
        for (Method method : HandOverHorse.class.getDeclaredMethods()) {
            if (!Modifier.isPrivate(method.getModifiers())) {
                found.add(told(method));
                DUE.that(method + " is public and answers an int", Modifier.isPublic(method.getModifiers())
                        && method.getReturnType() == int.class && !Modifier.isStatic(method.getModifiers()));
            }
        }
        List<String> face = new ArrayList<>(List.of(FACE));
        Collections.sort(face);
        Collections.sort(found);
        DUE.that("the face is " + face + ", found " + found, face.equals(found));
        Constructor<?>[] made = HandOverHorse.class.getDeclaredConstructors();
        DUE.that("one public constructor without parameters",
                made.length == 1 && Modifier.isPublic(made[0].getModifiers()) && made[0].getParameterCount() == 0);
    }

    private static void members() {
        for (Field field : HandOverHorse.class.getDeclaredFields()) {
            DUE.that(field + " is private", Modifier.isPrivate(field.getModifiers()));
        }
        List<String> names = new ArrayList<>();
        for (String method : FACE) {
            names.add(method.substring(0, method.indexOf(' ')));
        }
        for (Method method : HandOverHorse.class.getDeclaredMethods()) {
            if (Modifier.isPrivate(method.getModifiers())) {
                DUE.that(method + " bears no public name", !names.contains(method.getName()));
            }
        }
        Class<?>[] inside = HandOverHorse.class.getDeclaredClasses();
        DUE.that("some twelve classes", inside.length <= 12);
        for (Class<?> one : inside) {
            DUE.that(one + " is static", Modifier.isStatic(one.getModifiers()));
            DUE.that(one + " is not public", !Modifier.isPublic(one.getModifiers()));
            for (Field field : one.getDeclaredFields()) {
                DUE.that(field + ": what is static is final",
                        !Modifier.isStatic(field.getModifiers()) || Modifier.isFinal(field.getModifiers()));
            }
        }
    }

    private static void neverThrows() throws Exception {
        Random draws = new Random(11);
        List<Method> methods = new ArrayList<>();
        for (Method method : HandOverHorse.class.getDeclaredMethods()) {
            if (Modifier.isPublic(method.getModifiers())) {
                methods.add(method);
            }
        }
        methods.sort((a, b) -> a.getName().compareTo(b.getName()));
        for (int run = 0; run < 400; run++) {
            HandOverHorse x = new HandOverHorse();
            for (int i = draws.nextInt(10); i > 0; i--) {
                x.stroke(draws.nextInt(70), draws.nextInt(36), draws.nextInt(100));
            }
            for (int i = 0; i < 500; i++) {
                Method method = methods.get(draws.nextInt(methods.size()));
                Object[] with = new Object[method.getParameterCount()];
                for (int k = 0; k < with.length; k++) {
                    boolean isLong = method.getParameterTypes()[k] == long.class;
                    int v = draws.nextBoolean() ? EDGES[draws.nextInt(EDGES.length)] : draws.nextInt(9);
                    with[k] = isLong ? (Object) Long.valueOf(draws.nextLong()) : Integer.valueOf(v);
                }
                try {
                    method.invoke(x, with);
                } catch (java.lang.reflect.InvocationTargetException thrown) {
                    DUE.that(method + " with " + List.of(with) + " threw " + thrown.getCause(), false);
                }
            }
        }
    }
}
