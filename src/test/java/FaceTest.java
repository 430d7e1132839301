import java.lang.reflect.Constructor;
import java.lang.reflect.Field;
import java.lang.reflect.Method;
import java.lang.reflect.Modifier;
import java.util.Arrays;
import java.util.NoSuchElementException;
import java.util.TreeSet;

/** The public face: all that the document gives, and nothing else that could be seen from outside. */
public final class FaceTest {
    private static final String[] INTS = {"feed 5", "text 1", "grid 2", "slant 2", "edge 2", "around 1", "distance 2",
        "route 3", "circulates 0", "potential 1", "ring 1", "flow 2", "on 1", "left 2", "ways 1", "excess 1", "cut 2",
        "rings 1", "shared 2", "gather 3", "supply 2", "meet 0", "gave 1", "were 4", "counts 3", "worst 2", "count 1"};
    private static final String[] BOOLEANS = {"bears 3", "image 1", "back 1"};
    private static final String[] THROWING = {"around", "distance", "potential", "on", "left", "excess"};

    public static void main(String[] args) {
        methods();
        Check.due("the class is public and final", PlanarFlow.class.getModifiers(), Modifier.PUBLIC | Modifier.FINAL);
        Constructor<?>[] made = PlanarFlow.class.getDeclaredConstructors();
        Check.due("constructors", made.length, 1);
        Check.due("its parameters", made[0].getParameterCount(), 0);
        Check.due("it is public", Modifier.isPublic(made[0].getModifiers()), true);
        for (Field field : PlanarFlow.class.getDeclaredFields()) {
            boolean named = field.getName().equals("NONE");
            int want = named ? Modifier.PUBLIC | Modifier.STATIC | Modifier.FINAL : Modifier.PRIVATE;
            int got = named ? field.getModifiers() : field.getModifiers() & ~(Modifier.STATIC | Modifier.FINAL);
            Check.due("field " + field.getName(), got, want);
        }
        Check.end("FaceTest");
    }

    private static void methods() {
        TreeSet<String> want = new TreeSet<>();
        for (String name : INTS) {
            want.add("int " + name);
        }
        for (String name : BOOLEANS) {
            want.add("boolean " + name);
        }
        TreeSet<String> got = new TreeSet<>();
        for (Method method : PlanarFlow.class.getDeclaredMethods()) {
            if (Modifier.isPrivate(method.getModifiers()) || method.isSynthetic()) {
                continue;
            }
            got.add(method.getReturnType() + " " + method.getName() + " " + method.getParameterCount());
            for (Class<?> type : method.getParameterTypes()) {
                Check.due("a parameter of " + method.getName() + " is an int", type == int.class, true);
            }
            Check.due(method.getName() + " is public alone", method.getModifiers(), Modifier.PUBLIC);
            boolean declares = Arrays.asList(method.getExceptionTypes()).contains(NoSuchElementException.class);
            boolean due = Arrays.asList(THROWING).contains(method.getName());
            Check.due(method.getName() + " declares its exception", declares, due);
        }
        Check.due("the methods " + got + " are " + want, got.equals(want), true);
    }
}
