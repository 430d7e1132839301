import java.io.IOException;
import java.lang.reflect.InvocationTargetException;
import java.lang.reflect.Method;
import java.lang.reflect.Modifier;
import java.nio.file.Files;
import java.nio.file.Path;
import java.util.Arrays;
import java.util.NoSuchElementException;
import java.util.TreeSet;
import java.util.regex.Matcher;
import java.util.regex.Pattern;

/** Every call that README.md shows answers what stands behind it there, and it shows every call of the face. */
public final class ReadmeTest {
    private static final Pattern ROW =
            Pattern.compile("x\\.(\\w+)\\(([^)]*)\\);\\s*// (-?\\d+|true|false|NoSuchElementException)\\b.*");

    private final TreeSet<String> shown = new TreeSet<>();
    private PlanarFlow x;

    public static void main(String[] args) throws IOException {
        Path readme = Path.of(args.length > 0 ? args[0] : ".", "README.md");
        new ReadmeTest().follow(Files.readString(readme));
        Check.end("ReadmeTest");
    }

    private void follow(String page) {
        boolean inCode = false;
        for (String line : page.split("\n")) {
            if (line.startsWith("```")) {
                inCode = line.equals("```java");
            } else if (inCode && line.startsWith("PlanarFlow x = new PlanarFlow();")) {
                x = new PlanarFlow();
            } else if (inCode && !line.isBlank()) {
                row(line);
            }
        }
        Check.due("the calls shown " + shown, shown.equals(face()), true);
    }

    private void row(String line) {
        Matcher matcher = ROW.matcher(line);
        boolean reads = matcher.matches();
        Check.due("a call and its answer: " + line, reads, true);
        if (reads) {
            shown.add(matcher.group(1));
            String got = answer(matcher.group(1), matcher.group(2));
            Check.due(line + " answered " + got + ";", got.equals(matcher.group(3)), true);
        }
    }

    private String answer(String name, String list) {
        Object[] numbers = Arrays.stream(list.split(",")).map(String::trim).filter(s -> !s.isEmpty())
                .map(Integer::decode).toArray();
        try {
            for (Method method : PlanarFlow.class.getMethods()) {
                if (method.getName().equals(name) && method.getParameterCount() == numbers.length) {
                    return String.valueOf(method.invoke(x, numbers));
                }
            }
        } catch (InvocationTargetException thrown) {
            boolean due = thrown.getCause() instanceof NoSuchElementException;
            return due ? "NoSuchElementException" : "" + thrown.getCause();
        } catch (IllegalAccessException hidden) {
            return "hidden";
        }
        return "no such call";
    }

    private static TreeSet<String> face() {
        TreeSet<String> names = new TreeSet<>();
        for (Method method : PlanarFlow.class.getDeclaredMethods()) {
            if (Modifier.isPublic(method.getModifiers())) {
                names.add(method.getName());
            }
        }
        return names;
    }
}
