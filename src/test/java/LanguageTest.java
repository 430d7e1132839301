import java.io.IOException;
import java.nio.file.Files;
import java.nio.file.Path;
import java.util.List;
import java.util.TreeSet;
import java.util.regex.Matcher;
import java.util.regex.Pattern;

/** Rules of LANGUAGE.md that can be read off the source: a guard against slips, no proof. */
public final class LanguageTest {
    private static final String[] FORBIDDEN = {"->", "::", "\\bsynchronized\\b", "\\bassert\\b", "\\bfinally\\b",
        "\\btry\\b", "\\bcatch\\b", "\\bprotected\\b", "\\bThread\\b", "\\bRandom\\b", "\\bSystem\\.(?!arraycopy)",
        "Exact\\(", "\\bstatic\\s*\\{", "\\bMath\\.(?!min|max|abs|floorDiv|floorMod)", "\\bString\\.", "\\bpackage\\b",
        "\\[\\]\\[\\]\\[\\]", "Arrays\\.(?!fill|copyOf)"};

    public static void main(String[] args) throws IOException {
        Path source = Path.of(args.length > 0 ? args[0] : ".", "src/main/java/PlanarFlow.java");
        List<String> lines = Files.readAllLines(source);
        String code = withoutComments(String.join("\n", lines));
        for (String forbidden : FORBIDDEN) {
            Check.due("places with " + forbidden, places(code, forbidden), 0);
        }
        TreeSet<String> imports = new TreeSet<>();
        Matcher matcher = Pattern.compile("import ([^;]*);").matcher(code);
        while (matcher.find()) {
            imports.add(matcher.group(1));
        }
        Check.due("the imports " + imports,
                List.of("java.util.Arrays", "java.util.NoSuchElementException").containsAll(imports), true);
        Check.due("classes are at most twelve", places(code, "\\bclass \\w+") <= 12, true);
        Check.due("loops whose bound is not in their own lines",
                places(code, "\\bwhile \\((?![^{]* < )|\\bfor \\([^;:)]*;[^;<>]*;"), 0);
        methodNames(code);
        methodLengths(lines);
        Check.end("LanguageTest");
    }

    private static String withoutComments(String code) {
        return code.replaceAll("(?s)/\\*.*?\\*/", "").replaceAll("//[^\n]*", "");
    }

    private static int places(String code, String pattern) {
        return (int) Pattern.compile(pattern).matcher(code).results().count();
    }

    /** No method that is not public bears the name of a public one; none has more than seven parameters. */
    private static void methodNames(String code) {
        TreeSet<String> open = new TreeSet<>();
        TreeSet<String> hidden = new TreeSet<>();
        Matcher matcher = Pattern.compile("\n +(public |private |)(static |)[\\w\\[\\]]+ (\\w+)\\(([^)]*)\\)[^;{}]*\\{")
                .matcher(code);
        while (matcher.find()) {
            if (!matcher.group(0).contains("else") && !matcher.group(0).contains(" new ")) {
                (matcher.group(1).equals("public ") ? open : hidden).add(matcher.group(3));
                int parameters = matcher.group(4).isEmpty() ? 0 : matcher.group(4).split(",").length;
                Check.due(matcher.group(3) + " has at most seven parameters", parameters <= 7, true);
            }
        }
        Check.due("public methods", open.size(), 30);
        open.retainAll(hidden);
        Check.due("names both public and not: " + open, open.size(), 0);
    }

    private static void methodLengths(List<String> lines) {
        int start = -1;
        for (int i = 0; i < lines.size(); i++) {
            if (lines.get(i).matches(" {4,8}[\\w].*\\) (throws \\w+ )?\\{") && !lines.get(i).contains(" class ")) {
                start = i;
            }
            if (start >= 0 && lines.get(i).matches(" {4,8}\\}")) {
                Check.due("the method at line " + (start + 1) + " is short", i - start + 1 <= 60, true);
                start = -1;
            }
        }
    }
}
