import java.io.IOException;
import java.lang.reflect.Constructor;
import java.lang.reflect.Field;
import java.lang.reflect.Method;
import java.lang.reflect.Modifier;
import java.nio.file.Files;
import java.nio.file.Path;
import java.util.ArrayList;
import java.util.List;
import java.util.TreeSet;
import java.util.regex.Matcher;
import java.util.regex.Pattern;

/** Those rules of ../shared/LANGUAGE.md that can be seen from the source's words and from the class. */
public final class LanguageTest {
    private static final Check CHECK = new Check();

    private static final String[] FACE = {"feed", "back", "read", "judge", "place", "passed", "price", "stock", "put",
        "oath", "bargain", "pointOf", "point", "depth", "can", "stocks", "steps", "step", "moves", "move", "lack", "spare",
        "together", "part", "needed", "sit", "now", "go", "lots", "hold", "restore", "count"};

    private static String withoutComments(String source) {
        return source.replaceAll("(?s)/\\*.*?\\*/", "").replaceAll("//[^\n]*", "").replaceAll("\"[^\"\n]*\"", "\"\"");
    }

    private static void words(String code) {
        String[] forbidden = {"throw", "throws", "try", "catch", "synchronized", "assert", "protected", "native",
            "volatile", "float", "double", "Exception", "Random", "Thread", "hashCode", "toString", "Exact"};
        for (String word : forbidden) {
            CHECK.same("the word " + word, Pattern.compile("\\b\\w*" + word + "\\b").matcher(code).find(), false);
        }
        CHECK.same("lambdas, new switches", code.contains("->"), false);
        CHECK.same("method references", code.contains("::"), false);
        CHECK.same("packages", Pattern.compile("(?m)^package\\b").matcher(code).find(), false);
        CHECK.same("initialiser blocks", Pattern.compile("static\\s*\\{").matcher(code).find(), false);
        Matcher imports = Pattern.compile("import\\s+([\\w.]+)").matcher(code);
        while (imports.find()) {
            CHECK.same("import of " + imports.group(1), imports.group(1).equals("java.util.Arrays"), true);
        }
    }

    private static void calledAlone(String code) {
        Matcher calls = Pattern.compile("\\b(Integer|Long|Math|Arrays|System|String)\\.(\\w+)").matcher(code);
        List<String> free = List.of("Integer.bitCount", "Math.max", "Math.min", "Arrays.fill", "System.arraycopy");
        while (calls.find()) {
            CHECK.same(calls.group(), free.contains(calls.group()), true);
        }
    }

    /** Rule 9: the end of each loop is seen from its own lines, a counter that goes by a fixed number. */
    private static void loops(String code) {
        Matcher loops = Pattern.compile("\\bfor \\((.*)\\) \\{").matcher(code);
        int found = 0;
        while (loops.find()) {
            String update = loops.group(1).replaceAll(".*; ", "");
            CHECK.same("loop by a counter: " + loops.group(), update.matches("\\w+(\\+\\+|--| [-+]= \\d+)"), true);
            found++;
        }
        CHECK.same("loops were found", found > 30, true);
    }

    private static void face() {
        TreeSet<String> names = new TreeSet<>();
        for (Method method : GroundCourt.class.getDeclaredMethods()) {
            if (Modifier.isPublic(method.getModifiers())) {
                names.add(method.getName());
            } else {
                CHECK.same(method + " is private", Modifier.isPrivate(method.getModifiers()), true);
                CHECK.same(method + " has a name of its own", List.of(FACE).contains(method.getName()), false);
            }
            CHECK.same(method + " has few parameters", method.getParameterCount() <= 7, true);
        }
        CHECK.same("the public methods", names.equals(new TreeSet<>(List.of(FACE))), true);
        for (Field field : GroundCourt.class.getDeclaredFields()) {
            boolean isPrivate = Modifier.isPrivate(field.getModifiers());
            CHECK.same(field + " is private", isPrivate || field.getName().equals("NONE"), true);
        }
        Constructor<?>[] constructors = GroundCourt.class.getDeclaredConstructors();
        CHECK.same("one constructor", constructors.length, 1);
        CHECK.same("final", Modifier.isFinal(GroundCourt.class.getModifiers()), true);
    }

    private static void inside() {
        Class<?>[] classes = GroundCourt.class.getDeclaredClasses();
        CHECK.same("few classes", classes.length <= 12, true);
        for (Class<?> inside : classes) {
            CHECK.same(inside + " is static", Modifier.isStatic(inside.getModifiers()), true);
            int fields = 0;
            for (Field field : inside.getDeclaredFields()) {
                boolean isStatic = Modifier.isStatic(field.getModifiers());
                fields += isStatic ? 0 : 1;
                CHECK.same(field + " is no static state", !isStatic || Modifier.isFinal(field.getModifiers()), true);
            }
            CHECK.same(inside + " has few fields", fields <= 21, true);
            for (Method method : inside.getDeclaredMethods()) {
                CHECK.same(method + " has a name of its own", List.of(FACE).contains(method.getName()), false);
                CHECK.same(method + " has few parameters", method.getParameterCount() <= 7, true);
            }
        }
    }

    private static void shortMethods(String source) {
        String[] lines = source.split("\n");
        List<Integer> starts = new ArrayList<>();
        for (int i = 0; i < lines.length; i++) {
            if (lines[i].matches(" {4,8}(public|private|[a-z]\\w*(\\[\\])*) .*\\(.*\\) \\{")) {
                starts.add(i);
            }
        }
        for (int start : starts) {
            int end = start;
            String close = lines[start].replaceAll("\\S.*", "") + "}";
            while (!lines[end].equals(close)) {
                end++;
            }
            CHECK.same("short: " + lines[start].trim(), end - start <= 60, true);
        }
        CHECK.same("methods were found", starts.size() > 100, true);
    }

    public static void main(String[] args) throws IOException {
        String source = Files.readString(Path.of("src/main/java/GroundCourt.java"));
        for (int i = 0; i < source.length(); i++) {
            if (source.charAt(i) > 126) {
                CHECK.same("sign " + i, source.charAt(i), 126);
            }
        }
        String code = withoutComments(source);
        words(code);
        calledAlone(code);
        loops(code);
        face();
        inside();
        shortMethods(source);
        CHECK.finish("LanguageTest");
    }
}
