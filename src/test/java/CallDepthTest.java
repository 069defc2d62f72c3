import java.io.IOException;
import java.io.PrintWriter;
import java.io.StringWriter;
import java.net.URISyntaxException;
import java.nio.file.Files;
import java.nio.file.Path;
import java.util.ArrayList;
import java.util.HashMap;
import java.util.HashSet;
import java.util.List;
import java.util.Map;
import java.util.Set;
import java.util.TreeSet;
import java.util.regex.Matcher;
import java.util.regex.Pattern;
import java.util.spi.ToolProvider;
import java.util.stream.Stream;

/**
 * Rules 8 and 11 of ../shared/LANGUAGE.md, seen from the classes: only the reader of CLAIMS calls itself,
 * all other calls go at most eight deep (those of the library too). And rule 12: where objects are made.
 */
public final class CallDepthTest {
    private static final Check CHECK = new Check();
    private static final int DEEPEST = 8;

    private static final Pattern CLASS = Pattern.compile(".*class ([\\w$]+).*\\{");
    private static final Pattern METHOD = Pattern.compile("  (?:\\w.* )?([\\w$]+)\\(.*\\);");
    private static final Pattern CALL = Pattern.compile(".*// Method (?:([\\w/$]+)\\.)?\"?([\\w<>]+)\"?:.*");

    private final Map<String, Set<String>> calls = new HashMap<>();

    private static String disassembled() throws IOException, URISyntaxException {
        Path classes = Path.of(GroundCourt.class.getProtectionDomain().getCodeSource().getLocation().toURI());
        List<String> args = new ArrayList<>(List.of("-p", "-c"));
        try (Stream<Path> all = Files.list(classes)) {
            all.map(Path::toString).filter(p -> p.matches(".*GroundCourt(\\$\\w+)?\\.class")).forEach(args::add);
        }
        ToolProvider javap = ToolProvider.findFirst("javap").orElse(null);
        if (javap == null) {
            return "";
        }
        StringWriter text = new StringWriter();
        javap.run(new PrintWriter(text), new PrintWriter(text), args.toArray(new String[0]));
        return text.toString();
    }

    private void gather(String text) {
        String className = "";
        String method = "";
        for (String line : text.split("\\R")) {
            Matcher isClass = CLASS.matcher(line);
            Matcher isMethod = METHOD.matcher(line);
            Matcher isCall = CALL.matcher(line);
            if (isClass.matches()) {
                className = isClass.group(1);
            } else if (isMethod.matches()) {
                String name = isMethod.group(1);
                method = className + "." + (name.equals(className) ? "<init>" : name);
                calls.computeIfAbsent(method, any -> new TreeSet<>());
            } else if (isCall.matches()) {
                String of = isCall.group(1) == null ? className : isCall.group(1);
                calls.get(method).add(of + "." + isCall.group(2));
            }
        }
    }

    private boolean reaches(String from, String to) {
        Set<String> seen = new HashSet<>();
        List<String> open = new ArrayList<>(calls.getOrDefault(from, Set.of()));
        for (int i = 0; i < open.size(); i++) {
            if (open.get(i).equals(to)) {
                return true;
            }
            if (seen.add(open.get(i))) {
                open.addAll(calls.getOrDefault(open.get(i), Set.of()));
            }
        }
        return false;
    }

    /** How deep calls go; one that comes back to itself is recursion and counts for nothing. */
    private int depthOf(String method, Set<String> recursive) {
        int deepest = 0;
        for (String called : calls.getOrDefault(method, Set.of())) {
            if (!recursive.contains(called)) {
                deepest = Math.max(deepest, depthOf(called, recursive));
            }
        }
        return 1 + deepest;
    }

    private void depths() {
        CHECK.same("methods were found", calls.size() > 100, true);
        Set<String> recursive = new TreeSet<>();
        for (String method : calls.keySet()) {
            if (reaches(method, method)) {
                recursive.add(method);
            }
        }
        String reader = "GroundCourt$LawReader.";
        Set<String> due = Set.of(reader + "joined", reader + "unit", reader + "bracketed", reader + "given", reader + "ever");
        CHECK.same("recursion: " + recursive, recursive.equals(due), true);
        for (String method : calls.keySet()) {
            CHECK.same("calls below " + method, depthOf(method, recursive) <= DEEPEST, true);
        }
    }

    /** Each method that makes an object or an array is named here, so that none comes unseen. */
    private static void makers(String text) {
        Set<String> makers = new TreeSet<>();
        String className = "";
        String method = "";
        for (String line : text.split("\\R")) {
            Matcher isClass = CLASS.matcher(line);
            Matcher isMethod = METHOD.matcher(line);
            if (isClass.matches()) {
                className = isClass.group(1);
            } else if (isMethod.matches()) {
                method = isMethod.group(1);
            } else if (line.matches(".*: (new|newarray|anewarray|multianewarray)\\b.*") && !method.equals(className)) {
                makers.add(className + "." + method);
            }
        }
        Set<String> due = Set.of("GroundCourt$Depths.fillRow", "GroundCourt$Parting.settle");
        CHECK.same("makers: " + makers, makers.equals(due), true);
    }

    public static void main(String[] args) throws IOException, URISyntaxException {
        String text = disassembled();
        if (text.isEmpty()) {
            System.out.println("CallDepthTest: there is no javap here");
            return;
        }
        CallDepthTest test = new CallDepthTest();
        test.gather(text);
        test.depths();
        makers(text);
        CHECK.finish("CallDepthTest");
    }
}
