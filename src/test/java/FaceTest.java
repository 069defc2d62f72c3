import java.io.IOException;
import java.lang.reflect.Constructor;
import java.lang.reflect.Field;
import java.lang.reflect.Method;
import java.lang.reflect.Modifier;
import java.nio.file.Files;
import java.nio.file.Path;
import java.util.TreeSet;
import java.util.regex.Matcher;
import java.util.regex.Pattern;

/** "What it is" and "The public face": the class has each line of the face and no other, and does 512 calls. */
public final class FaceTest {
    private static final Check CHECK = new Check();

    private static String types(Class<?>[] types) {
        StringBuilder all = new StringBuilder();
        for (Class<?> type : types) {
            all.append(all.length() == 0 ? "" : ", ").append(type.getName());
        }
        return "(" + all + ")";
    }

    /** The face as the document tells it: each line without the names of what is handed over. */
    private static TreeSet<String> told(String document) {
        TreeSet<String> lines = new TreeSet<>();
        Matcher block = Pattern.compile("(?s)```java\n(.*?)```").matcher(document);
        CHECK.same("the face was found", block.find(), true);
        for (String line : block.group(1).split("\n")) {
            if (line.startsWith("    public")) {
                lines.add(line.trim().replace(";", "").replaceAll("(int|boolean) \\w+(?=[,)])", "$1"));
            }
        }
        return lines;
    }

    private static TreeSet<String> built() throws IllegalAccessException {
        TreeSet<String> lines = new TreeSet<>();
        for (Method method : GroundCourt.class.getDeclaredMethods()) {
            if (!Modifier.isPrivate(method.getModifiers())) {
                lines.add(Modifier.toString(method.getModifiers()) + " " + method.getReturnType().getName() + " "
                        + method.getName() + types(method.getParameterTypes()));
            }
        }
        for (Constructor<?> constructor : GroundCourt.class.getDeclaredConstructors()) {
            lines.add(Modifier.toString(constructor.getModifiers()) + " " + constructor.getName()
                    + types(constructor.getParameterTypes()));
        }
        for (Field field : GroundCourt.class.getDeclaredFields()) {
            if (!Modifier.isPrivate(field.getModifiers())) {
                lines.add(Modifier.toString(field.getModifiers()) + " " + field.getType().getName() + " "
                        + field.getName() + " = " + field.getInt(null));
            }
        }
        return lines;
    }

    private static void face() throws IOException, IllegalAccessException {
        TreeSet<String> told = told(Files.readString(Path.of("../shared/DOC.md")));
        TreeSet<String> built = built();
        CHECK.same("lines of the face", told.size(), 34);
        for (String line : told) {
            CHECK.same("in the class: " + line, built.contains(line), true);
        }
        for (String line : built) {
            CHECK.same("in the face: " + line, told.contains(line), true);
        }
        CHECK.same("the class", Modifier.toString(GroundCourt.class.getModifiers()), "public final");
        CHECK.same("its package", GroundCourt.class.getPackageName(), "");
        CHECK.same("no kin", GroundCourt.class.getSuperclass() == Object.class, true);
        CHECK.same("no interface", GroundCourt.class.getInterfaces().length, 0);
    }

    /** The 512th call answers as the first one did. */
    private static void manyCalls() {
        CHECK.about("An object is used for at most 512 calls after it has been made");
        GroundCourt court = Check.told("ground a 5 2;claim k 1=a*a;");
        int before = 4;
        for (int call = before; call < 512; call++) {
            CHECK.same("can(0) as call " + call, court.can(0), 2);
        }
        for (int call = 0; call < 512; call++) {
            GroundCourt fresh = new GroundCourt();
            CHECK.same("objects are apart", fresh.count(0), 0);
        }
        GroundCourt tape = new GroundCourt();
        for (int call = 0; call < 256; call++) {
            CHECK.same("feed " + call, tape.feed(call, 0, 0, 0, 0), call < 100 ? 20 * call + 20 : -1);
        }
        for (int call = 256; call < 512; call++) {
            CHECK.same("read " + call, tape.read(), call == 256 ? 1 : 0);
        }
    }

    /** An object knows nothing of another one. */
    private static void apart() {
        GroundCourt one = Check.told("ground a 5 2;claim k 1=a*a;");
        GroundCourt other = Check.told("ground a 7 1;oath o a gives nothing;claim k 1=nothing;");
        one.sit(0);
        one.hold(0);
        one.put(0, 3);
        CHECK.same("the other's STOCK", other.count(5), 1);
        CHECK.same("the other's SITTING", other.count(10), 0);
        CHECK.same("the other's SLOTS", other.restore(0), false);
        CHECK.same("the other's DEPTH", other.can(0), 2);
        CHECK.same("the one's DEPTH", one.can(0), -2);
        CHECK.same("the one's PRICE", one.price(0), 5);
    }

    public static void main(String[] args) throws IOException, IllegalAccessException {
        face();
        manyCalls();
        apart();
        CHECK.finish("FaceTest");
    }
}
