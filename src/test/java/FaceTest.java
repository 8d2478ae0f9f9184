import java.io.IOException;
import java.lang.management.ManagementFactory;
import java.lang.reflect.Constructor;
import java.lang.reflect.Field;
import java.lang.reflect.Method;
import java.lang.reflect.Modifier;
import java.nio.file.Files;
import java.nio.file.Path;
import java.util.ArrayList;
import java.util.HashSet;
import java.util.List;
import java.util.Set;
import java.util.TreeSet;
import java.util.regex.Matcher;
import java.util.regex.Pattern;

/** The public face, the rules of the language that can be looked up in the source, and the room that calls take. */
public final class FaceTest {
    private static final String[] FACE = {
        "int type(int)", "int clear()", "int world()", "int place(int,int)", "int wagon(int,int)", "int now(int)",
        "int sun(int)", "int minute()", "int stand(int,int)", "int change(int,int)", "int undo()",
        "int behind(int,int,int)", "int caught(int)", "int waits(int)", "int stands(int)", "int starts(int)",
        "int bars()", "int pieces(int,int)", "int met(int,int)", "long odds(int,int,int,int)",
        "int keepAhead(int,int,int,int)", "int mark(int,int)", "int keep(int)", "int back(int)", "int count(int)",
        "long trace()"};

    private static int wrong = 0;

    public static void main(String[] args) throws IOException {
        methods();
        constants();
        innerClasses();
        source(Files.readString(Path.of("src/main/java/WheelTown.java")));
        room();
        System.out.println(wrong == 0 ? "the face and the source are as due" : wrong + " things are not as due");
        if (wrong != 0) {
            System.exit(1);
        }
    }

    private static void due(boolean holds, String what) {
        if (!holds) {
            wrong++;
            System.out.println("not as due: " + what);
        }
    }

    private static String form(Method m) {
        List<String> types = new ArrayList<>();
        for (Class<?> type : m.getParameterTypes()) {
            types.add(type.getName());
        }
        return m.getReturnType().getName() + " " + m.getName() + "(" + String.join(",", types) + ")";
    }

    private static void methods() {
        Set<String> open = new TreeSet<>();
        for (Method m : WheelTown.class.getDeclaredMethods()) {
            if (Modifier.isPrivate(m.getModifiers())) {
                continue;
            }
            open.add(form(m));
            due(Modifier.isPublic(m.getModifiers()) && !Modifier.isStatic(m.getModifiers()), form(m) + " is public");
        }
        due(open.equals(new TreeSet<>(List.of(FACE))), "the methods are " + open);
        Constructor<?>[] made = WheelTown.class.getDeclaredConstructors();
        due(made.length == 1 && made[0].getParameterCount() == 0 && Modifier.isPublic(made[0].getModifiers()),
            "one public constructor");
        due(Modifier.isFinal(WheelTown.class.getModifiers()) && Modifier.isPublic(WheelTown.class.getModifiers()),
            "the class is public and final");
    }

    private static void constants() {
        Set<String> open = new TreeSet<>();
        for (Field f : WheelTown.class.getDeclaredFields()) {
            if (!Modifier.isPrivate(f.getModifiers())) {
                open.add(f.getName());
                due(Modifier.isPublic(f.getModifiers()) && Modifier.isStatic(f.getModifiers())
                    && Modifier.isFinal(f.getModifiers()) && f.getType() == int.class, f.getName() + " is a constant");
            }
        }
        due(open.equals(Set.of("BAD", "STATE", "FULL", "NONE", "NO")), "the constants are " + open);
        due(WheelTown.BAD == -1 && WheelTown.STATE == -2 && WheelTown.FULL == -3 && WheelTown.NONE == -9
            && WheelTown.NO == -1000000, "the constants' numbers");
    }

    private static void innerClasses() {
        Set<String> names = new HashSet<>();
        for (String method : FACE) {
            names.add(method.substring(method.indexOf(' ') + 1, method.indexOf('(')));
        }
        Class<?>[] inner = WheelTown.class.getDeclaredClasses();
        due(inner.length <= 11, "some twelve classes");
        for (Class<?> c : inner) {
            due(Modifier.isStatic(c.getModifiers()) && !Modifier.isPublic(c.getModifiers()), c + " is static and not public");
            for (Method m : c.getDeclaredMethods()) {
                due(!names.contains(m.getName()), c + "." + m.getName() + " bears a name of the face");
                due(m.getParameterCount() <= 7, "seven parameters: " + m);
            }
            int fields = 0;
            for (Field f : c.getDeclaredFields()) {
                fields += Modifier.isStatic(f.getModifiers()) ? 0 : 1;
            }
            due(fields <= 20, "some twenty fields: " + c);
        }
        for (Method m : WheelTown.class.getDeclaredMethods()) {
            due(!Modifier.isPrivate(m.getModifiers()) || !names.contains(m.getName()), m + " bears a name of the face");
        }
    }

    private static void source(String whole) {
        String code = whole.replaceAll("(?s)/\\*.*?\\*/", "").replaceAll("//[^\n]*", "");
        for (String word : List.of("throw", "throws", "try", "catch", "finally", "synchronized", "assert", "import",
            "package", "native", "volatile", "transient", "protected", "Object", "var", "goto", "Exception")) {
            due(!Pattern.compile("\\b" + word + "\\b").matcher(code).find(), "no word " + word);
        }
        due(!code.contains("->") && !code.contains("::") && !code.contains("\""), "no lambda, no text joined");
        Matcher library = Pattern.compile("\\b(Math|System|Integer|Long|Arrays|String)\\.(\\w+)").matcher(code);
        Set<String> allowed = Set.of("Math.max", "Math.min", "System.arraycopy", "Integer.bitCount");
        while (library.find()) {
            due(allowed.contains(library.group()), "library: " + library.group());
        }
        due(!Pattern.compile("\\bwhile\\b").matcher(code.replaceAll("while \\(at < length && at < MOST_BYTES", "")).find(),
            "each loop shows its end");
        int length = 0;
        for (String line : whole.split("\n")) {
            length = line.isBlank() ? 0 : length + 1;
            due(line.length() <= 120, "a line is long: " + line);
            due(length < 60, "a method is long: " + line);
            due(line.chars().allMatch(c -> c >= 32 && c < 127), "only signs 32 to 126: " + line);
        }
    }

    /** What a run of 512 dear calls makes: nothing beyond what the constructor made. */
    private static void room() {
        com.sun.management.ThreadMXBean bean = (com.sun.management.ThreadMXBean) ManagementFactory.getThreadMXBean();
        long id = Thread.currentThread().getId();
        char[] text = "s 2 1;b 3;p 0;w0 0 9 0;w1 0 9 1;w2 0 9 2;w3 0 9 0;w4 0 9 1;h0 1;h1 2;h2 3;".toCharArray();
        long least = Long.MAX_VALUE;
        for (int again = 0; again < 5; again++) {
            WheelTown x = new WheelTown();
            long before = bean.getThreadAllocatedBytes(id);
            long sum = 0;
            for (char c : text) {
                sum += x.type(c);
            }
            sum += x.world();
            for (int i = 0; i < 16; i++) {
                sum += x.minute() + x.stand(4, 1) + x.change(4, 0) + x.starts(-1) + x.bars() + x.stands(0) + x.keep(0)
                    + x.back(0) + x.undo() + x.behind(60, 0, 0) + x.caught(0) + x.waits(0) + x.pieces(0, 60) + x.met(0, 99)
                    + x.odds(4, 5, 12, 0) + x.keepAhead(4, 5, 12, 5) + x.mark(5, 0) + x.trace() + x.clear() + x.world();
            }
            long made = bean.getThreadAllocatedBytes(id) - before;
            due(sum != 0, "the calls were made");
            least = Math.min(least, made);
        }
        due(least < 2000, "calls make no objects, but made bytes: " + least);
    }
}
