import java.lang.management.ManagementFactory;
import java.lang.reflect.Constructor;
import java.lang.reflect.Field;
import java.lang.reflect.Member;
import java.lang.reflect.Method;
import java.lang.reflect.Modifier;
import java.nio.file.Files;
import java.nio.file.Path;
import java.util.ArrayList;
import java.util.Arrays;
import java.util.List;
import java.util.TreeSet;
import java.util.stream.Collectors;

/** The public face, the rules of the language that can be read off the file, and the room of the calls. */
public final class FaceTest {
    private static final String INDEX = "IndexOutOfBoundsException";
    private static final String ARGUMENT = "IllegalArgumentException";
    private static final String STATE = "IllegalStateException";
    private static final String[] FACE = {
        "int begin(int) " + ARGUMENT,
        "int addArrow(int,int) " + INDEX + " " + ARGUMENT + " " + STATE,
        "int dropArrow() " + STATE,
        "int addCell(int,int) " + INDEX + " " + ARGUMENT + " " + STATE,
        "int dropCell(int) " + INDEX,
        "int append(int) " + ARGUMENT + " " + STATE,
        "int clearInput()",
        "int firstError()",
        "int load() " + ARGUMENT + " " + STATE,
        "int find()",
        "int path(int,int) " + INDEX + " " + ARGUMENT,
        "int arrowOf(int,int) " + INDEX,
        "int between(int,int,boolean) " + INDEX,
        "int distance(int,int) " + INDEX,
        "int proof(int,int,int,int) " + INDEX + " " + ARGUMENT + " " + STATE,
        "int cell(int,int) " + INDEX + " " + ARGUMENT,
        "int count(int) " + ARGUMENT,
        "double commuting()",
        "int setSize(int,int) " + INDEX + " " + ARGUMENT,
        "int setFunction(int,int) " + INDEX + " " + ARGUMENT,
        "int apply(int,int) " + INDEX + " " + ARGUMENT,
        "int imageShare(int) " + INDEX,
        "int separate(int,int) " + INDEX + " " + ARGUMENT + " " + STATE,
        "boolean isProduct(int,int) " + INDEX + " " + ARGUMENT,
        "boolean isPullback(int,int,int,int) " + INDEX + " " + ARGUMENT,
        "boolean isEqualizer(int,int,int) " + INDEX + " " + ARGUMENT,
        "long digest()",
    };
    private static final String[] FORBIDDEN = {
        "import ", "package ", "->", "::", "try", "catch", "finally", "synchronized", "assert", "static {",
        "System.exit", "System.out", "Float.", "Double.", "Exact(", ".equals(", "hashCode", "toString", "@"
    };

    private final Checks checks = new Checks();

    public static void main(String[] args) throws Exception {
        FaceTest test = new FaceTest();
        test.methods();
        test.otherMembers();
        test.source();
        test.room();
        test.checks.finish();
    }

    private void methods() {
        TreeSet<String> found = new TreeSet<>();
        TreeSet<String> hidden = new TreeSet<>();
        for (Method method : ArrowDiagrams.class.getDeclaredMethods()) {
            if (Modifier.isPublic(method.getModifiers())) {
                found.add(signature(method));
            } else {
                hidden.add(method.getName());
                checks.due(method + " is private", Modifier.isPrivate(method.getModifiers()), true);
            }
        }
        checks.due("the public methods", found, new TreeSet<>(Arrays.asList(FACE)));
        for (Class<?> inside : ArrowDiagrams.class.getDeclaredClasses()) {
            for (Method method : inside.getDeclaredMethods()) {
                hidden.add(method.getName());
            }
        }
        for (String line : FACE) {
            String name = line.substring(line.indexOf(' ') + 1, line.indexOf('('));
            checks.due("another method with the name " + name, hidden.contains(name), false);
        }
    }

    private static String signature(Method method) {
        String types = Arrays.stream(method.getParameterTypes()).map(Class::getName).collect(Collectors.joining(","));
        String thrown = Arrays.stream(method.getExceptionTypes()).map(e -> " " + e.getSimpleName())
                .collect(Collectors.joining());
        return method.getReturnType().getName() + " " + method.getName() + "(" + types + ")" + thrown;
    }

    private void otherMembers() {
        int modifiers = ArrowDiagrams.class.getModifiers();
        checks.due("the class is public and final", Modifier.isPublic(modifiers) && Modifier.isFinal(modifiers), true);
        List<Member> seen = new ArrayList<>();
        for (Field field : ArrowDiagrams.class.getDeclaredFields()) {
            checks.due(field + " is final", Modifier.isFinal(field.getModifiers()), true);
            if (!Modifier.isPrivate(field.getModifiers())) {
                seen.add(field);
            }
        }
        checks.due("the visible fields", seen.toString(), "[public static final int ArrowDiagrams.NONE]");
        Constructor<?>[] constructors = ArrowDiagrams.class.getDeclaredConstructors();
        checks.due("the constructors", Arrays.toString(constructors), "[public ArrowDiagrams()]");
        Class<?>[] inside = ArrowDiagrams.class.getDeclaredClasses();
        checks.due("at most twelve classes", inside.length < 12, true);
        for (Class<?> c : inside) {
            int of = c.getModifiers();
            checks.due(c + " is static and private", Modifier.isStatic(of) && Modifier.isPrivate(of), true);
            for (Field field : c.getDeclaredFields()) {
                boolean state = !Modifier.isStatic(field.getModifiers());
                checks.due(field + " is no static state", state || Modifier.isFinal(field.getModifiers()), true);
            }
        }
    }

    private void source() throws Exception {
        String text = Files.readString(Path.of("src/main/java/ArrowDiagrams.java"));
        String code = text.replaceAll("(?s)/\\*.*?\\*/", "").replaceAll("//[^\n]*", "").replaceAll("\"[^\"]*\"", "\"\"");
        for (String word : FORBIDDEN) {
            checks.due("the file holds '" + word + "'", code.contains(word), false);
        }
        checks.due("the signs of the file are 10, or 32 to 126", text.matches("[\n -~]*"), true);
        int length = 0;
        for (String line : code.split("\n")) {
            boolean begins = line.endsWith(" {") && !line.matches(" +(if|for|while|switch|do|\\}).*");
            length = begins ? 0 : length + 1;
            checks.due("a method of more than 60 lines: " + line, line.matches(" +\\}") && length > 60, false);
        }
    }

    /** Some 600,000 objects and 7.3 million elements serve all calls, so the calls make none. */
    private void room() {
        com.sun.management.ThreadMXBean threads = (com.sun.management.ThreadMXBean) ManagementFactory.getThreadMXBean();
        long thread = Thread.currentThread().getId();
        ArrowDiagrams[] made = new ArrowDiagrams[20];
        long before = threads.getThreadAllocatedBytes(thread);
        for (int i = 0; i < made.length; i++) {
            made[i] = new ArrowDiagrams();
        }
        long each = (threads.getThreadAllocatedBytes(thread) - before) / made.length;
        checks.due("a new object takes less than 100,000 bytes: " + each, each < 100_000, true);
        useAll(made[0]);
        before = threads.getThreadAllocatedBytes(thread);
        for (int i = 1; i < made.length; i++) {
            useAll(made[i]);
        }
        long used = threads.getThreadAllocatedBytes(thread) - before;
        checks.due("the calls take no room: " + used, used < 10_000, true);
    }

    private static void useAll(ArrowDiagrams x) {
        x.begin(3);
        x.addArrow(0, 1);
        x.addArrow(0, 1);
        x.append('1');
        x.append('2');
        x.firstError();
        x.load();
        x.addCell(3, 4);
        x.addCell(6, 7);
        for (int path = 0; path < x.count(3); path++) {
            x.path(path, 3);
            x.distance(path, path);
            x.imageShare(path);
            x.apply(path, 0);
        }
        x.proof(6, 7, 0, 0);
        x.arrowOf(6, 1);
        x.between(0, 2, true);
        x.cell(1, 3);
        x.commuting();
        x.separate(6, 7);
        x.setSize(1, 3);
        x.setFunction(0, 4);
        x.isProduct(0, 1);
        x.isEqualizer(0, 2, 2);
        x.isPullback(0, 2, 1, 2);
        x.find();
        x.digest();
        x.dropCell(0);
        x.dropArrow();
        x.clearInput();
    }
}
