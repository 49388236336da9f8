import java.io.IOException;
import java.lang.reflect.Constructor;
import java.lang.reflect.Field;
import java.lang.reflect.Method;
import java.lang.reflect.Modifier;
import java.nio.file.Files;
import java.nio.file.Path;
import java.util.Set;
import java.util.TreeSet;
import java.util.regex.Matcher;
import java.util.regex.Pattern;

/** The public face of the document, and those rules of LANGUAGE.md that a program can see. Run it from the project's folder. */
public final class FaceTest {
    private static final Path SOURCE = Path.of("src/main/java/CapacityQueues.java");
    private static final Check check = new Check();

    public static void main(String[] args) throws IOException {
        constants();
        face();
        fieldTypes();
        words();
        check.end();
    }

    private static void constants() {
        check.due("NONE", CapacityQueues.NONE, -1);
        check.due("MAX_QUEUES", CapacityQueues.MAX_QUEUES, 16);
        check.due("USERS", CapacityQueues.USERS, 4);
        check.due("MAX_SUBMIT", CapacityQueues.MAX_SUBMIT, 64);
        check.due("MAX_ROUNDS", CapacityQueues.MAX_ROUNDS, 64);
    }

    private static void face() {
        Set<String> want = new TreeSet<>(Set.of(
            "public static final int CapacityQueues.NONE",
            "public static final int CapacityQueues.MAX_QUEUES",
            "public static final int CapacityQueues.USERS",
            "public static final int CapacityQueues.MAX_SUBMIT",
            "public static final int CapacityQueues.MAX_ROUNDS",
            "public CapacityQueues(int,int)",
            "public int CapacityQueues.addQueue(int,int,int)",
            "public boolean CapacityQueues.setCapacity(int,int,int)",
            "public boolean CapacityQueues.submit(int,int,int)",
            "public int CapacityQueues.cancel(int,int)",
            "public boolean CapacityQueues.complete(int)",
            "public int CapacityQueues.schedule()",
            "public int CapacityQueues.preempt()",
            "public int CapacityQueues.queueCount()",
            "public int CapacityQueues.parentOf(int)",
            "public int CapacityQueues.guarantee(int)",
            "public int CapacityQueues.maxCapacity(int)",
            "public int CapacityQueues.used(int)",
            "public int CapacityQueues.pending(int,int)",
            "public int CapacityQueues.userUsed(int,int)",
            "public int CapacityQueues.userLimit()",
            "public int CapacityQueues.containerInfo(int)"));
        Set<String> got = new TreeSet<>();
        Set<String> names = new TreeSet<>();
        for (Field f : CapacityQueues.class.getDeclaredFields()) {
            addUnlessPrivate(got, f.getModifiers(), f.toString());
        }
        for (Constructor<?> c : CapacityQueues.class.getDeclaredConstructors()) {
            addUnlessPrivate(got, c.getModifiers(), c.toString());
        }
        for (Method m : CapacityQueues.class.getDeclaredMethods()) {
            addUnlessPrivate(got, m.getModifiers(), m.toString());
            check.due("methods named " + m.getName() + " before this one", names.add(m.getName()), true);
        }
        check.due("the face", String.join("\n", got), String.join("\n", want));
        check.due("the class is public and final", CapacityQueues.class.getModifiers(), Modifier.PUBLIC | Modifier.FINAL);
        check.due("nested classes", CapacityQueues.class.getDeclaredClasses().length, 0);
    }

    private static void addUnlessPrivate(Set<String> members, int modifiers, String member) {
        if (!Modifier.isPrivate(modifiers)) {
            members.add(member);
        }
    }

    private static void fieldTypes() {
        Set<String> plain = Set.of("int", "long", "short", "byte", "char", "boolean");
        int fields = 0;
        for (Field f : CapacityQueues.class.getDeclaredFields()) {
            Class<?> type = f.getType();
            if (Modifier.isStatic(f.getModifiers())) {
                boolean constant = Modifier.isFinal(f.getModifiers()) && (type == int.class || type == long.class);
                check.due("rule 5: " + f, constant, true);
            } else {
                fields++;
                check.due("rule 2: " + f, plain.contains((type.isArray() ? type.getComponentType() : type).getName()), true);
            }
        }
        check.due("rule 10: at most forty fields", fields <= 40, true);
    }

    private static void words() throws IOException {
        String code = Files.readString(SOURCE).replaceAll("(?s)/\\*.*?\\*/", " ").replaceAll("//[^\n]*", " ");
        String banned = "\\b(import|package|float|double|String|Math|Integer|Long|System|Arrays|Object|null|throw|throws|try"
            + "|catch|finally|synchronized|assert|instanceof|interface|enum|record|protected|var|super|extends|implements"
            + "|getClass|hashCode|equals|toString|clone|notify|wait|finalize)\\b|->|::|\"";
        Matcher found = Pattern.compile(banned).matcher(code);
        while (found.find()) {
            check.due("rules 1 to 6: the word " + found.group(), true, false);
        }
    }
}
