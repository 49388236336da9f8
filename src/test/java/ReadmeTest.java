import java.io.IOException;
import java.lang.reflect.Field;
import java.lang.reflect.Method;
import java.lang.reflect.Modifier;
import java.nio.file.Files;
import java.nio.file.Path;
import java.util.ArrayList;
import java.util.List;
import java.util.regex.Matcher;
import java.util.regex.Pattern;

/** README.md: its example answers what its comments say, and it names every public member. Run it from the project's folder. */
public final class ReadmeTest {
    private static final Pattern ROW = Pattern.compile("(?:int (\\w+) = )?cluster\\.(\\w+)\\(([^)]*)\\); +// (true|false|\\d+).*");
    private static final Check check = new Check();

    public static void main(String[] args) throws IOException {
        String readme = Files.readString(Path.of("README.md"));
        namesEveryMember(readme);
        example(readme);
        check.end();
    }

    private static void namesEveryMember(String readme) {
        for (Method m : CapacityQueues.class.getDeclaredMethods()) {
            if (Modifier.isPublic(m.getModifiers())) {
                check.due("a row for " + m.getName(), readme.contains("| `" + m.getName() + "("), true);
            }
        }
        for (Field f : CapacityQueues.class.getDeclaredFields()) {
            if (Modifier.isPublic(f.getModifiers())) {
                check.due("the constant " + f.getName(), readme.contains("`" + f.getName() + "`"), true);
            }
        }
    }

    /** The example's names stand for the ids that their rows answer. */
    private static void example(String readme) {
        CapacityQueues cluster = new CapacityQueues(16, 8);
        check.due("the object", readme.contains("CapacityQueues cluster = new CapacityQueues(16, 8);"), true);
        List<String> names = new ArrayList<>(List.of("root"));
        int rows = 0;
        for (String line : readme.lines().filter(l -> l.contains("cluster.")).toList()) {
            Matcher row = ROW.matcher(line);
            check.due("can be read: " + line, row.matches(), true);
            if (row.matches()) {
                rows++;
                check.due(line, answer(cluster, row.group(2), numbers(row.group(3), names)), row.group(4));
                if (row.group(1) != null) {
                    names.add(row.group(1));
                }
            }
        }
        check.due("the example's rows", rows, 11);
    }

    private static int[] numbers(String arguments, List<String> names) {
        return arguments.isEmpty() ? new int[0] : Pattern.compile(", ").splitAsStream(arguments)
            .mapToInt(a -> names.contains(a) ? names.indexOf(a) : Integer.parseInt(a)).toArray();
    }

    private static String answer(CapacityQueues cluster, String name, int[] args) {
        if (name.equals("containerInfo")) {
            return String.valueOf(cluster.containerInfo(args[0]));
        }
        int answer = new Call(name, args).on(cluster);
        boolean yesOrNo = name.equals("setCapacity") || name.equals("submit") || name.equals("complete");
        return yesOrNo ? String.valueOf(answer == 1) : String.valueOf(answer);
    }
}
