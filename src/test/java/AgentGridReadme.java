import java.io.IOException;
import java.lang.reflect.Method;
import java.nio.file.Files;
import java.nio.file.Path;
import java.util.Arrays;
import java.util.HashSet;
import java.util.Set;
import java.util.regex.Matcher;
import java.util.regex.Pattern;

// The example in README.md: each of its calls answers what the comment behind it begins with, and none
// of the class's methods is missing from it.
public final class AgentGridReadme {
    private static final Pattern CALL = Pattern.compile("grid\\.(\\w+)\\(([^)]*)\\); +// (-?\\d+):.*");

    private static int wrong = 0;

    private static void fault(String what) {
        wrong++;
        System.out.println(what);
    }

    private static int answer(AgentGrid grid, String name, String arguments) throws ReflectiveOperationException {
        Object[] values = Arrays.stream(arguments.split(", *")).map(Integer::valueOf).toArray();
        Class<?>[] types = new Class<?>[values.length];
        Arrays.fill(types, int.class);
        return (int) AgentGrid.class.getMethod(name, types).invoke(grid, values);
    }

    public static void main(String[] args) throws IOException, ReflectiveOperationException {
        AgentGrid grid = new AgentGrid();
        Set<String> used = new HashSet<>();
        for (String line : Files.readAllLines(Path.of("README.md"))) {
            Matcher call = CALL.matcher(line);
            if (call.matches()) {
                used.add(call.group(1));
                int got = answer(grid, call.group(1), call.group(2));
                if (got != Integer.parseInt(call.group(3))) fault(line + " -- answered " + got);
            } else if (line.startsWith("grid.")) {
                fault(line + " -- has no answer to look at");
            }
        }
        for (Method method : AgentGrid.class.getMethods()) {
            boolean isOwn = method.getDeclaringClass() == AgentGrid.class;
            if (isOwn && !used.contains(method.getName())) fault(method.getName() + " is not in the example");
        }
        System.out.println(wrong == 0 ? "the example holds" : wrong + " faults in the example");
        if (wrong != 0) System.exit(1);
    }
}
