import java.lang.reflect.Constructor;
import java.lang.reflect.Field;
import java.lang.reflect.Member;
import java.lang.reflect.Method;
import java.lang.reflect.Modifier;
import java.util.Arrays;
import java.util.Set;
import java.util.TreeSet;

// The public face is that of the document, and the members keep to rules 1, 2, 5 and 10 of LANGUAGE.md.
public final class AgentGridFace {
    private static final Set<String> FACE = Set.of(
            "int wall[int]", "int ways[int, int]", "int set[int, int, int]", "int turnRound[int]",
            "int distance[int, int]", "int fastest[int]", "int easiest[int]", "int swarm[int]",
            "int arrangements[int]", "int needed[int]", "int cellAt[int, int, int]");
    private static final Set<String> TYPES = Set.of("int", "long", "short", "byte", "char", "boolean");

    private static int wrong = 0;

    private static void must(boolean holds, String what) {
        if (!holds) {
            wrong++;
            System.out.println("not so: " + what);
        }
    }

    private static boolean isPrivate(Member member) {
        return Modifier.isPrivate(member.getModifiers());
    }

    private static void publicFace() {
        must(AgentGrid.class.getModifiers() == (Modifier.PUBLIC | Modifier.FINAL), "class is public and final");
        must(AgentGrid.class.getDeclaredClasses().length == 0, "no nested class");
        Constructor<?>[] constructors = AgentGrid.class.getDeclaredConstructors();
        must(constructors.length == 1 && constructors[0].getModifiers() == Modifier.PUBLIC
                && constructors[0].getParameterCount() == 0, "one public constructor without parameters");
        Set<String> found = new TreeSet<>();
        Set<String> names = new TreeSet<>();
        for (Method method : AgentGrid.class.getDeclaredMethods()) {
            if (!isPrivate(method)) {
                must(method.getModifiers() == Modifier.PUBLIC, method + " is public alone");
                String[] types = Arrays.stream(method.getParameterTypes()).map(Class::getName).toArray(String[]::new);
                found.add(method.getReturnType() + " " + method.getName() + Arrays.toString(types));
                names.add(method.getName());
            }
        }
        must(found.equals(FACE), "the methods are those of the document, but they are " + found);
        for (Method method : AgentGrid.class.getDeclaredMethods()) {
            must(!isPrivate(method) || !names.contains(method.getName()), method + " has a name of its own");
            must(method.getParameterCount() <= 7, method + " has at most seven parameters");
        }
    }

    private static void fields() {
        int inObject = 0;
        for (Field field : AgentGrid.class.getDeclaredFields()) {
            Class<?> type = field.getType();
            boolean isStatic = Modifier.isStatic(field.getModifiers());
            must(isPrivate(field), field + " is private");
            must(TYPES.contains((type.isArray() ? type.getComponentType() : type).getName()), field + " is of numbers");
            must(!isStatic || Modifier.isFinal(field.getModifiers()) && (type == int.class || type == long.class),
                    field + " is a constant of int or long");
            inObject += isStatic ? 0 : 1;
        }
        must(inObject <= 40, "at most forty fields");
    }

    public static void main(String[] args) {
        publicFace();
        fields();
        System.out.println(wrong == 0 ? "the face is as due" : wrong + " faults in the face");
        if (wrong != 0) {
            System.exit(1);
        }
    }
}
