import java.util.ArrayDeque;
import java.util.ArrayList;
import java.util.Arrays;
import java.util.Comparator;
import java.util.HashMap;
import java.util.HashSet;
import java.util.LinkedHashMap;
import java.util.List;
import java.util.Map;
import java.util.PriorityQueue;
import java.util.Set;

// Long runs of calls on the class and on a second, plain writing of the document, whose answers
// must be the same. The runs come from a fixed row of numbers, so each time they are the same.
public final class AgentGridModel {
    private static final int RUNS = 120;
    private static final int CALLS = 100;

    // To a shift, 32 and the like are 0 to 2, and so are -32 and the like.
    private static final int[] FAR =
            {Integer.MIN_VALUE, Integer.MIN_VALUE + 1, -32, -31, 32, 33, 34, 1 << 16, Integer.MAX_VALUE};

    private final boolean[] wall = new boolean[12];
    private final int[] ways = new int[12];
    private final int[][] walkers = new int[3][];

    private AgentGridModel() {
        Arrays.fill(ways, 15);
    }

    private static boolean outside(int value, int most) {
        return value < 0 || value > most;
    }

    private int wall(int cell) {
        if (outside(cell, 11)) return -1;
        wall[cell] ^= true;
        return wall[cell] ? 1 : 0;
    }

    private int ways(int cell, int set) {
        if (outside(cell, 11)) return -1;
        if (outside(set, 15)) return -2;
        int had = ways[cell];
        ways[cell] = set;
        return had;
    }

    private int set(int walker, int place, int goal) {
        if (outside(walker, 2)) return -1;
        if (outside(place, 11) || outside(goal, 11)) return -2;
        walkers[walker] = new int[] {place, goal};
        return 1;
    }

    private List<Integer> members(int team) {
        List<Integer> list = new ArrayList<>();
        for (int w = 0; w < 3; w++) {
            if ((team & 1 << w) != 0) list.add(w);
        }
        return list;
    }

    private List<Integer> cells(int team, int which) {
        List<Integer> list = new ArrayList<>();
        for (int w : members(team)) list.add(walkers[w][which]);
        return list;
    }

    private boolean ready(int team) {
        if (team < 1 || team > 7) return false;
        for (int w : members(team)) {
            if (walkers[w] == null) return false;
        }
        for (int which = 0; which < 2; which++) {
            List<Integer> cells = cells(team, which);
            if (new HashSet<>(cells).size() < cells.size()) return false;
            for (int cell : cells) {
                if (wall[cell]) return false;
            }
        }
        return true;
    }

    private int turnRound(int team) {
        if (!ready(team)) return -1;
        for (int w : members(team)) walkers[w] = new int[] {walkers[w][1], walkers[w][0]};
        return members(team).size();
    }

    private List<Integer> steps(int cell) {
        int[] rows = {-1, 0, 1, 0};
        int[] columns = {0, 1, 0, -1};
        List<Integer> list = new ArrayList<>();
        for (int d = 0; d < 4; d++) {
            int row = cell / 4 + rows[d];
            int column = cell % 4 + columns[d];
            if ((ways[cell] & 1 << d) == 0 || outside(row, 2) || outside(column, 3)) continue;
            if (!wall[4 * row + column]) list.add(4 * row + column);
        }
        return list;
    }

    private int distance(int from, int to) {
        if (outside(from, 11) || outside(to, 11) || wall[from] || wall[to]) return -1;
        int[] least = new int[12];
        Arrays.fill(least, 99);
        least[from] = 0;
        for (int round = 0; round < 12; round++) {
            for (int cell = 0; cell < 12; cell++) {
                for (int next : steps(cell)) least[next] = Math.min(least[next], least[cell] + 1);
            }
        }
        return least[to] == 99 ? -2 : least[to];
    }

    // All turns from a state, without regard to the order.
    private List<List<Integer>> turns(List<Integer> state) {
        List<List<Integer>> found = new ArrayList<>();
        extend(state, new ArrayList<>(), found);
        return found;
    }

    private void extend(List<Integer> state, List<Integer> begun, List<List<Integer>> found) {
        int n = begun.size();
        if (n == state.size()) {
            found.add(new ArrayList<>(begun));
            return;
        }
        List<Integer> choices = steps(state.get(n));
        choices.add(state.get(n));
        for (int to : choices) {
            boolean free = !begun.contains(to);
            for (int i = 0; i < n; i++) {
                free &= !(begun.get(i).equals(state.get(n)) && state.get(i) == to);
            }
            if (free) {
                begun.add(to);
                extend(state, begun, found);
                begun.remove(n);
            }
        }
    }

    private Map<List<Integer>, Integer> reached(int team) {
        Map<List<Integer>, Integer> turns = new LinkedHashMap<>();
        ArrayDeque<List<Integer>> open = new ArrayDeque<>();
        turns.put(cells(team, 0), 0);
        open.add(cells(team, 0));
        while (!open.isEmpty()) {
            List<Integer> state = open.remove();
            for (List<Integer> next : turns(state)) {
                if (turns.putIfAbsent(next, turns.get(state) + 1) == null) open.add(next);
            }
        }
        return turns;
    }

    private int fastest(int team) {
        if (!ready(team)) return -1;
        return reached(team).getOrDefault(cells(team, 1), -2);
    }

    private int easiest(int team) {
        if (!ready(team)) return -1;
        Map<List<Integer>, Integer> done = new HashMap<>();
        PriorityQueue<Map.Entry<Integer, List<Integer>>> open =
                new PriorityQueue<>(Comparator.comparingInt(Map.Entry<Integer, List<Integer>>::getKey));
        open.add(Map.entry(0, cells(team, 0)));
        while (!open.isEmpty()) {
            Map.Entry<Integer, List<Integer>> least = open.remove();
            List<Integer> state = least.getValue();
            if (done.putIfAbsent(state, least.getKey()) != null) continue;
            for (List<Integer> next : turns(state)) {
                int effort = least.getKey();
                for (int i = 0; i < state.size(); i++) {
                    if (!state.get(i).equals(next.get(i))) effort++;
                }
                if (!done.containsKey(next)) open.add(Map.entry(effort, next));
            }
        }
        return done.getOrDefault(cells(team, 1), -2);
    }

    private int swarm(int team) {
        if (!ready(team)) return -1;
        Map<List<Integer>, Integer> reached = reached(team);
        for (Map.Entry<List<Integer>, Integer> entry : reached.entrySet()) {
            // They stand in the order of their turns, so the first one is the least.
            if (entry.getKey().containsAll(cells(team, 1))) return entry.getValue();
        }
        return -2;
    }

    private int arrangements(int team) {
        return ready(team) ? reached(team).size() : -1;
    }

    private int needed(int team) {
        if (!ready(team)) return -1;
        int length = fastest(team);
        if (length == -2) return -2;
        int count = 0;
        for (int cell = 0; cell < 12; cell++) {
            if (wall[cell] || cells(team, 0).contains(cell) || cells(team, 1).contains(cell)) continue;
            wall[cell] = true;
            if (!endsAfter(team, length)) count++;
            wall[cell] = false;
        }
        return count;
    }

    private List<Set<List<Integer>>> layers(int team, int length) {
        List<Set<List<Integer>>> layers = new ArrayList<>();
        layers.add(Set.of(cells(team, 0)));
        for (int t = 0; t < length; t++) {
            Set<List<Integer>> next = new HashSet<>();
            for (List<Integer> state : layers.get(t)) next.addAll(turns(state));
            layers.add(next);
        }
        return layers;
    }

    private boolean endsAfter(int team, int length) {
        return layers(team, length).get(length).contains(cells(team, 1));
    }

    private static boolean before(List<Integer> a, List<Integer> b) {
        for (int i = 0; i < a.size(); i++) {
            if (!a.get(i).equals(b.get(i))) return a.get(i) < b.get(i);
        }
        return false;
    }

    private int cellAt(int team, int walker, int t) {
        int length = fastest(team);
        if (length < 0) return length;
        if (!members(team).contains(walker)) return -3;
        if (t < 0 || t > length) return -4;
        // From the end on, keep in each layer only what can still end on the goals.
        List<Set<List<Integer>>> layers = layers(team, length);
        layers.set(length, Set.of(cells(team, 1)));
        for (int k = length - 1; k >= 0; k--) {
            Set<List<Integer>> useful = new HashSet<>();
            for (List<Integer> state : layers.get(k)) {
                for (List<Integer> next : turns(state)) {
                    if (layers.get(k + 1).contains(next)) useful.add(state);
                }
            }
            layers.set(k, useful);
        }
        List<Integer> state = cells(team, 0);
        for (int k = 1; k <= t; k++) {
            List<Integer> first = null;
            for (List<Integer> next : turns(state)) {
                if (layers.get(k).contains(next) && (first == null || before(next, first))) first = next;
            }
            state = first;
        }
        return state.get(members(team).indexOf(walker));
    }

    private static long row = 20261115L;

    private static int pick(int count) {
        row = row * 6364136223846793005L + 1442695040888963407L;
        return (int) ((row >>> 33) % count);
    }

    // Mostly 0 to count - 1, at times a little outside, at times far from it.
    private static int about(int count) {
        if (pick(50) == 0) return FAR[pick(FAR.length)];
        return pick(25) == 0 ? pick(2) * (count + 1) - 1 : pick(count);
    }

    private static int wrong = 0;

    private static void same(int run, String call, int got, int want) {
        if (got != want) {
            wrong++;
            System.out.println("run " + run + ": " + call + " answered " + got + ", the model " + want);
        }
    }

    private static void change(int run, AgentGrid x, AgentGridModel m) {
        int a = about(12);
        int b = about(12);
        int w = about(3);
        switch (pick(5)) {
            case 0 -> same(run, "wall(" + a + ")", x.wall(a), m.wall(a));
            case 1 -> {
                int set = pick(3) == 0 ? about(16) : 15 - (1 << pick(4));
                same(run, "ways(" + a + ", " + set + ")", x.ways(a, set), m.ways(a, set));
            }
            case 2, 3 -> same(run, "set(" + w + ", " + a + ", " + b + ")", x.set(w, a, b), m.set(w, a, b));
            default -> {
                int team = about(8);
                same(run, "turnRound(" + team + ")", x.turnRound(team), m.turnRound(team));
            }
        }
    }

    private static void ask(int run, AgentGrid x, AgentGridModel m) {
        int team = pick(2) == 0 ? 7 : about(8);
        switch (pick(7)) {
            case 0 -> {
                int a = about(12);
                int b = about(12);
                same(run, "distance(" + a + ", " + b + ")", x.distance(a, b), m.distance(a, b));
            }
            case 1 -> same(run, "fastest(" + team + ")", x.fastest(team), m.fastest(team));
            case 2 -> same(run, "easiest(" + team + ")", x.easiest(team), m.easiest(team));
            case 3 -> same(run, "swarm(" + team + ")", x.swarm(team), m.swarm(team));
            case 4 -> same(run, "arrangements(" + team + ")", x.arrangements(team), m.arrangements(team));
            case 5 -> same(run, "needed(" + team + ")", x.needed(team), m.needed(team));
            default -> {
                int w = about(3);
                int t = about(6);
                same(run, "cellAt(" + team + ", " + w + ", " + t + ")", x.cellAt(team, w, t), m.cellAt(team, w, t));
            }
        }
    }

    public static void main(String[] args) {
        for (int run = 1; run <= RUNS; run++) {
            AgentGrid x = new AgentGrid();
            AgentGridModel m = new AgentGridModel();
            for (int walker = 0; walker < 3 && run % 4 != 0; walker++) {
                int a = pick(12);
                int b = pick(12);
                same(run, "set(" + walker + ", " + a + ", " + b + ")", x.set(walker, a, b), m.set(walker, a, b));
            }
            for (int call = 0; call < CALLS; call++) {
                if (pick(3) == 0) change(run, x, m);
                else ask(run, x, m);
            }
        }
        System.out.println(wrong == 0 ? "class and model are the same" : wrong + " answers differ");
        if (wrong != 0) System.exit(1);
    }
}
