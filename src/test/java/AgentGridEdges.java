import java.util.ArrayList;
import java.util.IdentityHashMap;
import java.util.List;
import java.util.Map;
import java.util.function.Supplier;

// Each sentence of the document that names a boundary case has a test of its own here. They stand in
// the document's order, and main names the sentence of each. A refused call is made on a grid that is
// no new one, and all that can be seen of that grid is then compared with a twin that had no such call.
public final class AgentGridEdges {
    private static final int[] NO_CELLS = {-1, 12, -12, 15, 16, Integer.MIN_VALUE, Integer.MAX_VALUE};
    private static final int[] NO_WAYS = {-1, 16, -16, 31, Integer.MIN_VALUE, Integer.MAX_VALUE};
    // 32, 33 and 34 are 0, 1 and 2 to a shift.
    private static final int[] NO_WALKERS = {-1, 3, 32, 33, 34, Integer.MIN_VALUE, Integer.MAX_VALUE};
    private static final int[] NO_TEAMS = {0, 8, -1, -7, 9, 15, Integer.MIN_VALUE, Integer.MIN_VALUE + 1, Integer.MAX_VALUE};
    private static final int[][] PAIRS = {{0, 1}, {0, 2}, {1, 2}, {1, 0}, {2, 0}, {2, 1}};
    private static final int[][] TRIPLES = {{0, 1, 2}, {0, 2, 1}, {1, 0, 2}, {1, 2, 0}, {2, 0, 1}, {2, 1, 0}};

    private interface Call {
        int on(AgentGrid grid);
    }

    private interface TeamCall {
        int on(AgentGrid grid, int team);
    }

    private static final String[] ASKING_NAMES = {"fastest", "easiest", "swarm", "arrangements", "needed", "cellAt"};
    private static final TeamCall[] ASKING = {
        AgentGrid::fastest, AgentGrid::easiest, AgentGrid::swarm, AgentGrid::arrangements, AgentGrid::needed,
        (grid, team) -> grid.cellAt(team, walkersOf(team)[0], 0),
    };

    private static final Supplier<AgentGrid> NEW = AgentGrid::new;
    private static final Supplier<AgentGrid> BUSY = AgentGridEdges::busy;
    private static final Supplier<AgentGrid> PARTED = AgentGridEdges::parted;
    private static final Supplier<AgentGrid> LONE = AgentGridEdges::lone;

    private static final Map<Supplier<AgentGrid>, String> TWINS = new IdentityHashMap<>();

    private static String sentence = "";
    private static int wrong = 0;

    private static void fault(String what) {
        wrong++;
        System.out.println("[" + sentence + "] " + what);
    }

    private static void due(String call, int got, int want) {
        if (got != want) {
            fault(call + " answered " + got + ", due is " + want);
        }
    }

    private static int[] walkersOf(int team) {
        List<Integer> found = new ArrayList<>();
        for (int walker = 0; walker < 3; walker++) {
            if ((team >> walker & 1) == 1) {
                found.add(walker);
            }
        }
        return found.isEmpty() ? new int[] {0} : found.stream().mapToInt(Integer::intValue).toArray();
    }

    private static int teamOf(int... walkers) {
        int team = 0;
        for (int walker : walkers) {
            team |= 1 << walker;
        }
        return team;
    }

    private static AgentGrid put(AgentGrid grid, int walker, int place, int goal) {
        due("set " + walker + " " + place + " " + goal, grid.set(walker, place, goal), 1);
        return grid;
    }

    private static AgentGrid walled(int... cells) {
        AgentGrid grid = new AgentGrid();
        for (int cell : cells) {
            due("wall " + cell, grid.wall(cell), 1);
        }
        return grid;
    }

    private static AgentGrid onlyOpen(int... cells) {
        AgentGrid grid = walled(0, 1, 2, 3, 4, 5, 6, 7, 8, 9, 10, 11);
        for (int cell : cells) {
            due("open " + cell, grid.wall(cell), 0);
        }
        return grid;
    }

    // A one-way path over all cells: the longest way that the grid has.
    private static AgentGrid snake() {
        int[] path = {0, 1, 2, 3, 7, 6, 5, 4, 8, 9, 10, 11};
        int[] ways = {2, 2, 2, 4, 8, 8, 8, 4, 2, 2, 2, 0};
        AgentGrid grid = new AgentGrid();
        for (int i = 0; i < 12; i++) {
            due("ways " + path[i], grid.ways(path[i], ways[i]), 15);
        }
        return grid;
    }

    // A grid on which every team is ready and has a plan, with a wall whose ways out are not all four.
    private static AgentGrid busy() {
        AgentGrid grid = walled(5);
        grid.ways(5, 6);
        grid.ways(10, 7);
        put(grid, 0, 0, 3);
        put(grid, 1, 3, 0);
        return put(grid, 2, 9, 6);
    }

    // A grid on which every team is ready, but only 1 and 2 have a plan.
    private static AgentGrid parted() {
        AgentGrid grid = walled(4, 5, 6, 7);
        grid.ways(6, 3);
        put(grid, 0, 0, 3);
        put(grid, 1, 3, 0);
        return put(grid, 2, 8, 1);
    }

    // A grid on which walker 1 alone is set.
    private static AgentGrid lone() {
        AgentGrid grid = walled(6);
        grid.ways(1, 12);
        return put(grid, 1, 1, 11);
    }

    // All that can be seen of a grid, in some 150 calls that leave it changed: first its answers, then
    // its ways out and walls, and, when all is open, the place and goal of each walker.
    private static String portrait(AgentGrid grid) {
        StringBuilder seen = new StringBuilder();
        for (int team = 1; team <= 7; team++) {
            seen.append("\nteam ").append(team).append(':');
            for (TeamCall call : ASKING) {
                seen.append(' ').append(call.on(grid, team));
            }
            for (int walker : walkersOf(team)) {
                seen.append(' ').append(grid.cellAt(team, walker, 2));
            }
        }
        seen.append("\ndistances:");
        for (int cell = 0; cell < 12; cell++) {
            seen.append(' ').append(grid.distance(0, cell)).append(' ').append(grid.distance(cell, 11));
        }
        return seen + hidden(grid);
    }

    private static String hidden(AgentGrid grid) {
        StringBuilder seen = new StringBuilder("\ncells:");
        for (int cell = 0; cell < 12; cell++) {
            boolean open = grid.wall(cell) == 1;
            if (open) {
                grid.wall(cell);
            }
            seen.append(' ').append(open ? "" : "w").append(grid.ways(cell, 15));
        }
        seen.append("\nwalkers:");
        for (int walker = 0; walker < 3; walker++) {
            int team = 1 << walker;
            int length = grid.fastest(team);
            seen.append(' ').append(grid.cellAt(team, walker, 0)).append('>').append(grid.cellAt(team, walker, length));
        }
        return seen.toString();
    }

    // The call answers so, and the grid is then as one that had no such call.
    private static void dueUnchanged(String name, Supplier<AgentGrid> scene, Call call, int want) {
        AgentGrid grid = scene.get();
        due(name, call.on(grid), want);
        String after = portrait(grid);
        String twin = TWINS.computeIfAbsent(scene, made -> portrait(made.get()));
        if (!after.equals(twin)) {
            fault(name + " changed something: now" + after + "\nbut it was" + twin);
        }
    }

    // Every call that is given a team refuses this one, and changes nothing.
    private static void dueRefused(String why, Supplier<AgentGrid> scene, int team) {
        dueUnchanged(why + ": turnRound " + team, scene, grid -> grid.turnRound(team), -1);
        for (int i = 0; i < ASKING.length; i++) {
            TeamCall call = ASKING[i];
            dueUnchanged(why + ": " + ASKING_NAMES[i] + " " + team, scene, grid -> call.on(grid, team), -1);
        }
    }

    private static void dueReady(String why, Supplier<AgentGrid> scene, int... teams) {
        for (int team : teams) {
            for (int i = 0; i < ASKING.length; i++) {
                int answer = ASKING[i].on(scene.get(), team);
                due(why + ": is " + ASKING_NAMES[i] + " " + team + " refused", answer == -1 ? 1 : 0, 0);
            }
            due(why + ": turnRound " + team, scene.get().turnRound(team), Integer.bitCount(team));
        }
    }

    // The first plan, told cell by cell: after turn t the walkers of the team are on cells[t].
    private static void duePlan(String when, AgentGrid grid, int team, int[][] cells) {
        int[] walkers = walkersOf(team);
        due(when + ": fastest " + team, grid.fastest(team), cells.length - 1);
        for (int t = 0; t < cells.length; t++) {
            for (int i = 0; i < walkers.length; i++) {
                due(when + ": cellAt " + team + " " + walkers[i] + " " + t, grid.cellAt(team, walkers[i], t), cells[t][i]);
            }
        }
        due(when + ": cellAt beyond the end", grid.cellAt(team, walkers[0], cells.length), -4);
    }

    // What cellAt tells is a plan: it keeps to the steps, and nobody gets in another's way.
    private static void dueLawful(String when, AgentGrid grid, int team, int length) {
        int[] walkers = walkersOf(team);
        for (int t = 1; t <= length; t++) {
            int[] from = new int[walkers.length];
            int[] to = new int[walkers.length];
            for (int i = 0; i < walkers.length; i++) {
                from[i] = grid.cellAt(team, walkers[i], t - 1);
                to[i] = grid.cellAt(team, walkers[i], t);
                due(when + ": turn " + t + " goes too far", Math.max(grid.distance(from[i], to[i]), 1), 1);
                for (int j = 0; j < i; j++) {
                    boolean clash = to[i] == to[j] || to[i] == from[j] && to[j] == from[i];
                    due(when + ": clash in turn " + t, clash ? 1 : 0, 0);
                }
            }
        }
    }

    private static int stepsBetween(int a, int b) {
        return Math.abs(a % 4 - b % 4) + Math.abs(a / 4 - b / 4);
    }

    // ---- What it is

    private static void manyCalls() {
        AgentGrid grid = new AgentGrid();
        put(grid, 0, 0, 3);
        put(grid, 1, 8, 11);
        // 85 times 6 calls: the last one is the 512th.
        for (int round = 1; round <= 85; round++) {
            due("wall 1 in round " + round, grid.wall(1), 1);
            due("distance around it", grid.distance(0, 3), 5);
            due("wall 1 again", grid.wall(1), 0);
            due("fastest", grid.fastest(3), 3);
            due("turnRound", grid.turnRound(3), 2);
            due("cellAt in round " + round, grid.cellAt(3, 1, 0), round % 2 == 1 ? 11 : 8);
        }
    }

    // ---- Terms

    private static void nextCells() {
        int nextPairs = 0;
        for (int a = 0; a < 12; a++) {
            for (int b = 0; b < 12; b++) {
                if (a != b) {
                    int want = stepsBetween(a, b) == 1 ? 1 : -2;
                    AgentGrid grid = put(onlyOpen(a, b), 0, a, b);
                    due("distance " + a + " " + b, grid.distance(a, b), want);
                    due("fastest from " + a + " to " + b, grid.fastest(1), want);
                    nextPairs += want == 1 ? 1 : 0;
                }
            }
        }
        due("pairs of cells next to each other, each both ways", nextPairs, 34);
    }

    private static void noWrapAround() {
        int[][] apart = {{3, 4}, {7, 8}, {0, 3}, {4, 7}, {8, 11}, {0, 8}, {1, 9}, {2, 10}, {3, 11}, {0, 11}, {0, 5}, {3, 6}};
        for (int[] pair : apart) {
            AgentGrid grid = onlyOpen(pair);
            due("from " + pair[0] + " to " + pair[1], grid.distance(pair[0], pair[1]), -2);
            due("from " + pair[1] + " to " + pair[0], grid.distance(pair[1], pair[0]), -2);
        }
    }

    private static void directions() {
        int[] next = {1, 6, 9, 4};
        for (int d = 0; d < 4; d++) {
            AgentGrid grid = onlyOpen(1, 4, 5, 6, 9);
            due("ways 5", grid.ways(5, 1 << d), 15);
            for (int e = 0; e < 4; e++) {
                due("direction " + d + " to " + next[e], grid.distance(5, next[e]), d == e ? 1 : -2);
            }
        }
    }

    private static void waysAsNumber() {
        int[] rows = {-1, 0, 1, 0};
        int[] columns = {0, 1, 0, -1};
        for (int cell = 0; cell < 12; cell++) {
            for (int ways = 0; ways < 16; ways++) {
                AgentGrid grid = new AgentGrid();
                due("ways " + cell, grid.ways(cell, ways), 15);
                int out = 0;
                for (int d = 0; d < 4; d++) {
                    int row = cell / 4 + rows[d];
                    int column = cell % 4 + columns[d];
                    // Over the grid's edge no way leads anywhere.
                    if (row >= 0 && row < 3 && column >= 0 && column < 4 && (ways >> d & 1) == 1) {
                        out |= 1 << 4 * row + column;
                    }
                }
                for (int to = 0; to < 12; to++) {
                    boolean near = grid.distance(cell, to) == 1;
                    due("with ways " + ways + " a step from " + cell + " to " + to, near ? 1 : 0, out >> to & 1);
                }
                if (out == 0) {
                    due("nobody leaves " + cell, put(grid, 0, cell, cell).arrangements(1), 1);
                }
            }
        }
    }

    private static void stepNeedsOpenCells() {
        AgentGrid grid = walled(1, 5, 9);
        put(grid, 0, 0, 2);
        due("through a wall", grid.distance(0, 2), -2);
        due("into a wall", grid.distance(0, 1), -1);
        due("out of a wall", grid.distance(1, 0), -1);
        due("a walker through a wall", grid.fastest(1), -2);
        due("a walker on one side", grid.arrangements(1), 3);
        due("the wall opens", grid.wall(5), 0);
        due("through the gap", grid.distance(0, 2), 4);
        due("a walker through the gap", grid.fastest(1), 4);
    }

    private static void stepNeedsFirstOnesWays() {
        AgentGrid grid = onlyOpen(5, 6);
        grid.ways(6, 0);
        put(grid, 0, 5, 6);
        put(grid, 1, 6, 5);
        due("into a cell without ways out", grid.distance(5, 6), 1);
        due("and not back", grid.distance(6, 5), -2);
        due("a walker into it", grid.fastest(1), 1);
        due("a walker out of it", grid.fastest(2), -2);
        grid.ways(6, 8);
        due("back", grid.fastest(2), 1);
    }

    private static void readyAllSet() {
        for (int team = 1; team <= 7; team++) {
            dueRefused("none is set", () -> walled(5), team);
        }
        for (int set = 0; set < 7; set++) {
            int some = set;
            Supplier<AgentGrid> scene = () -> {
                AgentGrid grid = walled(5);
                for (int walker = 0; walker < 3; walker++) {
                    if ((some >> walker & 1) == 1) {
                        put(grid, walker, 8 + walker, 1 + walker);
                    }
                }
                return grid;
            };
            for (int team = 1; team <= 7; team++) {
                if ((team & ~set) != 0) {
                    dueRefused("set are " + set, scene, team);
                } else {
                    dueReady("set are " + set, scene, team);
                }
            }
        }
    }

    private static void readyPlaces() {
        for (int i = 0; i < 3; i++) {
            int a = PAIRS[i][0];
            int b = PAIRS[i][1];
            int other = 3 - a - b;
            Supplier<AgentGrid> scene = () -> put(put(put(walled(5), a, 4, 0), b, 4, 11), other, 9, 10);
            dueRefused("same place of " + a + " and " + b, scene, teamOf(a, b));
            dueRefused("same place of " + a + " and " + b, scene, 7);
            dueReady("only one of them", scene, teamOf(a), teamOf(b), teamOf(other), teamOf(a, other), teamOf(b, other));
        }
    }

    private static void readyGoals() {
        for (int i = 0; i < 3; i++) {
            int a = PAIRS[i][0];
            int b = PAIRS[i][1];
            int other = 3 - a - b;
            Supplier<AgentGrid> scene = () -> put(put(put(walled(5), a, 0, 4), b, 11, 4), other, 9, 10);
            dueRefused("same goal of " + a + " and " + b, scene, teamOf(a, b));
            dueRefused("same goal of " + a + " and " + b, scene, 7);
            dueReady("only one of them", scene, teamOf(a), teamOf(b), teamOf(other), teamOf(a, other), teamOf(b, other));
        }
    }

    private static void readyOpenCells() {
        for (int i = 0; i < 3; i++) {
            int w = i;
            int a = (i + 1) % 3;
            int b = (i + 2) % 3;
            Supplier<AgentGrid> onWall = () -> put(put(put(walled(5), w, 5, 0), a, 8, 9), b, 3, 2);
            Supplier<AgentGrid> toWall = () -> put(put(put(walled(5), w, 0, 5), a, 8, 9), b, 3, 2);
            Supplier<AgentGrid> stays = () -> put(put(put(walled(5), w, 5, 5), a, 8, 9), b, 3, 2);
            for (int team : new int[] {teamOf(w), teamOf(w, a), teamOf(w, b), 7}) {
                dueRefused("place of " + w + " is a wall", onWall, team);
                dueRefused("goal of " + w + " is a wall", toWall, team);
                dueRefused("both are a wall", stays, team);
            }
            dueReady("without " + w, onWall, teamOf(a), teamOf(b), teamOf(a, b));
            dueReady("without " + w, toWall, teamOf(a), teamOf(b), teamOf(a, b));
        }
        AgentGrid grid = put(walled(5), 0, 5, 6);
        due("while it is a wall", grid.fastest(1), -1);
        due("it opens", grid.wall(5), 0);
        due("when it is open", grid.fastest(1), 1);
        due("the goal shuts", grid.wall(6), 1);
        due("then not", grid.fastest(1), -1);
        due("the goal opens", grid.wall(6), 0);
        due("then again", grid.fastest(1), 1);
    }

    private static void readyAllTheSame() {
        dueReady("one's place is another's goal",
                () -> put(put(put(walled(5), 0, 0, 1), 1, 1, 2), 2, 2, 0), 1, 2, 3, 4, 5, 6, 7);
        dueReady("one's place is its goal",
                () -> put(put(put(walled(5), 0, 0, 0), 1, 1, 1), 2, 2, 2), 1, 2, 3, 4, 5, 6, 7);
        dueReady("there is no plan", PARTED, 1, 2, 3, 4, 5, 6, 7);
    }

    private static void turnOneCell() {
        for (int[] pair : PAIRS) {
            int team = teamOf(pair);
            AgentGrid grid = put(put(onlyOpen(0, 1, 2), pair[0], 0, 1), pair[1], 2, 2);
            due("into a cell between two", grid.arrangements(team), 3);
            due("one of them", grid.fastest(team), 1);
            put(grid, pair[1], 1, 1);
            put(grid, pair[0], 0, 2);
            due("over one that stays", grid.fastest(team), -2);
            put(grid, pair[0], 0, 0);
            due("three in a row, two on them", grid.arrangements(team), 3);
            AgentGrid two = put(put(onlyOpen(0, 1), pair[0], 0, 0), pair[1], 1, 1);
            due("two cells, full", two.arrangements(team), 1);
            due("two cells, one walker", two.arrangements(1 << pair[0]), 2);
        }
        AgentGrid three = put(put(put(onlyOpen(0, 1, 2), 0, 0, 0), 1, 1, 1), 2, 2, 2);
        due("three cells, full", three.arrangements(7), 1);
    }

    private static void turnChangedPlaces() {
        for (int[] pair : PAIRS) {
            int other = 3 - pair[0] - pair[1];
            for (int to : new int[] {1, 4}) {
                AgentGrid grid = put(put(put(onlyOpen(0, to, 11), pair[0], 0, to), pair[1], to, 0), other, 11, 11);
                for (int team : new int[] {teamOf(pair), 7}) {
                    due("fastest between 0 and " + to, grid.fastest(team), -2);
                    due("easiest", grid.easiest(team), -2);
                    due("arrangements", grid.arrangements(team), 1);
                    due("needed", grid.needed(team), -2);
                    due("cellAt", grid.cellAt(team, pair[0], 0), -2);
                    due("swarm", grid.swarm(team), 0);
                }
            }
            AgentGrid ring = put(put(onlyOpen(0, 1, 4, 5), pair[0], 0, 1), pair[1], 1, 0);
            due("with room, one goes round", ring.fastest(teamOf(pair)), 3);
            due("in four steps", ring.easiest(teamOf(pair)), 4);
        }
    }

    private static void turnLeavesForAThird() {
        for (int[] pair : PAIRS) {
            AgentGrid grid = put(put(onlyOpen(4, 5, 6), pair[0], 4, 5), pair[1], 5, 6);
            due("one behind the other", grid.fastest(teamOf(pair)), 1);
            due("in two steps", grid.easiest(teamOf(pair)), 2);
        }
        for (int[] row : TRIPLES) {
            AgentGrid line = put(put(put(onlyOpen(0, 1, 2, 3), row[0], 0, 1), row[1], 1, 2), row[2], 2, 3);
            due("three behind each other", line.fastest(7), 1);
            due("in three steps", line.easiest(7), 3);
            AgentGrid ring = put(put(put(onlyOpen(0, 1, 4, 5), row[0], 0, 1), row[1], 1, 5), row[2], 5, 4);
            due("three on a ring of four", ring.fastest(7), 1);
            due("keep their order on it", ring.arrangements(7), 12);
        }
    }

    private static void emptyPlan() {
        AgentGrid grid = put(put(put(busy(), 0, 0, 0), 1, 1, 1), 2, 11, 11);
        for (int team = 1; team <= 7; team++) {
            due("fastest " + team, grid.fastest(team), 0);
            due("easiest " + team, grid.easiest(team), 0);
            due("swarm " + team, grid.swarm(team), 0);
            due("needed " + team, grid.needed(team), 0);
            for (int walker : walkersOf(team)) {
                due("cellAt after no turn", grid.cellAt(team, walker, 0), new int[] {0, 1, 11}[walker]);
                due("cellAt after a turn", grid.cellAt(team, walker, 1), -4);
            }
        }
    }

    private static void endsOnGoals() {
        // Walker 1 begins on its goal, has to make room, and comes back.
        AgentGrid grid = put(put(onlyOpen(0, 1, 2, 5), 0, 0, 2), 1, 1, 1);
        duePlan("away and back", grid, 3, new int[][] {{0, 1}, {1, 5}, {2, 1}});
    }

    private static void stayingIsNone() {
        AgentGrid grid = put(put(put(new AgentGrid(), 0, 0, 11), 1, 4, 4), 2, 2, 1);
        due("who stays has none", grid.easiest(2), 0);
        due("one far, one near, one not at all", grid.fastest(7), 5);
        due("their steps", grid.easiest(7), 6);
        AgentGrid room = put(put(onlyOpen(0, 1, 2, 5), 0, 0, 2), 1, 1, 1);
        due("who makes room has two", room.easiest(3), 4);
    }

    private static void refusedChangesNothing() {
        dueUnchanged("all sorts of refused calls", BUSY, AgentGridEdges::refuseAll, 0);
        dueUnchanged("all sorts of refused calls", PARTED, AgentGridEdges::refuseAll, 0);
        dueUnchanged("all sorts of refused calls", LONE, AgentGridEdges::refuseAll, 0);
        dueUnchanged("all sorts of refused calls", NEW, AgentGridEdges::refuseAll, 0);
        dueUnchanged("no plan", PARTED, grid -> grid.fastest(7), -2);
        dueUnchanged("no plan", PARTED, grid -> grid.easiest(7), -2);
        dueUnchanged("can't be reached", PARTED, grid -> grid.swarm(7), -2);
        dueUnchanged("no plan", PARTED, grid -> grid.needed(7), -2);
        dueUnchanged("no plan", PARTED, grid -> grid.cellAt(7, 0, 0), -2);
        dueUnchanged("one can't come there", PARTED, grid -> grid.distance(0, 8), -2);
    }

    // Many calls that any grid refuses, on one and the same; answers how many were not refused.
    private static int refuseAll(AgentGrid grid) {
        int taken = 0;
        for (int cell : NO_CELLS) {
            taken += grid.wall(cell) >= 0 ? 1 : 0;
            taken += grid.ways(cell, 3) >= 0 ? 1 : 0;
            taken += grid.distance(cell, 1) >= 0 ? 1 : 0;
            taken += grid.distance(1, cell) >= 0 ? 1 : 0;
            taken += grid.set(2, cell, 4) >= 0 ? 1 : 0;
            taken += grid.set(1, 4, cell) >= 0 ? 1 : 0;
        }
        for (int ways : NO_WAYS) {
            taken += grid.ways(1, ways) >= 0 ? 1 : 0;
        }
        for (int walker : NO_WALKERS) {
            taken += grid.set(walker, 4, 4) >= 0 ? 1 : 0;
            taken += grid.cellAt(2, walker, 0) >= 0 ? 1 : 0;
        }
        for (int team : NO_TEAMS) {
            taken += grid.turnRound(team) >= 0 ? 1 : 0;
            for (TeamCall call : ASKING) {
                taken += call.on(grid, team) >= 0 ? 1 : 0;
            }
        }
        taken += grid.cellAt(2, 1, -1) >= 0 ? 1 : 0;
        taken += grid.cellAt(2, 1, 99) >= 0 ? 1 : 0;
        taken += grid.cellAt(2, 0, 0) >= 0 ? 1 : 0;
        return taken;
    }

    private static void refusedInOrder() {
        for (Supplier<AgentGrid> scene : List.of(BUSY, LONE)) {
            dueUnchanged("ways: no cell, no ways", scene, grid -> grid.ways(12, 16), -1);
            dueUnchanged("ways: no cell, no ways", scene, grid -> grid.ways(-1, -1), -1);
            dueUnchanged("set: no walker, no place", scene, grid -> grid.set(3, 12, 0), -1);
            dueUnchanged("set: no walker, no goal", scene, grid -> grid.set(-1, 0, -1), -1);
            dueUnchanged("set: nothing right", scene, grid -> grid.set(3, 12, 12), -1);
            dueUnchanged("cellAt: no team, no walker, no t", scene, grid -> grid.cellAt(8, 3, -1), -1);
            dueUnchanged("cellAt: no team, no walker, no t", scene, grid -> grid.cellAt(0, -1, 99), -1);
        }
        dueUnchanged("distance: a wall that one can't come to", PARTED, grid -> grid.distance(0, 5), -1);
        dueUnchanged("distance: from a wall one can't leave", PARTED, grid -> grid.distance(5, 0), -1);
        dueUnchanged("cellAt: not ready, walker not in the team", LONE, grid -> grid.cellAt(1, 1, 0), -1);
        dueUnchanged("cellAt: not ready, no t", LONE, grid -> grid.cellAt(1, 0, -1), -1);
        dueUnchanged("cellAt: no plan, walker not in the team", PARTED, grid -> grid.cellAt(3, 2, 0), -2);
        dueUnchanged("cellAt: no plan, no walker", PARTED, grid -> grid.cellAt(7, 3, 0), -2);
        dueUnchanged("cellAt: no plan, no t", PARTED, grid -> grid.cellAt(3, 0, -1), -2);
        dueUnchanged("cellAt: no plan, no walker, no t", PARTED, grid -> grid.cellAt(3, -1, 99), -2);
        dueUnchanged("cellAt: walker not in the team, no t", BUSY, grid -> grid.cellAt(3, 2, -1), -3);
        dueUnchanged("cellAt: no walker, no t", BUSY, grid -> grid.cellAt(7, 3, 99), -3);
        // Where the goal is a wall, or is another's too, there is no plan either.
        Supplier<AgentGrid> noGoal = () -> put(put(walled(4, 5, 6, 7), 0, 0, 5), 1, 1, 5);
        for (int team = 1; team <= 3; team++) {
            dueRefused("not ready, no plan", noGoal, team);
        }
    }

    private static void askingChangesNothing() {
        for (int team = 1; team <= 7; team++) {
            int asked = team;
            for (int i = 0; i < ASKING.length; i++) {
                TeamCall call = ASKING[i];
                int first = call.on(busy(), team);
                dueUnchanged(ASKING_NAMES[i] + " " + team, BUSY, grid -> call.on(grid, asked), first);
                first = call.on(parted(), team);
                dueUnchanged(ASKING_NAMES[i] + " " + team, PARTED, grid -> call.on(grid, asked), first);
                AgentGrid twice = busy();
                due(ASKING_NAMES[i] + " twice", call.on(twice, team), call.on(twice, team));
            }
        }
        dueUnchanged("distance", BUSY, grid -> grid.distance(0, 11), 5);
        dueUnchanged("distance, none", PARTED, grid -> grid.distance(0, 11), -2);
        dueUnchanged("distance in a lone walker's grid", LONE, grid -> grid.distance(11, 0), 5);
    }

    private static void noTeam() {
        for (int team : NO_TEAMS) {
            dueRefused("no team", BUSY, team);
        }
        dueReady("a team", BUSY, 1, 2, 3, 4, 5, 6, 7);
    }

    // ---- Promise 1

    private static void newCellsOpen() {
        for (int cell = 0; cell < 12; cell++) {
            due("the first wall " + cell, new AgentGrid().wall(cell), 1);
        }
        AgentGrid grid = new AgentGrid();
        for (int from = 0; from < 12; from++) {
            for (int to = 0; to < 12; to++) {
                due("distance " + from + " " + to, grid.distance(from, to), stepsBetween(from, to));
            }
        }
    }

    private static void newAllWays() {
        for (int cell = 0; cell < 12; cell++) {
            due("the first ways " + cell, new AgentGrid().ways(cell, 0), 15);
        }
    }

    private static void newNoWalker() {
        for (int team = 1; team <= 7; team++) {
            dueRefused("new", NEW, team);
        }
        for (int walker = 0; walker < 3; walker++) {
            AgentGrid grid = put(new AgentGrid(), walker, 0, 0);
            for (int team = 1; team <= 7; team++) {
                due("set is " + walker + ": fastest " + team, grid.fastest(team), team == 1 << walker ? 0 : -1);
            }
        }
    }

    private static void newApart() {
        String fresh = portrait(new AgentGrid());
        AgentGrid used = busy();
        AgentGrid later = new AgentGrid();
        used.wall(0);
        used.ways(1, 0);
        used.set(2, 7, 7);
        if (!portrait(later).equals(fresh)) {
            fault("a new object knows of another one");
        }
        due("and the other way round: wall", used.wall(0), 0);
        due("and the other way round: ways", used.ways(1, 15), 0);
        due("and the other way round: walker", used.cellAt(4, 2, 0), 7);
    }

    // ---- Promise 2

    private static void wallNoCell() {
        for (int cell : NO_CELLS) {
            dueUnchanged("wall " + cell, BUSY, grid -> grid.wall(cell), -1);
            dueUnchanged("wall " + cell, LONE, grid -> grid.wall(cell), -1);
            dueUnchanged("wall " + cell, NEW, grid -> grid.wall(cell), -1);
        }
    }

    private static void wallToAndFro() {
        for (int cell = 0; cell < 12; cell++) {
            AgentGrid grid = new AgentGrid();
            int from = (cell + 6) % 12;
            due("wall " + cell, grid.wall(cell), 1);
            due("no way to it", grid.distance(from, cell), -1);
            due("wall " + cell + " again", grid.wall(cell), 0);
            due("a way to it", grid.distance(from, cell), stepsBetween(from, cell));
            due("wall " + cell + " once more", grid.wall(cell), 1);
            for (int other = 0; other < 12; other++) {
                due("only that one", grid.distance(other, other), other == cell ? -1 : 0);
            }
        }
    }

    private static void wallKeepsWays() {
        for (int cell = 0; cell < 12; cell++) {
            for (int ways = 0; ways < 16; ways++) {
                AgentGrid grid = new AgentGrid();
                due("ways " + cell, grid.ways(cell, ways), 15);
                due("wall " + cell, grid.wall(cell), 1);
                due("open " + cell, grid.wall(cell), 0);
                due("ways of " + cell + " as before", grid.ways(cell, 15), ways);
            }
        }
        AgentGrid grid = onlyOpen(4, 5, 6);
        grid.ways(5, 2);
        grid.wall(5);
        grid.wall(5);
        due("the way that it had", grid.distance(4, 6), 2);
        due("the way that it had not", grid.distance(6, 4), -2);
    }

    private static void wallAllCells() {
        AgentGrid grid = put(put(put(new AgentGrid(), 0, 0, 11), 1, 1, 1), 2, 11, 0);
        for (int cell = 0; cell < 12; cell++) {
            due("wall " + cell, grid.wall(cell), 1);
        }
        for (int cell = 0; cell < 12; cell++) {
            due("distance on the spot", grid.distance(cell, cell), -1);
        }
        for (int team = 1; team <= 7; team++) {
            due("arrangements " + team, grid.arrangements(team), -1);
            due("turnRound " + team, grid.turnRound(team), -1);
        }
        for (int cell = 0; cell < 12; cell++) {
            due("open " + cell, grid.wall(cell), 0);
        }
        due("the walkers are where they were", grid.fastest(1), 5);
        due("all is open", grid.arrangements(7), 1320);
    }

    private static void wallUnderWalkers() {
        AgentGrid grid = put(new AgentGrid(), 0, 0, 3);
        due("wall on the place", grid.wall(0), 1);
        due("wall on the goal", grid.wall(3), 1);
        due("not ready", grid.fastest(1), -1);
        due("open the goal", grid.wall(3), 0);
        due("still not ready", grid.fastest(1), -1);
        due("open the place", grid.wall(0), 0);
        duePlan("place and goal are kept", grid, 1, new int[][] {{0}, {1}, {2}, {3}});
    }

    // ---- Promise 3

    private static void waysNoCell() {
        for (int cell : NO_CELLS) {
            dueUnchanged("ways " + cell + " 0", BUSY, grid -> grid.ways(cell, 0), -1);
            dueUnchanged("ways " + cell + " 15", LONE, grid -> grid.ways(cell, 15), -1);
        }
    }

    private static void waysNoWays() {
        for (int ways : NO_WAYS) {
            for (int cell : new int[] {0, 5, 10, 11}) {
                dueUnchanged("ways " + cell + " " + ways, BUSY, grid -> grid.ways(cell, ways), -2);
            }
        }
    }

    private static void waysNoCellFirst() {
        for (int cell : NO_CELLS) {
            for (int ways : NO_WAYS) {
                due("ways " + cell + " " + ways, new AgentGrid().ways(cell, ways), -1);
            }
        }
    }

    private static void waysHad() {
        for (int cell = 0; cell < 12; cell++) {
            AgentGrid grid = new AgentGrid();
            int had = 15;
            for (int ways : new int[] {0, 15, 15, 1, 2, 4, 8, 0, 0, 7, 14}) {
                due("ways " + cell + " " + ways, grid.ways(cell, ways), had);
                had = ways;
            }
            for (int other = 0; other < 12; other++) {
                due("ways of " + other, grid.ways(other, 15), other == cell ? had : 15);
            }
        }
    }

    private static void waysOfAWall() {
        for (int cell = 0; cell < 12; cell++) {
            AgentGrid grid = walled(cell);
            due("ways of the wall " + cell, grid.ways(cell, 0), 15);
            due("ways of the wall " + cell + " again", grid.ways(cell, 9), 0);
            due("it is a wall still", grid.distance(cell, cell), -1);
            due("no ways of a wall", grid.ways(cell, 16), -2);
            due("open", grid.wall(cell), 0);
            due("ways set while it was a wall", grid.ways(cell, 15), 9);
        }
        AgentGrid grid = onlyOpen(4, 6);
        due("ways 5", grid.ways(5, 8), 15);
        due("no step through it for all that", grid.distance(6, 4), -2);
        due("open 5", grid.wall(5), 0);
        due("along its way", grid.distance(6, 4), 2);
        due("against it", grid.distance(4, 6), -2);
    }

    // ---- Promise 4

    private static void setNoWalker() {
        for (int walker : NO_WALKERS) {
            dueUnchanged("set " + walker, BUSY, grid -> grid.set(walker, 1, 2), -1);
            dueUnchanged("set " + walker, LONE, grid -> grid.set(walker, 0, 0), -1);
            due("set " + walker + " on no cells", busy().set(walker, -1, 12), -1);
        }
    }

    private static void setNoCell() {
        for (int cell : NO_CELLS) {
            for (int walker = 0; walker < 3; walker++) {
                int w = walker;
                dueUnchanged("set " + w + " on " + cell, BUSY, grid -> grid.set(w, cell, 1), -2);
                dueUnchanged("set " + w + " to " + cell, BUSY, grid -> grid.set(w, 1, cell), -2);
                dueUnchanged("set " + w + " on and to " + cell, BUSY, grid -> grid.set(w, cell, cell), -2);
                dueUnchanged("set the lone " + w + " to " + cell, LONE, grid -> grid.set(w, 0, cell), -2);
                dueUnchanged("set the lone " + w + " on " + cell, LONE, grid -> grid.set(w, cell, 0), -2);
            }
        }
    }

    private static void setEveryCell() {
        for (int walker = 0; walker < 3; walker++) {
            for (int place = 0; place < 12; place++) {
                AgentGrid grid = new AgentGrid();
                for (int goal = 0; goal < 12; goal++) {
                    put(grid, walker, place, goal);
                    int length = stepsBetween(place, goal);
                    due("fastest", grid.fastest(1 << walker), length);
                    due("place", grid.cellAt(1 << walker, walker, 0), place);
                    due("goal", grid.cellAt(1 << walker, walker, length), goal);
                }
            }
        }
    }

    private static void setAgain() {
        for (int walker = 0; walker < 3; walker++) {
            AgentGrid grid = busy();
            put(grid, walker, 11, 10);
            duePlan("set again", grid, 1 << walker, new int[][] {{11}, {10}});
            put(grid, walker, 11, 7);
            duePlan("another goal", grid, 1 << walker, new int[][] {{11}, {7}});
            put(grid, walker, 6, 7);
            duePlan("another place", grid, 1 << walker, new int[][] {{6}, {7}});
            put(grid, walker, 6, 7);
            duePlan("the same", grid, 1 << walker, new int[][] {{6}, {7}});
            int[] places = {0, 3, 9};
            int[] goals = {3, 0, 6};
            for (int other = 0; other < 3; other++) {
                if (other != walker) {
                    int length = grid.fastest(1 << other);
                    due("place of " + other, grid.cellAt(1 << other, other, 0), places[other]);
                    due("goal of " + other, grid.cellAt(1 << other, other, length), goals[other]);
                }
            }
        }
    }

    private static void setAnywhere() {
        AgentGrid grid = walled(5);
        due("on a wall", grid.set(0, 5, 4), 1);
        due("to a wall", grid.set(1, 4, 5), 1);
        due("on another's place, to another's goal", grid.set(2, 4, 5), 1);
        due("open", grid.wall(5), 0);
        due("0 is set", grid.fastest(1), 1);
        due("1 is set", grid.fastest(2), 1);
        due("2 is set", grid.fastest(4), 1);
        due("1 and 2 are the same", grid.fastest(6), -1);
        due("0 and 1 are ready", grid.fastest(3), 3);
    }

    // ---- Promise 5

    private static void turnRoundRefused() {
        for (int team : NO_TEAMS) {
            dueUnchanged("turnRound " + team, BUSY, grid -> grid.turnRound(team), -1);
        }
        for (int team = 1; team <= 7; team++) {
            int asked = team;
            if (team != 2) {
                dueUnchanged("turnRound " + team, LONE, grid -> grid.turnRound(asked), -1);
            }
        }
        // The first ones could be turned, the last one can't: then none is.
        Supplier<AgentGrid> lastOnWall = () -> put(put(put(walled(5), 0, 0, 3), 1, 8, 9), 2, 5, 11);
        Supplier<AgentGrid> lastSamePlace = () -> put(put(put(walled(5), 0, 0, 3), 1, 8, 9), 2, 0, 11);
        Supplier<AgentGrid> lastSameGoal = () -> put(put(put(walled(5), 0, 0, 3), 1, 8, 9), 2, 11, 3);
        for (int team : new int[] {5, 7}) {
            dueUnchanged("last on a wall", lastOnWall, grid -> grid.turnRound(team), -1);
            dueUnchanged("last on the same place", lastSamePlace, grid -> grid.turnRound(team), -1);
            dueUnchanged("last to the same goal", lastSameGoal, grid -> grid.turnRound(team), -1);
        }
    }

    private static void turnRoundHowMany() {
        int[] places = {0, 3, 9};
        int[] goals = {3, 0, 6};
        for (int team = 1; team <= 7; team++) {
            AgentGrid grid = busy();
            due("turnRound " + team, grid.turnRound(team), Integer.bitCount(team));
            for (int walker = 0; walker < 3; walker++) {
                boolean turned = (team >> walker & 1) == 1;
                int alone = 1 << walker;
                int length = grid.fastest(alone);
                due("place of " + walker, grid.cellAt(alone, walker, 0), turned ? goals[walker] : places[walker]);
                due("goal of " + walker, grid.cellAt(alone, walker, length), turned ? places[walker] : goals[walker]);
            }
            dueUnchanged("twice is as never", BUSY, AgentGridEdges.twice(team), Integer.bitCount(team));
        }
    }

    private static Call twice(int team) {
        return grid -> {
            grid.turnRound(team);
            return grid.turnRound(team);
        };
    }

    private static void turnRoundEdges() {
        AgentGrid chain = put(put(put(new AgentGrid(), 0, 0, 1), 1, 1, 2), 2, 2, 3);
        due("one's goal is another's place", chain.turnRound(7), 3);
        duePlan("back in one turn", chain, 7, new int[][] {{1, 2, 3}, {0, 1, 2}});
        AgentGrid still = put(new AgentGrid(), 0, 7, 7);
        due("place and goal are one", still.turnRound(1), 1);
        duePlan("as before", still, 1, new int[][] {{7}});
        AgentGrid hopeless = parted();
        due("no plan", hopeless.fastest(4), -2);
        due("but ready", hopeless.turnRound(4), 1);
        due("no plan back", hopeless.fastest(4), -2);
        due("a gap", hopeless.wall(5), 0);
        duePlan("from the goal to the place", hopeless, 4, new int[][] {{1}, {5}, {9}, {8}});
        AgentGrid oneWay = put(snake(), 0, 0, 11);
        due("there", oneWay.fastest(1), 11);
        due("turn", oneWay.turnRound(1), 1);
        due("but not back", oneWay.fastest(1), -2);
        due("turned it is all the same", oneWay.turnRound(1), 1);
        due("there again", oneWay.fastest(1), 11);
        AgentGrid meets = put(put(new AgentGrid(), 0, 0, 5), 1, 5, 6);
        due("only 0 turns", meets.turnRound(1), 1);
        due("now both are on one cell", meets.fastest(3), -1);
        due("so both can't turn", meets.turnRound(3), -1);
        due("0 can", meets.turnRound(1), 1);
        due("and both are ready again", meets.fastest(3), 2);
    }

    // ---- Promise 6

    private static void distanceNoCell() {
        for (int cell : NO_CELLS) {
            dueUnchanged("distance from " + cell, BUSY, grid -> grid.distance(cell, 0), -1);
            dueUnchanged("distance to " + cell, BUSY, grid -> grid.distance(11, cell), -1);
            due("distance from and to " + cell, busy().distance(cell, cell), -1);
            due("distance from a wall to " + cell, busy().distance(5, cell), -1);
            due("distance from " + cell + " to a wall", busy().distance(cell, 5), -1);
        }
    }

    private static void distanceWall() {
        for (int wall = 0; wall < 12; wall++) {
            AgentGrid grid = walled(wall);
            for (int cell = 0; cell < 12; cell++) {
                due("distance from the wall " + wall + " to " + cell, grid.distance(wall, cell), -1);
                due("distance from " + cell + " to the wall " + wall, grid.distance(cell, wall), -1);
            }
        }
        AgentGrid two = walled(0, 1);
        due("from wall to wall", two.distance(0, 1), -1);
        due("open one", two.wall(0), 0);
        due("from the open one", two.distance(0, 1), -1);
        due("open both", two.wall(1), 0);
        due("from one to the other", two.distance(0, 1), 1);
    }

    private static void distanceNone() {
        AgentGrid grid = walled(1, 4);
        for (int cell : new int[] {2, 3, 5, 6, 7, 8, 9, 10, 11}) {
            due("out of the corner to " + cell, grid.distance(0, cell), -2);
            due("into the corner from " + cell, grid.distance(cell, 0), -2);
        }
        due("in the corner", grid.distance(0, 0), 0);
        AgentGrid oneWay = new AgentGrid();
        oneWay.ways(0, 0);
        for (int cell = 1; cell < 12; cell++) {
            due("no way out to " + cell, oneWay.distance(0, cell), -2);
            due("but in from " + cell, oneWay.distance(cell, 0), stepsBetween(cell, 0));
        }
        due("no step is needed to stay", oneWay.distance(0, 0), 0);
    }

    private static void distanceLongest() {
        AgentGrid grid = snake();
        int[] path = {0, 1, 2, 3, 7, 6, 5, 4, 8, 9, 10, 11};
        for (int i = 0; i < 12; i++) {
            for (int j = 0; j < 12; j++) {
                due("from " + path[i] + " to " + path[j], grid.distance(path[i], path[j]), j >= i ? j - i : -2);
            }
        }
    }

    private static void distanceAlone() {
        AgentGrid grid = put(put(put(onlyOpen(0, 1, 2, 3), 0, 1, 1), 1, 2, 2), 2, 3, 0);
        due("walkers in between and on the end", grid.distance(0, 3), 3);
        due("and back", grid.distance(3, 0), 3);
    }

    // ---- Promises 7 to 9

    private static void fastestNone() {
        dueNone("fastest", AgentGrid::fastest, 3);
    }

    private static void easiestNone() {
        dueNone("easiest", AgentGrid::easiest, 8);
    }

    private static void dueNone(String name, TeamCall call, int withRoom) {
        AgentGrid grid = parted();
        int[] want = {0, 3, 3, -2, -2, -2, -2, -2};
        for (int team = 1; team <= 7; team++) {
            due(name + " " + team, call.on(grid, team), want[team]);
        }
        AgentGrid stuck = put(new AgentGrid(), 0, 0, 1);
        due(name + ", a way", call.on(stuck, 1), 1);
        due("ways 0", stuck.ways(0, 0), 15);
        due(name + ", no way out", call.on(stuck, 1), -2);
        due("turnRound", stuck.turnRound(1), 1);
        due(name + ", a way in", call.on(stuck, 1), 1);
        AgentGrid full = put(put(put(onlyOpen(0, 1, 2), 0, 0, 1), 1, 1, 2), 2, 2, 0);
        due(name + ", no room", call.on(full, 7), -2);
        due("a cell more", full.wall(5), 0);
        due(name + ", too little room", call.on(full, 7), -2);
        due("and one more", full.wall(4), 0);
        due(name + ", room", call.on(full, 7), withRoom);
    }

    private static void longestPlans() {
        // An H: 1 and 2 go from its right ends to its left ones, and 0, between them, has to let both pass.
        AgentGrid shunt = put(put(put(walled(1, 2, 9, 10), 0, 6, 5), 1, 3, 0), 2, 11, 8);
        due("fastest", shunt.fastest(7), 13);
        due("easiest", shunt.easiest(7), 21);
        due("swarm", shunt.swarm(7), 5);
        due("the end is the goal of 0", shunt.cellAt(7, 0, 13), 5);
        due("the end is the goal of 1", shunt.cellAt(7, 1, 13), 0);
        due("the end is the goal of 2", shunt.cellAt(7, 2, 13), 8);
        due("nothing beyond it", shunt.cellAt(7, 0, 14), -4);
        dueLawful("H", shunt, 7, 13);

        AgentGrid maze = walled(7, 11);
        int[] ways = {6, 11, 4, 15, 5, 8, 7, 13, 3, 14, 10, 9};
        for (int cell = 0; cell < 12; cell++) {
            maze.ways(cell, ways[cell]);
        }
        put(put(put(maze, 0, 6, 9), 1, 2, 0), 2, 3, 1);
        due("fastest in a maze", maze.fastest(7), 18);
        due("easiest in a maze", maze.easiest(7), 40);
        due("swarm in a maze", maze.swarm(7), 6);
        due("arrangements in a maze", maze.arrangements(7), 392);
        due("needed in a maze", maze.needed(7), 3);
        dueLawful("maze", maze, 7, 18);

        AgentGrid way = put(snake(), 2, 0, 11);
        due("fastest on the longest way", way.fastest(4), 11);
        due("easiest on the longest way", way.easiest(4), 11);
        due("swarm on the longest way", way.swarm(4), 11);
        due("needed on the longest way", way.needed(4), 10);
    }

    private static void easiestHoweverLong() {
        AgentGrid grid = put(put(put(new AgentGrid(), 0, 0, 3), 1, 1, 1), 2, 2, 2);
        due("the fastest has two make room", grid.fastest(7), 3);
        due("the easiest goes round, in five turns", grid.easiest(7), 5);
        AgentGrid wait = put(put(onlyOpen(0, 1, 2, 3, 5), 0, 0, 3), 1, 3, 5);
        due("one waits for the other", wait.fastest(3), 5);
        due("waiting is no effort", wait.easiest(3), 6);
    }

    private static void swarmNone() {
        AgentGrid grid = parted();
        due("two goals, two walkers", grid.swarm(3), 0);
        due("a goal on the other side", grid.swarm(4), -2);
        due("a walker on the other side", grid.swarm(5), -2);
        due("three goals, two walkers that can come there", grid.swarm(7), -2);
        AgentGrid two = put(put(onlyOpen(0, 1, 2, 8, 9), 0, 0, 1), 1, 8, 2);
        due("one walker is on one goal only", two.swarm(3), -2);
        due("alone", two.swarm(1), 1);
        AgentGrid stuck = put(put(onlyOpen(0, 1, 2), 0, 0, 1), 1, 2, 0);
        due("both one on", stuck.swarm(3), 1);
        due("though there is no plan", stuck.fastest(3), -2);
        stuck.ways(2, 0);
        due("one can't, and then nobody is on 1", stuck.swarm(3), -2);
        due("ready and no plan", stuck.swarm(2), -2);
    }

    private static void swarmAnyone() {
        AgentGrid grid = put(put(put(new AgentGrid(), 0, 0, 5), 1, 5, 11), 2, 11, 0);
        due("all goals taken at the beginning", grid.swarm(7), 0);
        due("two of three", grid.swarm(3), 3);
        due("the other two", grid.swarm(6), 2);
        due("one alone has to come to its own", grid.swarm(1), 2);
        due("as another's walker does not count", grid.swarm(4), 5);
        AgentGrid same = put(put(new AgentGrid(), 0, 0, 3), 1, 3, 0);
        due("they are there", same.swarm(3), 0);
        due("but not each on its own", same.fastest(3), 5);
    }

    // ---- Promise 10

    private static void arrangementsBeginning() {
        for (int[] row : TRIPLES) {
            AgentGrid grid = put(put(put(onlyOpen(0, 2, 8), row[0], 0, 2), row[1], 2, 8), row[2], 8, 0);
            for (int team = 1; team <= 7; team++) {
                due("nobody can move: " + team, grid.arrangements(team), 1);
            }
        }
        AgentGrid oneWay = put(onlyOpen(0, 1), 0, 0, 1);
        oneWay.ways(1, 0);
        due("away and never back", oneWay.arrangements(1), 2);
        due("turned", oneWay.turnRound(1), 1);
        due("there for good", oneWay.arrangements(1), 1);
    }

    private static void arrangementsMost() {
        AgentGrid grid = put(put(put(new AgentGrid(), 0, 0, 1), 1, 5, 2), 2, 11, 3);
        int[] want = {0, 12, 12, 132, 12, 132, 132, 1320};
        for (int team = 1; team <= 7; team++) {
            due("everywhere: " + team, grid.arrangements(team), want[team]);
        }
    }

    private static void arrangementsWhoIsWhere() {
        AgentGrid star = put(put(put(onlyOpen(0, 1, 2, 5), 0, 0, 0), 1, 2, 2), 2, 5, 5);
        due("two on a star of four: all", star.arrangements(3), 12);
        // Whoever comes to the middle has only its own arm to go back to.
        due("three on a star of four: each keeps its arm", star.arrangements(7), 4);
        AgentGrid row = put(put(onlyOpen(0, 1, 2, 3), 0, 0, 0), 1, 1, 1);
        due("two in a row of four: their order is kept", row.arrangements(3), 6);
    }

    private static void arrangementsNoPlan() {
        AgentGrid grid = parted();
        int[] want = {0, 4, 4, 6, 4, 16, 16, 24};
        for (int team = 1; team <= 7; team++) {
            due("with or without a plan: " + team, grid.arrangements(team), want[team]);
        }
    }

    // ---- Promise 11

    private static void neededNotPlaceOrGoal() {
        AgentGrid grid = put(put(new AgentGrid(), 0, 0, 2), 1, 1, 5);
        due("alone, 1 is needed", grid.needed(1), 1);
        due("the place of one in the team", grid.needed(3), 0);
        put(grid, 1, 5, 1);
        due("the goal of one in the team", grid.needed(3), 0);
        due("the goal of one outside it", grid.needed(1), 1);
        put(grid, 1, 1, 1);
        due("the place of one outside it", grid.needed(1), 1);
        AgentGrid two = put(onlyOpen(0, 1), 0, 0, 1);
        due("no cell but place and goal", two.needed(1), 0);
        AgentGrid back = put(onlyOpen(0), 0, 0, 0);
        due("no cell but one", back.needed(1), 0);
    }

    private static void neededOpenCells() {
        AgentGrid row = put(onlyOpen(0, 1, 2, 3), 0, 0, 3);
        due("walls are not needed", row.needed(1), 2);
        AgentGrid round = put(walled(1), 0, 0, 2);
        due("around a wall", round.needed(1), 3);
        due("the wall is one still", round.wall(1), 0);
        due("and then 1 is needed", round.needed(1), 1);
    }

    private static void neededEveryCell() {
        int[][] ends = {{1, 4}, {0, 2}, {1, 3}, {2, 7}, {0, 8}, {1, 6}, {5, 10}, {3, 11}, {4, 9}, {8, 10}, {6, 11}, {7, 10}};
        for (int cell = 0; cell < 12; cell++) {
            AgentGrid grid = put(onlyOpen(ends[cell][0], cell, ends[cell][1]), 1, ends[cell][0], ends[cell][1]);
            due("the only way leads over " + cell, grid.needed(2), 1);
            due("that is open still", grid.wall(cell), 1);
            due("and without it there is none", grid.needed(2), -2);
        }
    }

    private static void neededLength() {
        AgentGrid grid = put(new AgentGrid(), 0, 0, 2);
        due("a longer plan does not do", grid.needed(1), 1);
        put(grid, 0, 0, 5);
        due("another plan of the length does", grid.needed(1), 0);
        put(grid, 0, 0, 8);
        due("straight down", grid.needed(1), 1);
        put(grid, 0, 0, 3);
        due("straight on", grid.needed(1), 2);
        AgentGrid bay = put(put(onlyOpen(0, 1, 2, 3, 5), 0, 0, 3), 1, 3, 0);
        due("all the rest: the row and its bay", bay.needed(3), 3);
        due("the bay by one is not", bay.needed(1), 2);
    }

    private static void neededNone() {
        AgentGrid grid = parted();
        int[] want = {0, 2, 2, -2, -2, -2, -2, -2};
        for (int team = 1; team <= 7; team++) {
            due("needed " + team, grid.needed(team), want[team]);
        }
    }

    // ---- Promise 12

    private static void cellAtNoTeam() {
        for (int team : NO_TEAMS) {
            for (int walker : new int[] {-1, 0, 1, 2, 3}) {
                for (int t : new int[] {-1, 0, 99}) {
                    due("cellAt " + team + " " + walker + " " + t, busy().cellAt(team, walker, t), -1);
                }
            }
        }
    }

    private static void cellAtNotInTeam() {
        for (int team = 1; team <= 7; team++) {
            int asked = team;
            for (int walker : NO_WALKERS) {
                dueUnchanged("cellAt " + team + " " + walker, BUSY, grid -> grid.cellAt(asked, walker, 0), -3);
                due("cellAt " + team + " " + walker + " and no t", busy().cellAt(team, walker, -1), -3);
            }
            for (int walker = 0; walker < 3; walker++) {
                int w = walker;
                if ((team >> walker & 1) == 0) {
                    dueUnchanged("cellAt " + team + " " + w, BUSY, grid -> grid.cellAt(asked, w, 0), -3);
                    due("cellAt " + team + " " + walker + " and no t", busy().cellAt(team, walker, 99), -3);
                }
            }
        }
    }

    private static void cellAtNoTurn() {
        int[] places = {0, 3, 9};
        int[] goals = {3, 0, 6};
        for (int team = 1; team <= 7; team++) {
            int asked = team;
            int length = busy().fastest(team);
            for (int walker : walkersOf(team)) {
                for (int t : new int[] {-1, length + 1, length + 2, Integer.MIN_VALUE, Integer.MAX_VALUE}) {
                    dueUnchanged("cellAt " + team + " " + walker + " " + t, BUSY,
                            grid -> grid.cellAt(asked, walker, t), -4);
                }
                due("after no turn", busy().cellAt(team, walker, 0), places[walker]);
                due("after the last turn", busy().cellAt(team, walker, length), goals[walker]);
            }
            dueLawful("in between", busy(), team, length);
        }
    }

    private static void cellAtNoPlan() {
        for (int team = 3; team <= 7; team++) {
            for (int walker : new int[] {-1, 0, 1, 2, 3, 32}) {
                for (int t : new int[] {-1, 0, 1, 99}) {
                    due("cellAt " + team + " " + walker + " " + t, parted().cellAt(team, walker, t), -2);
                }
            }
        }
    }

    private static void cellAtLesserCell() {
        AgentGrid grid = put(new AgentGrid(), 0, 0, 5);
        duePlan("right before down", grid, 1, new int[][] {{0}, {1}, {5}});
        put(grid, 0, 11, 0);
        duePlan("up before left", grid, 1, new int[][] {{11}, {7}, {3}, {2}, {1}, {0}});
        put(grid, 0, 2, 5);
        duePlan("left before down", grid, 1, new int[][] {{2}, {1}, {5}});
        put(grid, 0, 8, 2);
        duePlan("up before right", grid, 1, new int[][] {{8}, {4}, {0}, {1}, {2}});
        put(grid, 0, 0, 11);
        due("a longer plan over lesser cells is none", grid.cellAt(1, 0, 1), 1);
        grid.ways(1, 8);
        due("nor a dead end", grid.cellAt(1, 0, 1), 4);
    }

    private static void cellAtOrderOfWalkers() {
        // Both want the lesser cell first; the lower walker gets it, and the other one has to yield.
        for (int i = 0; i < 3; i++) {
            int a = PAIRS[i][0];
            int b = PAIRS[i][1];
            AgentGrid grid = put(put(new AgentGrid(), a, 0, 6), b, 2, 4);
            duePlan(a + " before " + b, grid, teamOf(a, b), new int[][] {{0, 2}, {1, 6}, {2, 5}, {6, 4}});
            put(put(grid, a, 2, 4), b, 0, 6);
            duePlan(a + " before " + b + ", from the other side", grid, teamOf(a, b),
                    new int[][] {{2, 0}, {1, 4}, {0, 5}, {4, 6}});
        }
    }

    private static void cellAtTurnByTurn() {
        // Walker by walker the lower one would go 7, 3, 2; but after the first turn 3 is the other one's.
        for (int i = 0; i < 3; i++) {
            int a = PAIRS[i][0];
            int b = PAIRS[i][1];
            AgentGrid grid = put(put(new AgentGrid(), a, 11, 2), b, 2, 11);
            duePlan(a + " and " + b, grid, teamOf(a, b), new int[][] {{11, 2}, {7, 3}, {6, 7}, {2, 11}});
        }
        AgentGrid three = put(put(put(new AgentGrid(), 0, 4, 4), 1, 11, 9), 2, 5, 5);
        duePlan("who has time goes to a lesser cell", three, 7, new int[][] {{4, 11, 5}, {0, 10, 1}, {4, 9, 5}});
        put(put(put(three, 0, 1, 1), 1, 0, 0), 2, 11, 9);
        duePlan("the lower one drives the next away", three, 7, new int[][] {{1, 0, 11}, {0, 4, 10}, {1, 0, 9}});
    }

    // ---- Promise 13

    private static void outsidersPlayNoPart() {
        int[] places = {0, 3, 9};
        int[] goals = {3, 0, 6};
        // In the way of the others; on their places and goals; on a wall.
        int[][] outsiders = {{1, 7}, {2, 2}, {0, 3}, {3, 0}, {9, 6}, {4, 8}, {5, 5}, {5, 0}, {0, 5}};
        for (int team = 1; team < 7; team++) {
            AgentGrid alone = walled(5);
            for (int walker : walkersOf(team)) {
                put(alone, walker, places[walker], goals[walker]);
            }
            String want = answers(alone, team);
            for (int[] outsider : outsiders) {
                AgentGrid grid = walled(5);
                for (int walker = 0; walker < 3; walker++) {
                    if ((team >> walker & 1) == 1) {
                        put(grid, walker, places[walker], goals[walker]);
                    } else {
                        put(grid, walker, outsider[0], outsider[1]);
                    }
                }
                String got = answers(grid, team);
                if (!got.equals(want)) {
                    fault("team " + team + " with others from " + outsider[0] + " to " + outsider[1]
                            + " answers " + got + ", due is " + want);
                }
                due("turnRound " + team, grid.turnRound(team), Integer.bitCount(team));
                due("the others' wall opens", grid.wall(5), 0);
                for (int walker = 0; walker < 3; walker++) {
                    if ((team >> walker & 1) == 0) {
                        int length = grid.fastest(1 << walker);
                        due("place of one outside", grid.cellAt(1 << walker, walker, 0), outsider[0]);
                        due("goal of one outside", grid.cellAt(1 << walker, walker, length), outsider[1]);
                    }
                }
            }
        }
    }

    private static String answers(AgentGrid grid, int team) {
        StringBuilder seen = new StringBuilder();
        for (int i = 0; i < ASKING.length; i++) {
            seen.append(' ').append(ASKING_NAMES[i]).append(' ').append(ASKING[i].on(grid, team));
        }
        for (int t = 0; t <= grid.fastest(team); t++) {
            for (int walker = 0; walker < 3; walker++) {
                seen.append(' ').append(grid.cellAt(team, walker, t));
            }
        }
        return seen.toString();
    }

    private static void test(String itsSentence, Runnable itsTest) {
        sentence = itsSentence;
        itsTest.run();
    }

    private static void terms() {
        test("What it is: at most 512 calls after it has been made", AgentGridEdges::manyCalls);
        test("Terms: two cells are NEXT to each other if", AgentGridEdges::nextCells);
        test("Terms: in one row and neighbouring columns, or in one column and neighbouring rows", AgentGridEdges::noWrapAround);
        test("Terms: the DIRECTION from a cell to one next to it", AgentGridEdges::directions);
        test("Terms: the number that has the binary digit d for direction d", AgentGridEdges::waysAsNumber);
        test("Terms: one can STEP from an open cell to an open cell", AgentGridEdges::stepNeedsOpenCells);
        test("Terms: if the direction to it is among the first one's ways out", AgentGridEdges::stepNeedsFirstOnesWays);
        test("Terms: READY if all its walkers are set", AgentGridEdges::readyAllSet);
        test("Terms: READY if no two have the same place", AgentGridEdges::readyPlaces);
        test("Terms: READY if no two have the same goal", AgentGridEdges::readyGoals);
        test("Terms: READY if all their places and goals are open cells", AgentGridEdges::readyOpenCells);
        test("Terms: READY, and nothing else is asked", AgentGridEdges::readyAllTheSame);
        test("Terms: TURN: no two are on one cell", AgentGridEdges::turnOneCell);
        test("Terms: TURN: no two have changed places with one another", AgentGridEdges::turnChangedPlaces);
        test("Terms: TURN: one may step to a cell that another one leaves for a third", AgentGridEdges::turnLeavesForAThird);
        test("Terms: PLAN: a row of turns, also of none", AgentGridEdges::emptyPlan);
        test("Terms: PLAN: after which each is on its goal", AgentGridEdges::endsOnGoals);
        test("Terms: EFFORT: staying is none", AgentGridEdges::stayingIsNone);
        test("Terms: a refused call changes nothing", AgentGridEdges::refusedChangesNothing);
        test("Terms: the tests of a call are made in the order in which they are named", AgentGridEdges::refusedInOrder);
        test("Terms: the calls below change nothing", AgentGridEdges::askingChangesNothing);
        test("Terms: team is not 1 to 7, or not ready: -1", AgentGridEdges::noTeam);
    }

    private static void changingCalls() {
        test("1: all cells are open", AgentGridEdges::newCellsOpen);
        test("1: with all four ways out", AgentGridEdges::newAllWays);
        test("1: no walker is set", AgentGridEdges::newNoWalker);
        test("1: a new object, whatever others there are", AgentGridEdges::newApart);
        test("2: cell is not 0 to 11: -1", AgentGridEdges::wallNoCell);
        test("2: answers 1 if it is a wall now, 0 if it is open", AgentGridEdges::wallToAndFro);
        test("2: with the ways out that it had before", AgentGridEdges::wallKeepsWays);
        test("2: makes a cell a wall, also the last open one", AgentGridEdges::wallAllCells);
        test("2: makes a cell a wall, also a place or goal", AgentGridEdges::wallUnderWalkers);
        test("3: cell is not 0 to 11: -1", AgentGridEdges::waysNoCell);
        test("3: ways is not 0 to 15: -2", AgentGridEdges::waysNoWays);
        test("3: -1 is tested before -2", AgentGridEdges::waysNoCellFirst);
        test("3: answers the ways out that it had", AgentGridEdges::waysHad);
        test("3: also a wall's", AgentGridEdges::waysOfAWall);
        test("4: walker is not 0 to 2: -1", AgentGridEdges::setNoWalker);
        test("4: place or goal is not 0 to 11: -2", AgentGridEdges::setNoCell);
        test("4: else answers 1, on any cell to any cell", AgentGridEdges::setEveryCell);
        test("4: also one that is set", AgentGridEdges::setAgain);
        test("4: else answers 1, also if no team is ready then", AgentGridEdges::setAnywhere);
        test("5: team is not 1 to 7, or not ready: -1", AgentGridEdges::turnRoundRefused);
        test("5: answers how many they are", AgentGridEdges::turnRoundHowMany);
        test("5: put on their goals, and their goals become their places of before", AgentGridEdges::turnRoundEdges);
    }

    private static void askingCalls() {
        test("6: a cell is not 0 to 11: -1", AgentGridEdges::distanceNoCell);
        test("6: or is a wall: -1", AgentGridEdges::distanceWall);
        test("6: one can't come there: -2", AgentGridEdges::distanceNone);
        test("6: the least number of steps, up to the longest way", AgentGridEdges::distanceLongest);
        test("6: for a walker alone", AgentGridEdges::distanceAlone);
        test("7: -2 if there is no plan", AgentGridEdges::fastestNone);
        test("8: -2 if there is none", AgentGridEdges::easiestNone);
        test("7, 8, 9: the least, also if it is long", AgentGridEdges::longestPlans);
        test("8: however long", AgentGridEdges::easiestHoweverLong);
        test("9: -2 if that can't be reached", AgentGridEdges::swarmNone);
        test("9: no matter which one", AgentGridEdges::swarmAnyone);
        test("10: that at the beginning is one of them", AgentGridEdges::arrangementsBeginning);
        test("10: in how many different ways, up to all", AgentGridEdges::arrangementsMost);
        test("10: which one is where matters", AgentGridEdges::arrangementsWhoIsWhere);
        test("10: also without a plan", AgentGridEdges::arrangementsNoPlan);
        test("11: that are no walker's place or goal in the team", AgentGridEdges::neededNotPlaceOrGoal);
        test("11: how many open cells", AgentGridEdges::neededOpenCells);
        test("11: if the cell, any of the twelve, were a wall", AgentGridEdges::neededEveryCell);
        test("11: no plan of the length fastest(team)", AgentGridEdges::neededLength);
        test("11: -2 if there is no plan", AgentGridEdges::neededNone);
        test("12: team is not 1 to 7, or not ready: -1", AgentGridEdges::cellAtNoTeam);
        test("12: walker is not in the team: -3", AgentGridEdges::cellAtNotInTeam);
        test("12: t is not 0 to fastest(team): -4", AgentGridEdges::cellAtNoTurn);
        test("12: no plan: -2 (tested before these two)", AgentGridEdges::cellAtNoPlan);
        test("12: the lesser cell first", AgentGridEdges::cellAtLesserCell);
        test("12: in the order of the walkers", AgentGridEdges::cellAtOrderOfWalkers);
        test("12: after the first turn, then after the second, and so on", AgentGridEdges::cellAtTurnByTurn);
        test("13: walkers that are not in the team play no part in its calls", AgentGridEdges::outsidersPlayNoPart);
    }

    public static void main(String[] args) {
        terms();
        changingCalls();
        askingCalls();
        System.out.println(wrong == 0 ? "all boundary cases hold" : wrong + " faults at boundary cases");
        if (wrong != 0) {
            System.exit(1);
        }
    }
}
