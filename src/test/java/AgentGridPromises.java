// Each promise of the document on its own: ordinary calls, the edges it names, wrong arguments.
public final class AgentGridPromises {
    private static final int[] NO_CELLS = {-1, 12, 13, 100, Integer.MIN_VALUE, Integer.MAX_VALUE};
    private static final int[] NO_WALKERS = {-1, 3, 4, 32, 33, Integer.MIN_VALUE, Integer.MAX_VALUE};
    private static final int[] NO_TEAMS = {0, -1, 8, 9, 15, Integer.MIN_VALUE, Integer.MAX_VALUE};

    private static int wrong = 0;

    private static void due(String call, int got, int want) {
        if (got != want) {
            wrong++;
            System.out.println(call + " answered " + got + ", due is " + want);
        }
    }

    private static AgentGrid grid(int... walls) {
        AgentGrid grid = new AgentGrid();
        for (int cell : walls) {
            due("wall " + cell, grid.wall(cell), 1);
        }
        return grid;
    }

    private static void put(AgentGrid grid, int walker, int place, int goal) {
        due("set " + walker + " " + place + " " + goal, grid.set(walker, place, goal), 1);
    }

    private static void dueByAll(String when, AgentGrid grid, int team, int want) {
        due(when + ": fastest " + team, grid.fastest(team), want);
        due(when + ": easiest " + team, grid.easiest(team), want);
        due(when + ": swarm " + team, grid.swarm(team), want);
        due(when + ": arrangements " + team, grid.arrangements(team), want);
        due(when + ": needed " + team, grid.needed(team), want);
        due(when + ": cellAt " + team, grid.cellAt(team, 0, 0), want);
        due(when + ": cellAt of no walker " + team, grid.cellAt(team, 5, -1), want);
    }

    private static void dueNotReady(String when, AgentGrid grid, int team) {
        dueByAll(when, grid, team, -1);
        due(when + ": turnRound " + team, grid.turnRound(team), -1);
    }

    // The steps of a plan told cell by cell: after turn t walker w is on cells[t][w].
    private static void duePlan(String when, AgentGrid grid, int team, int[] walkers, int[][] cells) {
        due(when + ": length", grid.fastest(team), cells.length - 1);
        for (int t = 0; t < cells.length; t++) {
            for (int i = 0; i < walkers.length; i++) {
                due(when + ": walker " + walkers[i] + " after " + t,
                        grid.cellAt(team, walkers[i], t), cells[t][i]);
            }
        }
    }

    private static void newObject() {
        AgentGrid grid = new AgentGrid();
        for (int team = 1; team <= 7; team++) {
            dueNotReady("new", grid, team);
        }
        for (int from = 0; from < 12; from++) {
            for (int to = 0; to < 12; to++) {
                int columns = Math.abs(from % 4 - to % 4);
                int rows = Math.abs(from / 4 - to / 4);
                due("new: distance " + from + " " + to, grid.distance(from, to), columns + rows);
            }
        }
        for (int cell = 0; cell < 12; cell++) {
            due("new: ways " + cell, grid.ways(cell, 15), 15);
            due("new: wall " + cell, grid.wall(cell), 1);
        }
    }

    private static void wall() {
        AgentGrid grid = new AgentGrid();
        for (int cell : NO_CELLS) {
            due("wall " + cell, grid.wall(cell), -1);
        }
        for (int cell = 0; cell < 12; cell++) {
            due("wall " + cell, grid.wall(cell), 1);
            due("wall " + cell + " again", grid.wall(cell), 0);
            due("wall " + cell + " once more", grid.wall(cell), 1);
        }
        due("distance with walls alone", grid.distance(5, 5), -1);
        due("wall 5", grid.wall(5), 0);
        due("wall 6", grid.wall(6), 0);
        due("distance of the open two", grid.distance(5, 6), 1);
        due("distance to a wall", grid.distance(5, 4), -1);

        AgentGrid kept = new AgentGrid();
        due("ways 5", kept.ways(5, 6), 15);
        due("wall 5", kept.wall(5), 1);
        due("wall 5", kept.wall(5), 0);
        due("ways kept, by a step", kept.distance(5, 4), 3);
        due("ways kept", kept.ways(5, 15), 6);
    }

    private static void ways() {
        AgentGrid grid = new AgentGrid();
        for (int cell : NO_CELLS) {
            due("ways of no cell " + cell, grid.ways(cell, 3), -1);
            due("ways of no cell, no ways " + cell, grid.ways(cell, 16), -1);
        }
        for (int bad : new int[] {-1, 16, 17, Integer.MIN_VALUE, Integer.MAX_VALUE}) {
            due("no ways " + bad, grid.ways(5, bad), -2);
        }
        due("refused changed nothing", grid.ways(5, 0), 15);
        due("no way out", grid.distance(5, 6), -2);
        due("but a way in", grid.distance(6, 5), 1);
        due("and one may stay", grid.distance(5, 5), 0);

        int[] next = {1, 6, 9, 4};
        for (int d = 0; d < 4; d++) {
            grid.ways(5, 1 << d);
            for (int e = 0; e < 4; e++) {
                boolean near = grid.distance(5, next[e]) == 1;
                due("direction " + d + " to " + next[e], near ? 1 : 0, d == e ? 1 : 0);
            }
        }
        due("ways answers the last", grid.ways(5, 15), 8);

        AgentGrid walled = grid(5);
        due("ways of a wall", walled.ways(5, 2), 15);
        due("ways of a wall again", walled.ways(5, 4), 2);
        walled.wall(5);
        due("set as a wall, holds when open", walled.distance(5, 6), 3);
        due("ways to the outside are kept too", walled.ways(0, 9), 15);
        due("ways to the outside are told", walled.ways(0, 15), 9);

        AgentGrid rows = new AgentGrid();
        due("row's end is not next to the row below", rows.distance(3, 4), 4);
        due("nor the other way", rows.distance(8, 7), 4);
    }

    private static void set() {
        AgentGrid grid = new AgentGrid();
        for (int walker : NO_WALKERS) {
            due("set no walker " + walker, grid.set(walker, 0, 0), -1);
            due("set no walker, no cell " + walker, grid.set(walker, 12, -1), -1);
        }
        put(grid, 0, 0, 3);
        put(grid, 2, 11, 11);
        for (int cell : NO_CELLS) {
            due("set no place " + cell, grid.set(0, cell, 5), -2);
            due("set no goal " + cell, grid.set(0, 5, cell), -2);
            due("set neither " + cell, grid.set(1, cell, cell), -2);
        }
        duePlan("refused changed nothing", grid, 1, new int[] {0}, new int[][] {{0}, {1}, {2}, {3}});
        due("a refused walker isn't set", grid.fastest(2), -1);
        put(grid, 0, 4, 5);
        duePlan("set again", grid, 1, new int[] {0}, new int[][] {{4}, {5}});
        put(grid, 1, 0, 0);
        due("place as goal", grid.fastest(2), 0);
    }

    private static void ready() {
        AgentGrid grid = new AgentGrid();
        put(grid, 0, 0, 3);
        put(grid, 1, 5, 6);
        for (int team : NO_TEAMS) {
            dueNotReady("no team", grid, team);
        }
        for (int team = 4; team <= 7; team++) {
            dueNotReady("walker 2 isn't set", grid, team);
        }
        due("both set", grid.turnRound(3), 2);
        due("and back", grid.turnRound(3), 2);

        put(grid, 2, 0, 9);
        dueNotReady("same place", grid, 5);
        dueNotReady("same place", grid, 7);
        due("another's place", grid.fastest(6) == -1 ? -1 : 0, 0);
        put(grid, 2, 9, 6);
        dueNotReady("same goal", grid, 6);
        dueNotReady("same goal", grid, 7);
        due("another's goal", grid.fastest(5) == -1 ? -1 : 0, 0);
        put(grid, 2, 6, 0);
        due("a place may be another's goal", grid.fastest(7) == -1 ? -1 : 0, 0);

        grid.wall(5);
        dueNotReady("place is a wall", grid, 2);
        dueNotReady("place is a wall", grid, 3);
        due("of a walker outside", grid.fastest(5), 5);
        grid.wall(5);
        grid.wall(6);
        dueNotReady("goal is a wall", grid, 2);
        grid.wall(6);
        due("open again", grid.fastest(2), 1);
        put(grid, 1, 5, 5);
        grid.wall(5);
        put(grid, 1, 5, 5);
        dueNotReady("set on a wall", grid, 2);
    }

    private static void turnRound() {
        AgentGrid grid = new AgentGrid();
        put(grid, 0, 0, 3);
        put(grid, 1, 8, 9);
        put(grid, 2, 11, 11);
        due("turnRound of one", grid.turnRound(1), 1);
        due("place of 0", grid.cellAt(7, 0, 0), 3);
        due("goal of 0", grid.cellAt(7, 0, 3), 0);
        due("place of 1 stays", grid.cellAt(2, 1, 0), 8);
        due("goal of 1 stays", grid.cellAt(2, 1, 1), 9);
        due("turnRound of two", grid.turnRound(6), 2);
        due("place of 1", grid.cellAt(2, 1, 0), 9);
        due("goal of 1", grid.cellAt(2, 1, 1), 8);
        due("place of 0 stays", grid.cellAt(1, 0, 0), 3);
        due("turnRound of three", grid.turnRound(7), 3);
        due("place of 0 of before", grid.cellAt(1, 0, 0), 0);
        due("place of 1 of before", grid.cellAt(2, 1, 0), 8);
        for (int team : NO_TEAMS) {
            due("turnRound " + team, grid.turnRound(team), -1);
        }
        put(grid, 2, 11, 3);
        due("refused for a goal of two", grid.turnRound(5), -1);
        due("so 0 is where it was", grid.cellAt(1, 0, 0), 0);
        due("and so is 2", grid.cellAt(4, 2, 0), 11);

        AgentGrid hopeless = grid(1, 4);
        put(hopeless, 0, 0, 3);
        due("no plan", hopeless.fastest(1), -2);
        due("no plan is needed", hopeless.turnRound(1), 1);
        due("turned", hopeless.distance(3, 0), -2);
        hopeless.wall(1);
        due("begins on its goal of before", hopeless.cellAt(1, 0, 0), 3);
    }

    private static void distance() {
        AgentGrid grid = grid(1, 5);
        for (int cell : NO_CELLS) {
            due("distance from " + cell, grid.distance(cell, 0), -1);
            due("distance to " + cell, grid.distance(0, cell), -1);
        }
        due("from a wall", grid.distance(1, 0), -1);
        due("to a wall", grid.distance(0, 5), -1);
        due("from a wall to itself", grid.distance(1, 1), -1);
        due("to itself", grid.distance(0, 0), 0);
        due("around", grid.distance(0, 2), 6);
        due("back", grid.distance(2, 0), 6);
        grid.ways(9, 8);
        due("one can't come there", grid.distance(0, 2), -2);
        due("but back one can", grid.distance(2, 0), 6);
        due("a wall comes before no way", grid.distance(0, 1), -1);
        put(grid, 0, 4, 4);
        put(grid, 1, 8, 8);
        due("walkers are in nobody's way", grid.distance(2, 0), 6);

        AgentGrid round = new AgentGrid();
        int[] circle = {0, 1, 2, 3, 7, 11, 10, 9, 8, 4};
        int[] ways = {2, 2, 2, 4, 4, 8, 8, 8, 1, 1};
        for (int i = 0; i < circle.length; i++) {
            round.ways(circle[i], ways[i]);
        }
        due("all the way round", round.distance(1, 0), 9);
        due("along", round.distance(0, 1), 1);
    }

    private static void fastest() {
        AgentGrid grid = new AgentGrid();
        put(grid, 0, 0, 11);
        due("alone", grid.fastest(1), 5);
        put(grid, 0, 0, 1);
        put(grid, 1, 1, 2);
        put(grid, 2, 2, 3);
        due("each to the cell that the next one leaves", grid.fastest(7), 1);
        put(grid, 1, 1, 0);
        due("no two change places", grid.fastest(3), 3);
        put(grid, 0, 7, 6);
        put(grid, 2, 6, 7);
        due("nor 0 and 2", grid.fastest(5), 3);
        put(grid, 1, 7, 6);
        due("nor 1 and 2", grid.fastest(6), 3);
        put(grid, 0, 0, 2);
        put(grid, 1, 5, 5);
        put(grid, 2, 1, 1);
        due("one makes room", grid.fastest(7), 2);

        AgentGrid corridor = grid(4, 5, 6, 7);
        put(corridor, 0, 0, 2);
        put(corridor, 1, 1, 3);
        due("one behind the other", corridor.fastest(3), 2);
        put(corridor, 1, 3, 1);
        due("can't pass", corridor.fastest(3), -2);
        put(corridor, 2, 8, 8);
        due("can't pass, with a third one elsewhere", corridor.fastest(7), -2);
        due("alone it can", corridor.fastest(1), 2);
        corridor.ways(1, 0);
        due("no way out of 1", corridor.fastest(1), -2);
        put(corridor, 0, 1, 1);
        due("already there", corridor.fastest(1), 0);
    }

    private static void easiest() {
        AgentGrid grid = new AgentGrid();
        put(grid, 0, 0, 3);
        put(grid, 1, 1, 1);
        put(grid, 2, 2, 2);
        due("two make room", grid.fastest(7), 3);
        due("the way around has less effort", grid.easiest(7), 5);
        due("alone", grid.easiest(1), 3);
        due("staying is none", grid.easiest(6), 0);
        put(grid, 0, 0, 1);
        put(grid, 1, 1, 0);
        due("a change of places", grid.easiest(3), 4);
        put(grid, 1, 1, 2);
        put(grid, 2, 2, 3);
        due("three steps in one turn", grid.easiest(7), 3);
        AgentGrid corridor = grid(4, 5, 6, 7);
        put(corridor, 0, 0, 3);
        put(corridor, 1, 3, 0);
        due("no plan", corridor.easiest(3), -2);
    }

    private static void swarm() {
        AgentGrid grid = new AgentGrid();
        put(grid, 0, 0, 11);
        put(grid, 1, 10, 1);
        due("the nearer goals", grid.swarm(3), 1);
        due("the own goals", grid.fastest(3), 5);
        due("alone the own one", grid.swarm(1), 5);
        put(grid, 2, 6, 7);
        due("the third one too", grid.swarm(7), 1);
        put(grid, 0, 1, 10);
        put(grid, 1, 10, 6);
        put(grid, 2, 6, 1);
        due("all goals taken at the start", grid.swarm(7), 0);

        AgentGrid corridor = grid(4, 5, 6, 7);
        put(corridor, 0, 0, 3);
        put(corridor, 1, 1, 2);
        due("no passing is needed", corridor.swarm(3), 2);
        due("though there is no plan", corridor.fastest(3), -2);
        put(corridor, 1, 1, 8);
        due("a goal that nobody can reach", corridor.swarm(3), -2);
        put(corridor, 2, 9, 2);
        due("the third one takes it", corridor.swarm(7), 2);
        due("though there is no plan of three", corridor.fastest(7), -2);
        put(corridor, 2, 3, 10);
        due("two goals on the other side", corridor.swarm(7), -2);
    }

    private static void arrangements() {
        AgentGrid grid = new AgentGrid();
        put(grid, 0, 0, 1);
        put(grid, 1, 5, 2);
        put(grid, 2, 10, 3);
        due("one", grid.arrangements(1), 12);
        due("two", grid.arrangements(6), 132);
        due("three", grid.arrangements(7), 1320);
        grid.ways(0, 0);
        due("no way out", grid.arrangements(1), 1);
        due("one stays, one goes elsewhere", grid.arrangements(3), 11);

        AgentGrid corridor = grid(4, 5, 6, 7);
        put(corridor, 0, 0, 11);
        put(corridor, 1, 3, 8);
        due("no plan, but arrangements", corridor.arrangements(3), 6);
        put(corridor, 2, 8, 1);
        due("the third one in the other row", corridor.arrangements(7), 24);
        for (int cell = 0; cell < 4; cell++) {
            corridor.ways(cell, 2);
        }
        due("one way only, from its start", corridor.arrangements(1), 4);
        due("one way only, from its end", corridor.arrangements(2), 1);
        due("one way only, the end is taken", corridor.arrangements(3), 3);
    }

    private static void needed() {
        AgentGrid grid = new AgentGrid();
        put(grid, 0, 0, 2);
        due("a longer way is no way", grid.needed(1), 1);
        put(grid, 0, 0, 5);
        due("two ways", grid.needed(1), 0);
        put(grid, 0, 0, 3);
        due("straight on", grid.needed(1), 2);
        put(grid, 1, 1, 1);
        due("another's place, outside the team", grid.needed(1), 2);
        put(grid, 0, 4, 4);
        due("nothing to do", grid.needed(1), 0);

        AgentGrid corridor = grid(4, 6, 7, 8, 9, 10, 11);
        put(corridor, 0, 0, 3);
        put(corridor, 1, 3, 0);
        due("the corridor and its bay", corridor.needed(3), 3);
        due("alone without the bay", corridor.needed(1), 2);
        put(corridor, 1, 2, 1);
        put(corridor, 2, 5, 5);
        due("the bay is taken", corridor.fastest(7), -2);
        due("so there is no plan", corridor.needed(7), -2);
        corridor.wall(6);
        due("a way round the bay", corridor.fastest(7), 4);
        due("which is the only cell of nobody", corridor.needed(7), 1);
        due("needed changes no open cell", corridor.wall(6), 1);
        due("needed changes no wall", corridor.wall(4), 0);
        corridor.wall(1);
        due("no plan for one", corridor.needed(1), -2);

        AgentGrid bay = grid(3, 6, 7, 8, 9, 10, 11);
        put(bay, 0, 0, 2);
        put(bay, 1, 1, 1);
        due("place and goal of another in the team don't count", bay.needed(3), 1);
        due("without it they do", bay.needed(1), 1);
        due("its own alone", bay.needed(2), 0);
    }

    private static void cellAt() {
        AgentGrid grid = new AgentGrid();
        put(grid, 0, 0, 5);
        duePlan("the lesser cell", grid, 1, new int[] {0}, new int[][] {{0}, {1}, {5}});
        put(grid, 0, 10, 5);
        duePlan("the lesser cell, back", grid, 1, new int[] {0}, new int[][] {{10}, {6}, {5}});
        put(grid, 0, 4, 4);
        put(grid, 1, 11, 9);
        duePlan("who has time goes to lesser cells", grid, 3, new int[] {0, 1},
                new int[][] {{4, 11}, {0, 10}, {4, 9}});
        put(grid, 2, 5, 5);
        duePlan("all three", grid, 7, new int[] {0, 1, 2},
                new int[][] {{4, 11, 5}, {0, 10, 1}, {4, 9, 5}});
        put(grid, 0, 1, 1);
        put(grid, 1, 0, 0);
        put(grid, 2, 11, 9);
        duePlan("walker 0 comes first, the next ones follow", grid, 7, new int[] {0, 1, 2},
                new int[][] {{1, 0, 11}, {0, 4, 10}, {1, 0, 9}});
        due("t below 0", grid.cellAt(7, 0, -1), -4);
        due("t above the length", grid.cellAt(7, 0, 3), -4);
        due("t far above", grid.cellAt(7, 0, Integer.MAX_VALUE), -4);
        due("t far below", grid.cellAt(7, 0, Integer.MIN_VALUE), -4);
        for (int walker : NO_WALKERS) {
            due("no walker " + walker, grid.cellAt(7, walker, 0), -3);
            due("no walker, no t " + walker, grid.cellAt(7, walker, 9), -3);
        }
        due("not in the team", grid.cellAt(5, 1, 0), -3);
        due("not in the team, no t", grid.cellAt(5, 1, -1), -3);
        grid.wall(10);
        grid.wall(7);
        due("no plan", grid.cellAt(7, 0, 0), -2);
        due("no plan, no walker", grid.cellAt(7, 3, 0), -2);
        due("no plan, no t", grid.cellAt(7, 0, -1), -2);
        due("no team, no plan", grid.cellAt(8, 3, -1), -1);

        AgentGrid oneWay = new AgentGrid();
        oneWay.ways(1, 11);
        put(oneWay, 0, 0, 5);
        duePlan("ways out are kept to", oneWay, 1, new int[] {0}, new int[][] {{0}, {4}, {5}});
        put(oneWay, 0, 5, 0);
        duePlan("also against the one way", oneWay, 1, new int[] {0}, new int[][] {{5}, {1}, {0}});
    }

    private static void outsideTheTeam() {
        AgentGrid grid = grid(4, 5, 6, 7);
        put(grid, 0, 0, 3);
        int fastest = grid.fastest(1);
        int arrangements = grid.arrangements(1);
        int needed = grid.needed(1);
        put(grid, 1, 1, 1);
        put(grid, 2, 0, 3);
        due("fastest", grid.fastest(1), fastest);
        due("easiest", grid.easiest(1), 3);
        due("swarm", grid.swarm(1), 3);
        due("arrangements", grid.arrangements(1), arrangements);
        due("needed", grid.needed(1), needed);
        due("cellAt", grid.cellAt(1, 0, 1), 1);
        due("turnRound", grid.turnRound(1), 1);
        due("place of 2", grid.cellAt(4, 2, 0), 0);
        put(grid, 1, 5, 5);
        due("one on a wall, outside", grid.fastest(5), -2);
        due("one on a wall, inside", grid.fastest(3), -1);
    }

    public static void main(String[] args) {
        newObject();
        wall();
        ways();
        set();
        ready();
        turnRound();
        distance();
        fastest();
        easiest();
        swarm();
        arrangements();
        needed();
        cellAt();
        outsideTheTeam();
        System.out.println(wrong == 0 ? "all promises hold" : wrong + " answers are not as due");
        if (wrong != 0) {
            System.exit(1);
        }
    }
}
