/**
 * Up to three walkers on a grid of 4 columns and 3 rows, who have to come from their places to
 * their goals without getting in each other's way.
 */
public final class AgentGrid {
    private static final int COLUMNS = 4;
    private static final int CELLS = 12;
    private static final int ALL_WAYS = 15;
    private static final int WALKERS = 3;
    private static final int ALL_WALKERS = 7;

    // A walker outside the team stands on a spot of its own behind the grid, CELLS + its number,
    // that nobody can enter or leave: so every team is handled as three walkers, and the walkers
    // outside it are in nobody's way.
    private static final int SPOTS = CELLS + WALKERS;
    private static final int PAIRS_OF_SPOTS = SPOTS * SPOTS;

    // A state says on which spot each walker is; walker 0 is its foremost digit, so that of two
    // states the lesser number is the one that comes first in the order of the plans.
    private static final int STATES = SPOTS * SPOTS * SPOTS;

    // From a cell one can stay or step in four directions.
    private static final int MOST_CHOICES = 5;
    private static final int MOST_TURNS = MOST_CHOICES * MOST_CHOICES * MOST_CHOICES;

    // The cheapest way to a state comes through no state twice, and a turn costs at most a step
    // of each walker.
    private static final int MOST_COST = STATES * WALKERS;
    private static final int UNREACHED = MOST_COST + 1;

    private static final int NOWHERE = -1;

    private final boolean[] walled = new boolean[CELLS];
    private final int[] waysOut = new int[CELLS];
    private final int[] places = new int[WALKERS];
    private final int[] goals = new int[WALKERS];

    // What follows is scratch room: each call that uses it fills it anew.
    private final boolean[] canGo = new boolean[PAIRS_OF_SPOTS];
    private final int[] costs = new int[STATES];
    private int greatestCost = 0;
    private final int[] nextStates = new int[MOST_TURNS];
    private final int[] nextSteps = new int[MOST_TURNS];
    private int nextCount = 0;

    public AgentGrid() {
        for (int cell = 0; cell < CELLS; cell++) {
            waysOut[cell] = ALL_WAYS;
        }
        for (int walker = 0; walker < WALKERS; walker++) {
            places[walker] = NOWHERE;
            goals[walker] = NOWHERE;
        }
    }

    public int wall(int cell) {
        if (!isCell(cell)) {
            return -1;
        }
        walled[cell] = !walled[cell];
        return walled[cell] ? 1 : 0;
    }

    public int ways(int cell, int ways) {
        if (!isCell(cell)) {
            return -1;
        }
        if (ways < 0 || ways > ALL_WAYS) {
            return -2;
        }
        int before = waysOut[cell];
        waysOut[cell] = ways;
        return before;
    }

    public int set(int walker, int place, int goal) {
        if (!isWalker(walker)) {
            return -1;
        }
        if (!isCell(place) || !isCell(goal)) {
            return -2;
        }
        places[walker] = place;
        goals[walker] = goal;
        return 1;
    }

    public int turnRound(int team) {
        if (!isReady(team)) {
            return -1;
        }
        int turned = 0;
        for (int walker = 0; walker < WALKERS; walker++) {
            if (isIn(team, walker)) {
                int before = places[walker];
                places[walker] = goals[walker];
                goals[walker] = before;
                turned++;
            }
        }
        return turned;
    }

    public int distance(int from, int to) {
        if (!isCell(from) || !isCell(to)) {
            return -1;
        }
        if (walled[from] || walled[to]) {
            return -1;
        }
        drawMoves(NOWHERE);
        int start = aloneOn(from);
        spreadFrom(start, false);
        int end = aloneOn(to);
        return costOrNone(end);
    }

    public int fastest(int team) {
        if (!isReady(team)) {
            return -1;
        }
        spreadFromPlaces(team, NOWHERE, false);
        int end = stateOf(team, goals);
        return costOrNone(end);
    }

    public int easiest(int team) {
        if (!isReady(team)) {
            return -1;
        }
        spreadFromPlaces(team, NOWHERE, true);
        int end = stateOf(team, goals);
        return costOrNone(end);
    }

    public int swarm(int team) {
        if (!isReady(team)) {
            return -1;
        }
        spreadFromPlaces(team, NOWHERE, false);
        int end = stateOf(team, goals);
        int wanted = spotsTaken(end);
        int best = end;
        for (int state = 0; state < STATES; state++) {
            // The goals are as many as the walkers, so all are taken if the sets are the same.
            if (costs[state] < costs[best] && spotsTaken(state) == wanted) {
                best = state;
            }
        }
        return costOrNone(best);
    }

    public int arrangements(int team) {
        if (!isReady(team)) {
            return -1;
        }
        spreadFromPlaces(team, NOWHERE, false);
        int reached = 0;
        for (int state = 0; state < STATES; state++) {
            if (costs[state] != UNREACHED) {
                reached++;
            }
        }
        return reached;
    }

    public int needed(int team) {
        if (!isReady(team)) {
            return -1;
        }
        int end = stateOf(team, goals);
        spreadFromPlaces(team, NOWHERE, false);
        int least = costs[end];
        if (least == UNREACHED) {
            return -2;
        }
        int found = 0;
        for (int cell = 0; cell < CELLS; cell++) {
            if (!walled[cell] && !isPlaceOrGoal(team, cell)) {
                spreadFromPlaces(team, cell, false);
                // A wall more never makes a plan shorter.
                if (costs[end] > least) {
                    found++;
                }
            }
        }
        return found;
    }

    public int cellAt(int team, int walker, int t) {
        if (!isReady(team)) {
            return -1;
        }
        drawMoves(NOWHERE);
        turnMovesBack();
        int end = stateOf(team, goals);
        spreadFrom(end, false);
        int start = stateOf(team, places);
        int length = costs[start];
        if (length == UNREACHED) {
            return -2;
        }
        if (!isWalker(walker) || !isIn(team, walker)) {
            return -3;
        }
        if (t < 0 || t > length) {
            return -4;
        }
        drawMoves(NOWHERE);
        int reached = stateAfter(start, t);
        return spotIn(reached, walker);
    }

    private boolean isCell(int cell) {
        return cell >= 0 && cell < CELLS;
    }

    private boolean isWalker(int walker) {
        return walker >= 0 && walker < WALKERS;
    }

    private boolean isIn(int team, int walker) {
        return (team >> walker & 1) == 1;
    }

    private boolean isReady(int team) {
        if (team < 1 || team > ALL_WALKERS) {
            return false;
        }
        int placesTaken = 0;
        int goalsTaken = 0;
        for (int walker = 0; walker < WALKERS; walker++) {
            if (isIn(team, walker)) {
                if (!isSetOnOpenCells(walker)) {
                    return false;
                }
                int place = 1 << places[walker];
                int goal = 1 << goals[walker];
                if ((placesTaken & place) != 0 || (goalsTaken & goal) != 0) {
                    return false;
                }
                placesTaken |= place;
                goalsTaken |= goal;
            }
        }
        return true;
    }

    private boolean isSetOnOpenCells(int walker) {
        return places[walker] != NOWHERE && !walled[places[walker]] && !walled[goals[walker]];
    }

    private boolean isPlaceOrGoal(int team, int cell) {
        for (int walker = 0; walker < WALKERS; walker++) {
            if (isIn(team, walker) && (places[walker] == cell || goals[walker] == cell)) {
                return true;
            }
        }
        return false;
    }

    /** The state that has the walkers of the team on their cells in the array. */
    private int stateOf(int team, int[] cells) {
        int state = 0;
        for (int walker = 0; walker < WALKERS; walker++) {
            int spot = isIn(team, walker) ? cells[walker] : CELLS + walker;
            state = state * SPOTS + spot;
        }
        return state;
    }

    /** The state that has walker 0 on the cell and the others behind the grid. */
    private int aloneOn(int cell) {
        return (cell * SPOTS + CELLS + 1) * SPOTS + CELLS + 2;
    }

    private int spotIn(int state, int walker) {
        if (walker == 0) {
            return state / PAIRS_OF_SPOTS;
        }
        if (walker == 1) {
            return state / SPOTS % SPOTS;
        }
        return state % SPOTS;
    }

    private int spotsTaken(int state) {
        int taken = 0;
        for (int walker = 0; walker < WALKERS; walker++) {
            int spot = spotIn(state, walker);
            taken |= 1 << spot;
        }
        return taken;
    }

    /** Notes from which spot to which a walker can go in a turn, if the cell shut is a wall too. */
    private void drawMoves(int shut) {
        for (int from = 0; from < SPOTS; from++) {
            for (int to = 0; to < SPOTS; to++) {
                canGo[from * SPOTS + to] = from == to || canStep(from, to, shut);
            }
        }
    }

    private void turnMovesBack() {
        for (int from = 0; from < SPOTS; from++) {
            for (int to = 0; to < from; to++) {
                boolean there = canGo[from * SPOTS + to];
                canGo[from * SPOTS + to] = canGo[to * SPOTS + from];
                canGo[to * SPOTS + from] = there;
            }
        }
    }

    private boolean canStep(int from, int to, int shut) {
        if (!isCell(from) || !isCell(to) || walled[from] || walled[to]) {
            return false;
        }
        if (from == shut || to == shut) {
            return false;
        }
        int direction = directionTo(from, to);
        return direction >= 0 && (waysOut[from] >> direction & 1) == 1;
    }

    /** The direction between two cells that are next to each other, else -1. */
    private int directionTo(int from, int to) {
        if (to == from - COLUMNS) {
            return 0;
        }
        if (to == from + COLUMNS) {
            return 2;
        }
        // The end of a row and the start of the one below have neighbouring numbers too.
        if (from / COLUMNS != to / COLUMNS) {
            return -1;
        }
        if (to == from + 1) {
            return 1;
        }
        return to == from - 1 ? 3 : -1;
    }

    private void spreadFromPlaces(int team, int shut, boolean byEffort) {
        drawMoves(shut);
        int start = stateOf(team, places);
        spreadFrom(start, byEffort);
    }

    /** Finds the least cost of each state from the start on: of effort, or else of turns. */
    private void spreadFrom(int start, boolean byEffort) {
        for (int state = 0; state < STATES; state++) {
            costs[state] = UNREACHED;
        }
        costs[start] = 0;
        greatestCost = 0;
        // A turn that changes the state costs 1 or more, so the costs below the one at hand, and
        // the one at hand itself, are final.
        for (int cost = 0; cost <= greatestCost && cost <= MOST_COST; cost++) {
            for (int state = 0; state < STATES; state++) {
                if (costs[state] == cost) {
                    spreadOver(state, byEffort);
                }
            }
        }
    }

    private void spreadOver(int state, boolean byEffort) {
        listTurns(state);
        for (int i = 0; i < nextCount; i++) {
            int cost = costs[state] + (byEffort ? nextSteps[i] : 1);
            if (cost < costs[nextStates[i]]) {
                costs[nextStates[i]] = cost;
                greatestCost = cost > greatestCost ? cost : greatestCost;
            }
        }
    }

    /** Lists the states that a turn can lead to, the lesser first, and the steps of each turn. */
    private void listTurns(int state) {
        int from0 = spotIn(state, 0);
        int from1 = spotIn(state, 1);
        int from2 = spotIn(state, 2);
        nextCount = 0;
        for (int to0 = 0; to0 < SPOTS; to0++) {
            if (!canGo[from0 * SPOTS + to0]) {
                continue;
            }
            for (int to1 = 0; to1 < SPOTS; to1++) {
                if (!canGo[from1 * SPOTS + to1] || isClash(from0, to0, from1, to1)) {
                    continue;
                }
                int stepsSoFar = (from0 == to0 ? 0 : 1) + (from1 == to1 ? 0 : 1);
                for (int to2 = 0; to2 < SPOTS; to2++) {
                    if (canGo[from2 * SPOTS + to2]
                            && !isClash(from0, to0, from2, to2)
                            && !isClash(from1, to1, from2, to2)
                            && nextCount < MOST_TURNS) {
                        nextStates[nextCount] = (to0 * SPOTS + to1) * SPOTS + to2;
                        nextSteps[nextCount] = stepsSoFar + (from2 == to2 ? 0 : 1);
                        nextCount++;
                    }
                }
            }
        }
    }

    private boolean isClash(int fromA, int toA, int fromB, int toB) {
        return toA == toB || (toA == fromB && toB == fromA);
    }

    /** The state after t turns of the first plan; the costs tell how many turns the goals are off. */
    private int stateAfter(int start, int t) {
        int state = start;
        for (int turn = 0; turn < t; turn++) {
            state = firstNearer(state);
        }
        return state;
    }

    private int firstNearer(int state) {
        listTurns(state);
        for (int i = 0; i < nextCount; i++) {
            if (costs[nextStates[i]] == costs[state] - 1) {
                return nextStates[i];
            }
        }
        return state;
    }

    private int costOrNone(int state) {
        return costs[state] == UNREACHED ? -2 : costs[state];
    }
}
