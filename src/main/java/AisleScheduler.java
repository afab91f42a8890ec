import java.util.NoSuchElementException;

/**
 * A scheduler of robots on a floor of cells: plans through space and time that do not collide, lifts
 * that take one robot at a time, batteries and chargers, tasks with windows that are served or refused
 * with a reason, blocking robots that make way, charging stops, statistics, texts and saving.
 *
 * <p>All rows are made with the object and used again by every call. Rows are read and written through
 * small functions that look at the index first, so that the machine itself never throws.
 */
public final class AisleScheduler {
    private static final int CELLS = 40;
    private static final int COLUMNS = 8;
    private static final int HORIZON = 30;
    private static final int LAST_TIME = 1000;
    private static final int MAX_ROBOTS = 5;
    private static final int MAX_LIFTS = 2;
    private static final int MAX_TASKS = 12;
    private static final int MAX_BATTERY = 100;
    private static final int MAX_INPUT = 40;
    /** The shortest entry of a text has 3 characters; one more can be begun. */
    private static final int MAX_ENTRIES = MAX_INPUT / 3 + 1;
    private static final int SHELVES = 2;
    private static final int PLACES = 3;
    private static final int SAMPLE_NUMBERS = 4;

    private static final int NONE = -1;
    /** More than any way or route can take or cost. */
    private static final int FAR = 1000000;

    private static final int FREE = 0;
    private static final int WALL = 1;
    private static final int CHARGER = 2;
    private static final int CHARGE = 5;

    private static final int ACTIONS = 7;
    private static final int WAIT = 0;
    private static final int UP = 1;
    private static final int RIGHT = 2;
    private static final int DOWN = 3;
    private static final int LEFT = 4;
    private static final int RIDE = 5;
    private static final int RIDE_TICKS = 3;
    private static final int RIDE_COST = 2;

    private static final long ALL_CELLS = 0xFFFFFFFFFFL;
    private static final long LEFT_COLUMN = 0x0101010101L;
    private static final long RIGHT_COLUMN = 0x8080808080L;

    private static final int STATISTICS = 5;
    private static final int MOVES = 0;
    private static final int RIDES = 1;
    private static final int WAITS = 2;
    private static final int TASKS_DONE = 3;
    private static final int GAINED = 4;

    private static final int OPEN = 0;
    private static final int SERVED = 1;
    private static final int DONE = 2;
    private static final int REFUSED = 3;

    private static final int NO_REASON = 0;
    private static final int IN_LIFT = 1;
    private static final int NO_ROUTE_TO_FIRST = 2;
    private static final int NO_WAITING = 3;
    private static final int NO_ROUTE_TO_SECOND = 4;
    private static final int TOO_LATE = 5;
    private static final int TOO_DEAR = 6;

    private static final int FINE = 0;
    private static final int OUTSIDE = 1;
    private static final int UNFIT = 2;
    private static final int CLASH = 3;

    private final World world;
    private final World saved;
    /** What stood before a text was read, in case that one of its entries can't be done. */
    private final World before;
    private final Planner planner;
    private final Shelves shelves;
    private final Script script;
    private boolean isSaved;
    private int keptErrorPosition;

    public AisleScheduler() {
        world = new World();
        saved = new World();
        before = new World();
        planner = new Planner(world);
        shelves = new Shelves();
        script = new Script();
        isSaved = false;
        keptErrorPosition = NONE;
    }

    // ---- the floor and robots

    public int clear() {
        int robots = world.robotCount;
        world.empty();
        return robots;
    }

    public int setCell(int cell, int kind)
            throws IndexOutOfBoundsException, IllegalArgumentException, IllegalStateException {
        int former = at(world.floor.kinds, cell);
        raise(world.makeKind(cell, kind));
        return former;
    }

    public int cell(int cell) throws IndexOutOfBoundsException {
        demandCell(cell);
        return at(world.floor.kinds, cell);
    }

    public int addLift(int one, int other)
            throws IndexOutOfBoundsException, IllegalArgumentException, IllegalStateException {
        raise(world.makeLift(one, other));
        return world.floor.lifts - 1;
    }

    public int addRobot(int cell, int battery)
            throws IndexOutOfBoundsException, IllegalArgumentException, IllegalStateException {
        raise(world.makeRobot(cell, battery));
        return world.robotCount - 1;
    }

    public int robot(int robot, int what) throws IndexOutOfBoundsException, IllegalArgumentException {
        demandRobot(robot);
        Robot asked = world.robotOf(robot);
        int place = asked.plan.placeAt(world.clock);
        switch (what) {
            case 0:
                return Math.max(place, NONE);
            case 1:
                return asked.battery;
            case 2:
                return asked.plan.ticksLeft(world.clock);
            case 3:
                return asked.plan.costLeft(world.clock);
            case 4:
                return asked.serving;
            case 5:
                return place < 0 ? NONE - place : NONE;
            default:
                throw new IllegalArgumentException("what is not 0 to 5");
        }
    }

    public int count(int what) throws IllegalArgumentException {
        switch (what) {
            case 0:
                return world.robotCount;
            case 1:
                return world.floor.lifts;
            case 2:
                return world.taskCount;
            case 3:
                return world.floor.countOf(WALL);
            case 4:
                return world.floor.countOf(CHARGER);
            case 5:
                return world.clock;
            default:
                throw new IllegalArgumentException("what is not 0 to 5");
        }
    }

    public int region(int cell) throws IndexOutOfBoundsException {
        demandCell(cell);
        return world.floor.reachedFrom(cell);
    }

    public int ticksBetween(int from, int to) throws IndexOutOfBoundsException, NoSuchElementException {
        demandCell(from);
        demandCell(to);
        int ticks = world.floor.distance(from, to);
        if (ticks >= FAR) {
            throw new NoSuchElementException("no way between the cells");
        }
        return ticks;
    }

    // ---- plans

    public int plan(int robot, int cell) throws IndexOutOfBoundsException, IllegalStateException,
            NoSuchElementException, UnsupportedOperationException {
        demandFinalRoute(robot, cell);
        if (!planner.isAffordable(robot)) {
            throw new UnsupportedOperationException("the route costs more than the battery");
        }
        planner.adopt(robot, NONE);
        return planner.route.ticks;
    }

    public int arrival(int robot, int cell)
            throws IndexOutOfBoundsException, IllegalStateException, NoSuchElementException {
        demandFinalRoute(robot, cell);
        return planner.route.ticks;
    }

    public int routeCost(int robot, int cell)
            throws IndexOutOfBoundsException, IllegalStateException, NoSuchElementException {
        demandFinalRoute(robot, cell);
        return planner.route.cost;
    }

    public int action(int robot, int index) throws IndexOutOfBoundsException, NoSuchElementException {
        demandRobot(robot);
        int action = world.robotOf(robot).plan.restAction(world.clock, index);
        if (action < 0) {
            throw new NoSuchElementException("no such action");
        }
        return action;
    }

    public int cellAfter(int robot, int ticks) throws IndexOutOfBoundsException, IllegalArgumentException {
        demandRobot(robot);
        demandTicks(ticks, 0);
        return world.robotOf(robot).plan.placeAt(world.clock + ticks);
    }

    public int robotAt(int cell, int ticks) throws IndexOutOfBoundsException, IllegalArgumentException {
        demandCell(cell);
        demandTicks(ticks, 0);
        return world.occupant(cell, world.clock + ticks);
    }

    public int cancel(int robot)
            throws IndexOutOfBoundsException, IllegalStateException, UnsupportedOperationException {
        demandRobot(robot);
        demandOutsideLift(robot);
        Robot stopped = world.robotOf(robot);
        int place = stopped.plan.placeAt(world.clock);
        if (world.isMet(place, robot)) {
            throw new UnsupportedOperationException("another robot comes to the cell");
        }
        int ticks = stopped.plan.ticksLeft(world.clock);
        world.reopenTaskOf(stopped);
        stopped.plan.restAt(place, world.clock);
        return ticks;
    }

    public int blockers(int robot, int cell) throws IndexOutOfBoundsException {
        demandRobot(robot);
        demandCell(cell);
        return world.isInLift(robot) ? 0 : planner.blockersOf(robot, cell);
    }

    public int makeWay(int robot, int cell)
            throws IndexOutOfBoundsException, IllegalStateException, NoSuchElementException {
        demandRobot(robot);
        demandCell(cell);
        demandOutsideLift(robot);
        if (planner.isPlannable(robot, cell)) {
            throw new IllegalStateException("the robot can be planned as it is");
        }
        int other = planner.moveAside(robot, cell);
        if (other < 0) {
            throw new NoSuchElementException("no idle robot can make way");
        }
        return other;
    }

    public int planToCharger(int robot)
            throws IndexOutOfBoundsException, IllegalStateException, NoSuchElementException {
        demandRobot(robot);
        demandOutsideLift(robot);
        int charger = planner.nearestCharger(robot);
        if (charger < 0 || !planner.findFinal(robot, charger)) {
            throw new NoSuchElementException("no charger is in reach");
        }
        planner.adopt(robot, NONE);
        return charger;
    }

    // ---- tasks

    public int addTask(int from, int to, int release, int deadline)
            throws IndexOutOfBoundsException, IllegalArgumentException, IllegalStateException {
        demandCell(from);
        demandCell(to);
        if (from == to || release < 0 || deadline > LAST_TIME || release > deadline) {
            throw new IllegalArgumentException("cells or times are not fit");
        }
        if (world.taskCount >= MAX_TASKS) {
            throw new IllegalStateException("there are 12 tasks");
        }
        world.taskOf(world.taskCount).begin(from, to, release, deadline, world.clock);
        world.taskCount++;
        return world.taskCount - 1;
    }

    public int serve(int task, int robot) throws IndexOutOfBoundsException, IllegalStateException {
        demandTask(task);
        demandRobot(robot);
        demandServable(task);
        return planner.letServe(task, robot);
    }

    public int bestRobot(int task)
            throws IndexOutOfBoundsException, IllegalStateException, NoSuchElementException {
        demandTask(task);
        demandServable(task);
        int best = planner.bestFor(task, false);
        if (best < 0) {
            throw new NoSuchElementException("each robot would be refused");
        }
        return best;
    }

    public int task(int task, int what) throws IndexOutOfBoundsException, IllegalArgumentException {
        demandTask(task);
        Task asked = world.taskOf(task);
        switch (what) {
            case 0:
                return asked.state;
            case 1:
                return asked.reason;
            case 2:
                return asked.server;
            case 3:
                return asked.doneAt;
            case 4:
                return asked.from;
            case 5:
                return asked.to;
            case 6:
                return asked.release;
            case 7:
                return asked.deadline;
            default:
                throw new IllegalArgumentException("what is not 0 to 7");
        }
    }

    public int assignAll() {
        return planner.assignOpenTasks();
    }

    public int tasksIn(int state) throws IllegalArgumentException {
        if (state < OPEN || state > REFUSED) {
            throw new IllegalArgumentException("no such state");
        }
        int tasks = 0;
        for (int task = 0; task < world.taskCount; task++) {
            if (world.taskOf(task).state == state) {
                tasks++;
            }
        }
        return tasks;
    }

    // ---- time and statistics

    public int advance(int ticks) throws IllegalArgumentException, IllegalStateException {
        demandTicks(ticks, 1);
        if (world.clock + ticks > LAST_TIME) {
            throw new IllegalStateException("the clock ends at 1000");
        }
        int done = 0;
        for (int tick = 0; tick < ticks; tick++) {
            done += world.passTick();
        }
        return done;
    }

    public int statistic(int robot, int what) throws IndexOutOfBoundsException, IllegalArgumentException {
        demandRobot(robot);
        if (what < 0 || what >= STATISTICS) {
            throw new IllegalArgumentException("what is not 0 to 4");
        }
        return at(world.robotOf(robot).statistics, what);
    }

    public float activity(int robot) throws IndexOutOfBoundsException, ArithmeticException {
        demandRobot(robot);
        return activityOf(world.robotOf(robot));
    }

    public int activityBits(int robot) throws IndexOutOfBoundsException, ArithmeticException {
        demandRobot(robot);
        return bitsOf(activityOf(world.robotOf(robot)));
    }

    public double averageDelay() throws ArithmeticException {
        int done = 0;
        int delays = 0;
        for (int number = 0; number < world.taskCount; number++) {
            Task task = world.taskOf(number);
            if (task.state == DONE) {
                done++;
                delays += task.doneAt - Math.max(task.release, task.added);
            }
        }
        if (done == 0) {
            throw new ArithmeticException("no task is done");
        }
        return (double) delays / (double) done;
    }

    public int visits(int cell) throws IndexOutOfBoundsException {
        demandCell(cell);
        return at(world.visitCounts, cell);
    }

    public int busiestCell() {
        int busiest = 0;
        for (int cell = 1; cell < CELLS; cell++) {
            if (at(world.visitCounts, cell) > at(world.visitCounts, busiest)) {
                busiest = cell;
            }
        }
        return busiest;
    }

    // ---- samples, texts and saving

    public int sample(int shelf, int place, int robot)
            throws IndexOutOfBoundsException, UnsupportedOperationException {
        demandPlace(shelf, place);
        demandRobot(robot);
        if (shelf == 0 && !world.isIdle(robot)) {
            throw new UnsupportedOperationException("shelf 0 only holds idle robots");
        }
        Robot model = world.robotOf(robot);
        int cell = Math.max(model.plan.placeAt(world.clock), NONE);
        shelves.store(shelf * PLACES + place, robot, cell, model.battery, world.clock);
        return shelves.held(shelf);
    }

    public int sampled(int shelf, int place, int what)
            throws IndexOutOfBoundsException, IllegalArgumentException, NoSuchElementException {
        demandPlace(shelf, place);
        if (what < 0 || what >= SAMPLE_NUMBERS) {
            throw new IllegalArgumentException("what is not 0 to 3");
        }
        int slot = shelf * PLACES + place;
        if (at(shelves.filled, slot) == 0) {
            throw new NoSuchElementException("the place is empty");
        }
        return at(shelves.numbers, slot * SAMPLE_NUMBERS + what);
    }

    public int append(char character) throws IllegalArgumentException, IllegalStateException {
        if (character < 32 || character > 126) {
            throw new IllegalArgumentException("the character code is not 32 to 126");
        }
        if (script.length >= MAX_INPUT) {
            throw new IllegalStateException("the input has 40 characters");
        }
        script.add(character);
        return script.length;
    }

    public int read() throws IllegalArgumentException, IllegalStateException {
        int error = script.parse();
        script.length = 0;
        if (error >= 0) {
            keptErrorPosition = error;
            throw new IllegalArgumentException("the input is not a text of this kind");
        }
        if (!doEntries()) {
            throw new IllegalStateException("an entry can't be done");
        }
        return script.entries;
    }

    public int errorPosition() throws NoSuchElementException {
        if (keptErrorPosition < 0) {
            throw new NoSuchElementException("no error position was kept");
        }
        return keptErrorPosition;
    }

    public int save() {
        saved.copyFrom(world);
        isSaved = true;
        return world.clock;
    }

    public int restore() throws IllegalStateException {
        if (!isSaved) {
            throw new IllegalStateException("nothing was saved");
        }
        world.copyFrom(saved);
        return world.clock;
    }

    // ---- what the methods of the face share

    private boolean doEntries() {
        before.copyFrom(world);
        for (int entry = 0; entry < script.entries; entry++) {
            int first = at(script.firsts, entry);
            if (world.follow(at(script.letters, entry), first, at(script.seconds, entry)) != FINE) {
                world.copyFrom(before);
                return false;
            }
        }
        return true;
    }

    private static void raise(int fault) {
        if (fault == OUTSIDE) {
            throw new IndexOutOfBoundsException("no such cell");
        }
        if (fault == UNFIT) {
            throw new IllegalArgumentException("an argument is not fit");
        }
        if (fault == CLASH) {
            throw new IllegalStateException("the state does not allow it");
        }
    }

    private static void demandCell(int cell) {
        if (!isCell(cell)) {
            throw new IndexOutOfBoundsException("no such cell");
        }
    }

    private void demandRobot(int robot) {
        if (robot < 0 || robot >= world.robotCount) {
            throw new IndexOutOfBoundsException("no such robot");
        }
    }

    private void demandTask(int task) {
        if (task < 0 || task >= world.taskCount) {
            throw new IndexOutOfBoundsException("no such task");
        }
    }

    private void demandServable(int task) {
        int state = world.taskOf(task).state;
        if (state == SERVED || state == DONE) {
            throw new IllegalStateException("the task is served or done");
        }
    }

    private static void demandPlace(int shelf, int place) {
        if (shelf < 0 || shelf >= SHELVES || place < 0 || place >= PLACES) {
            throw new IndexOutOfBoundsException("no such shelf or place");
        }
    }

    private static void demandTicks(int ticks, int least) {
        if (ticks < least || ticks > HORIZON) {
            throw new IllegalArgumentException("ticks is out of range");
        }
    }

    private void demandOutsideLift(int robot) {
        if (world.isInLift(robot)) {
            throw new IllegalStateException("the robot is in a lift");
        }
    }

    /** Leaves the best final route in the planner's route. */
    private void demandFinalRoute(int robot, int cell) {
        demandRobot(robot);
        demandCell(cell);
        demandOutsideLift(robot);
        if (!planner.findFinal(robot, cell)) {
            throw new NoSuchElementException("no final route within the horizon");
        }
    }

    private float activityOf(Robot robot) {
        int ticks = world.clock - robot.added;
        if (ticks <= 0) {
            throw new ArithmeticException("no tick since the robot was added");
        }
        return (float) (ticks - at(robot.statistics, WAITS)) / (float) ticks;
    }

    /**
     * The bits of a number from 0 to 1. Float.floatToIntBits is not in the part of the library that is
     * allowed; doubling is exact, so the exponent can be counted.
     */
    private static int bitsOf(float number) {
        if (!(number > 0.0f)) {
            return 0;
        }
        float fraction = number;
        int exponent = 127;
        while (fraction < 1.0f && exponent > 1) {
            fraction = fraction * 2.0f;
            exponent--;
        }
        return (exponent << 23) | ((int) (fraction * 8388608.0f) & 8388607);
    }

    // ---- rows and actions

    private static int at(int[] row, int index) {
        return index >= 0 && index < row.length ? row[index] : 0;
    }

    private static void put(int[] row, int index, int value) {
        if (index >= 0 && index < row.length) {
            row[index] = value;
        }
    }

    private static long maskAt(long[] row, int index) {
        return index >= 0 && index < row.length ? row[index] : 0L;
    }

    private static void join(long[] row, int index, long mask) {
        if (index >= 0 && index < row.length) {
            row[index] |= mask;
        }
    }

    private static void fill(int[] row, int value) {
        for (int index = 0; index < row.length; index++) {
            row[index] = value;
        }
    }

    private static void fillMasks(long[] row, long mask) {
        for (int index = 0; index < row.length; index++) {
            row[index] = mask;
        }
    }

    private static void copyRow(int[] source, int[] target) {
        for (int index = 0; index < source.length && index < target.length; index++) {
            target[index] = source[index];
        }
    }

    private static boolean isCell(int cell) {
        return cell >= 0 && cell < CELLS;
    }

    /** The set of one cell, empty for what is none. */
    private static long bit(int cell) {
        return cell >= 0 && cell < CELLS ? 1L << cell : 0L;
    }

    private static int ticksOf(int action) {
        return action >= RIDE ? RIDE_TICKS : 1;
    }

    private static int costOf(int action) {
        if (action >= RIDE) {
            return RIDE_COST;
        }
        return action == WAIT ? 0 : 1;
    }

    private static int neighbor(int cell, int action) {
        int column = cell % COLUMNS;
        switch (action) {
            case UP:
                return cell - COLUMNS >= 0 ? cell - COLUMNS : NONE;
            case RIGHT:
                return column < COLUMNS - 1 ? cell + 1 : NONE;
            case DOWN:
                return cell + COLUMNS < CELLS ? cell + COLUMNS : NONE;
            case LEFT:
                return column > 0 ? cell - 1 : NONE;
            default:
                return NONE;
        }
    }

    /** A set of cells, each one moved to its neighbor if it has one there. */
    private static long moved(long mask, int action) {
        switch (action) {
            case UP:
                return mask >>> COLUMNS;
            case RIGHT:
                return (mask & ~RIGHT_COLUMN) << 1;
            case DOWN:
                return (mask << COLUMNS) & ALL_CELLS;
            case LEFT:
                return (mask & ~LEFT_COLUMN) >>> 1;
            default:
                return mask;
        }
    }

    /** The cells and lifts. */
    private static final class Floor {
        final int[] kinds = new int[CELLS];
        /** The cell to which an action leads, at cell * ACTIONS + action, or NONE. */
        final int[] links = new int[CELLS * ACTIONS];
        /** The ends of the lifts, two for each. */
        final int[] ends = new int[2 * MAX_LIFTS];
        int lifts;
        private final int[] distances = new int[CELLS];

        Floor() {
            empty();
        }

        void empty() {
            fill(kinds, FREE);
            fill(ends, NONE);
            lifts = 0;
            for (int cell = 0; cell < CELLS; cell++) {
                for (int action = 0; action < ACTIONS; action++) {
                    put(links, cell * ACTIONS + action, action == WAIT ? cell : neighbor(cell, action));
                }
            }
        }

        void copyFrom(Floor other) {
            copyRow(other.kinds, kinds);
            copyRow(other.links, links);
            copyRow(other.ends, ends);
            lifts = other.lifts;
        }

        boolean isWall(int cell) {
            return at(kinds, cell) == WALL;
        }

        boolean isLiftEnd(int cell) {
            for (int end = 0; end < 2 * lifts; end++) {
                if (at(ends, end) == cell) {
                    return true;
                }
            }
            return false;
        }

        void addLiftBetween(int one, int other) {
            put(ends, 2 * lifts, one);
            put(ends, 2 * lifts + 1, other);
            put(links, one * ACTIONS + RIDE + lifts, other);
            put(links, other * ACTIONS + RIDE + lifts, one);
            lifts++;
        }

        int countOf(int kind) {
            int cells = 0;
            for (int cell = 0; cell < CELLS; cell++) {
                if (at(kinds, cell) == kind) {
                    cells++;
                }
            }
            return cells;
        }

        long walls() {
            long mask = 0L;
            for (int cell = 0; cell < CELLS; cell++) {
                if (isWall(cell)) {
                    mask |= bit(cell);
                }
            }
            return mask;
        }

        int reachedFrom(int cell) {
            measureFrom(cell);
            int reached = 0;
            for (int other = 0; other < CELLS; other++) {
                if (at(distances, other) < FAR) {
                    reached++;
                }
            }
            return reached;
        }

        int distance(int from, int to) {
            measureFrom(from);
            return at(distances, to);
        }

        /** Shortens the distances until none changes; a shortest way has fewer steps than there are cells. */
        private void measureFrom(int from) {
            fill(distances, FAR);
            if (isWall(from)) {
                return;
            }
            put(distances, from, 0);
            boolean isChanged = true;
            for (int round = 0; isChanged && round < CELLS; round++) {
                isChanged = false;
                for (int cell = 0; cell < CELLS; cell++) {
                    if (at(distances, cell) < FAR && shortenBehind(cell)) {
                        isChanged = true;
                    }
                }
            }
        }

        private boolean shortenBehind(int cell) {
            boolean isChanged = false;
            for (int action = UP; action < ACTIONS; action++) {
                int target = at(links, cell * ACTIONS + action);
                int ticks = at(distances, cell) + ticksOf(action);
                if (target >= 0 && !isWall(target) && ticks < at(distances, target)) {
                    put(distances, target, ticks);
                    isChanged = true;
                }
            }
            return isChanged;
        }
    }

    /**
     * Actions from a start time on and the places to which they lead. It stays as it is while time
     * passes: what is left of it follows from the clock.
     */
    private static final class Plan {
        /** The action of each tick; a ride stands in all of its ticks. */
        private final int[] actions = new int[HORIZON];
        /** The cell at each time, or -1 minus the number of a lift. */
        private final int[] places = new int[HORIZON + 1];
        private int start;
        int ticks;
        int cost;

        void restAt(int cell, int clock) {
            put(places, 0, cell);
            start = clock;
            ticks = 0;
            cost = 0;
        }

        void copyFrom(Plan other) {
            copyRow(other.actions, actions);
            copyRow(other.places, places);
            start = other.start;
            ticks = other.ticks;
            cost = other.cost;
        }

        void addAction(int action, int target) {
            int duration = ticksOf(action);
            if (ticks + duration > HORIZON) {
                return;
            }
            for (int tick = 1; tick <= duration; tick++) {
                put(actions, ticks, action);
                ticks++;
                put(places, ticks, tick == duration ? target : NONE - (action - RIDE));
            }
            cost += costOf(action);
        }

        int lastPlace() {
            return at(places, ticks);
        }

        int placeAt(int clock) {
            return at(places, Math.max(0, Math.min(clock - start, ticks)));
        }

        int actionAt(int clock) {
            int tick = clock - start;
            return tick < ticks ? at(actions, tick) : WAIT;
        }

        int ticksLeft(int clock) {
            return Math.max(0, start + ticks - clock);
        }

        /** An action begins in each tick before which the robot is at a cell. */
        private boolean isBegin(int tick) {
            return at(places, tick) >= 0;
        }

        int costLeft(int clock) {
            int left = 0;
            for (int tick = 0; tick < ticks; tick++) {
                if (isBegin(tick) && start + tick >= clock) {
                    left += costOf(at(actions, tick));
                }
            }
            return left;
        }

        /** The action with an index among those that are not finished, NONE if there is none. */
        int restAction(int clock, int index) {
            int left = index;
            for (int tick = 0; tick < ticks; tick++) {
                int action = at(actions, tick);
                if (isBegin(tick) && start + tick + ticksOf(action) > clock) {
                    if (left == 0) {
                        return action;
                    }
                    left--;
                }
            }
            return NONE;
        }
    }

    private static final class Robot {
        final Plan plan = new Plan();
        final int[] statistics = new int[STATISTICS];
        int battery;
        int serving;
        int added;

        void begin(int cell, int charge, int clock) {
            plan.restAt(cell, clock);
            fill(statistics, 0);
            battery = charge;
            serving = NONE;
            added = clock;
        }

        void copyFrom(Robot other) {
            plan.copyFrom(other.plan);
            copyRow(other.statistics, statistics);
            battery = other.battery;
            serving = other.serving;
            added = other.added;
        }

        void raiseStatistic(int what, int amount) {
            put(statistics, what, at(statistics, what) + amount);
        }

        void spend(int what, int cost) {
            raiseStatistic(what, 1);
            battery -= cost;
        }

        void gain() {
            int amount = Math.min(CHARGE, MAX_BATTERY - battery);
            battery += amount;
            raiseStatistic(GAINED, amount);
        }
    }

    private static final class Task {
        int from;
        int to;
        int release;
        int deadline;
        int added;
        int state;
        int reason;
        int server;
        int doneAt;

        void begin(int first, int second, int releaseTime, int latest, int clock) {
            from = first;
            to = second;
            release = releaseTime;
            deadline = latest;
            added = clock;
            doneAt = NONE;
            become(OPEN, NO_REASON, NONE);
        }

        void copyFrom(Task other) {
            from = other.from;
            to = other.to;
            release = other.release;
            deadline = other.deadline;
            added = other.added;
            doneAt = other.doneAt;
            become(other.state, other.reason, other.server);
        }

        void become(int newState, int newReason, int newServer) {
            state = newState;
            reason = newReason;
            server = newServer;
        }
    }

    /** All that clear empties and that save keeps. */
    private static final class World {
        final Floor floor = new Floor();
        final int[] visitCounts = new int[CELLS];
        int robotCount;
        int taskCount;
        int clock;
        private final Robot[] robots = new Robot[MAX_ROBOTS];
        private final Task[] tasks = new Task[MAX_TASKS];
        /** These answer for numbers that no robot or task has; no such number gets here. */
        private final Robot noRobot = new Robot();
        private final Task noTask = new Task();

        World() {
            for (int number = 0; number < robots.length; number++) {
                robots[number] = new Robot();
            }
            for (int number = 0; number < tasks.length; number++) {
                tasks[number] = new Task();
            }
        }

        void empty() {
            floor.empty();
            fill(visitCounts, 0);
            robotCount = 0;
            taskCount = 0;
            clock = 0;
        }

        void copyFrom(World other) {
            floor.copyFrom(other.floor);
            copyRow(other.visitCounts, visitCounts);
            robotCount = other.robotCount;
            taskCount = other.taskCount;
            clock = other.clock;
            for (int number = 0; number < robotCount; number++) {
                robotOf(number).copyFrom(other.robotOf(number));
            }
            for (int number = 0; number < taskCount; number++) {
                taskOf(number).copyFrom(other.taskOf(number));
            }
        }

        Robot robotOf(int number) {
            Robot robot = number >= 0 && number < robots.length ? robots[number] : null;
            return robot == null ? noRobot : robot;
        }

        Task taskOf(int number) {
            Task task = number >= 0 && number < tasks.length ? tasks[number] : null;
            return task == null ? noTask : task;
        }

        boolean isIdle(int number) {
            return robotOf(number).plan.ticksLeft(clock) == 0;
        }

        boolean isInLift(int number) {
            return robotOf(number).plan.placeAt(clock) < 0;
        }

        int occupant(int cell, int time) {
            for (int number = 0; number < robotCount; number++) {
                if (robotOf(number).plan.placeAt(time) == cell) {
                    return number;
                }
            }
            return NONE;
        }

        /** Whether a robot but one is at a cell at some time from now to the horizon. */
        boolean isMet(int cell, int but) {
            for (int number = 0; number < robotCount; number++) {
                Plan plan = robotOf(number).plan;
                for (int ticks = 0; number != but && ticks <= HORIZON; ticks++) {
                    if (plan.placeAt(clock + ticks) == cell) {
                        return true;
                    }
                }
            }
            return false;
        }

        int makeKind(int cell, int kind) {
            if (!isCell(cell)) {
                return OUTSIDE;
            }
            if (kind < FREE || kind > CHARGER) {
                return UNFIT;
            }
            if (kind == WALL && (floor.isLiftEnd(cell) || isMet(cell, NONE))) {
                return CLASH;
            }
            put(floor.kinds, cell, kind);
            return FINE;
        }

        int makeLift(int one, int other) {
            if (!isCell(one) || !isCell(other)) {
                return OUTSIDE;
            }
            if (one == other || floor.isWall(one) || floor.isWall(other)
                    || floor.isLiftEnd(one) || floor.isLiftEnd(other)) {
                return UNFIT;
            }
            if (floor.lifts >= MAX_LIFTS) {
                return CLASH;
            }
            floor.addLiftBetween(one, other);
            return FINE;
        }

        int makeRobot(int cell, int battery) {
            if (!isCell(cell)) {
                return OUTSIDE;
            }
            if (battery < 0 || battery > MAX_BATTERY || floor.isWall(cell)) {
                return UNFIT;
            }
            if (robotCount >= MAX_ROBOTS || isMet(cell, NONE)) {
                return CLASH;
            }
            robotOf(robotCount).begin(cell, battery, clock);
            robotCount++;
            return FINE;
        }

        /** Does what an entry of a text tells, or answers with a fault. */
        int follow(int letter, int first, int second) {
            switch (letter) {
                case 'w':
                    return makeKind(first, WALL);
                case 'c':
                    return makeKind(first, CHARGER);
                case 'f':
                    return makeKind(first, FREE);
                case 'l':
                    return makeLift(first, second);
                default:
                    return makeRobot(first, MAX_BATTERY);
            }
        }

        void reopenTaskOf(Robot robot) {
            if (robot.serving >= 0) {
                taskOf(robot.serving).become(OPEN, NO_REASON, NONE);
                robot.serving = NONE;
            }
        }

        /** Returns the number of tasks that are done with this tick. */
        int passTick() {
            for (int number = 0; number < robotCount; number++) {
                act(robotOf(number));
            }
            clock++;
            int done = 0;
            for (int number = 0; number < robotCount; number++) {
                Robot robot = robotOf(number);
                int place = robot.plan.placeAt(clock);
                if (place >= 0) {
                    put(visitCounts, place, at(visitCounts, place) + 1);
                }
                if (robot.serving >= 0 && isIdle(number)) {
                    finishTaskOf(robot, number);
                    done++;
                }
            }
            return done;
        }

        private void act(Robot robot) {
            int action = robot.plan.actionAt(clock);
            int place = robot.plan.placeAt(clock);
            if (action >= RIDE) {
                if (place >= 0) {
                    robot.spend(RIDES, RIDE_COST);
                }
            } else if (action != WAIT) {
                robot.spend(MOVES, 1);
            } else {
                robot.raiseStatistic(WAITS, 1);
                if (at(floor.kinds, place) == CHARGER) {
                    robot.gain();
                }
            }
        }

        private void finishTaskOf(Robot robot, int number) {
            Task task = taskOf(robot.serving);
            task.become(DONE, NO_REASON, number);
            task.doneAt = clock;
            robot.serving = NONE;
            robot.raiseStatistic(TASKS_DONE, 1);
        }

        /**
         * The open task whose rank is the lowest above another one, NONE if there is none. Ranks put
         * tasks in the order of their deadlines, and of equal ones in that of their numbers.
         */
        int nextOpenTask(int rank) {
            int next = NONE;
            for (int number = 0; number < taskCount; number++) {
                boolean isLater = taskOf(number).state == OPEN && rankOf(number) > rank;
                if (isLater && (next < 0 || rankOf(number) < rankOf(next))) {
                    next = number;
                }
            }
            return next;
        }

        int rankOf(int number) {
            return taskOf(number).deadline * MAX_TASKS + number;
        }
    }

    /** Finds best routes between the plans of the other robots. Times count from the clock on. */
    private static final class Finder {
        private final Floor floor;
        /** Walls and cells of other robots at each time. */
        private final long[] closed = new long[HORIZON + 1];
        /** The cells at which an action can't begin in a tick, at tick * ACTIONS + action. */
        private final long[] barred = new long[HORIZON * ACTIONS];
        /** The cells that are reached at each time. */
        private final long[] reached = new long[HORIZON + 1];
        /** The least cost to the goal, at time * CELLS + cell; FAR where nothing can be, or leads nowhere. */
        private final int[] costs = new int[(HORIZON + 1) * CELLS];

        Finder(Floor floor) {
            this.floor = floor;
        }

        /**
         * Begins a route of a robot, without actions at first. It is to avoid the plans of all others
         * but one that is thought absent.
         */
        void begin(Plan route, World world, int mover, int absent) {
            route.restAt(world.robotOf(mover).plan.placeAt(world.clock), world.clock);
            fillMasks(closed, floor.walls());
            fillMasks(barred, 0L);
            for (int number = 0; number < world.robotCount; number++) {
                if (number != mover && number != absent) {
                    avoid(world.robotOf(number).plan, world.clock);
                }
            }
        }

        private void avoid(Plan plan, int clock) {
            for (int time = 0; time <= HORIZON; time++) {
                join(closed, time, bit(plan.placeAt(clock + time)));
                int action = plan.actionAt(clock + time);
                if (action >= RIDE) {
                    barRides(time, action);
                } else if (action != WAIT) {
                    // only the move back from the cell where it ends would exchange cells with it
                    int back = action >= DOWN ? action - 2 : action + 2;
                    join(barred, time * ACTIONS + back, bit(plan.placeAt(clock + time + 1)));
                }
            }
        }

        /** A ride that begins up to two ticks before would still be in the lift. */
        private void barRides(int tick, int action) {
            for (int begin = Math.max(0, tick - RIDE_TICKS + 1); begin <= tick; begin++) {
                join(barred, begin * ACTIONS + action, ALL_CELLS);
            }
        }

        boolean isClosed(int cell, int time) {
            return (maskAt(closed, time) & bit(cell)) != 0L;
        }

        /** Appends the best route to a cell from where a route ends, or nothing if there is none. */
        boolean extend(Plan route, int goal, boolean isFinal) {
            int begin = route.ticks;
            int end = endOf(route, goal, isFinal);
            if (end < 0) {
                return false;
            }
            countCosts(goal, begin, end);
            walk(route, end);
            return true;
        }

        /** The time at which the best route to a cell from where a route ends would end, or NONE. */
        int endOf(Plan route, int goal, boolean isFinal) {
            int first = route.ticks;
            spread(route.lastPlace(), first);
            for (int time = 0; isFinal && time <= HORIZON; time++) {
                if (isClosed(goal, time)) {
                    first = Math.max(first, time + 1);
                }
            }
            for (int time = first; time <= HORIZON; time++) {
                if ((maskAt(reached, time) & bit(goal)) != 0L) {
                    return time;
                }
            }
            return NONE;
        }

        private void spread(int cell, int begin) {
            fillMasks(reached, 0L);
            join(reached, begin, bit(cell));
            for (int time = begin; time < HORIZON; time++) {
                long here = maskAt(reached, time);
                long next = here;
                for (int action = UP; action <= LEFT; action++) {
                    next |= moved(here & ~maskAt(barred, time * ACTIONS + action), action);
                }
                join(reached, time + 1, next & ~maskAt(closed, time + 1));
                for (int lift = 0; lift < floor.lifts; lift++) {
                    long riders = here & ~maskAt(barred, time * ACTIONS + RIDE + lift);
                    long one = bit(at(floor.ends, 2 * lift));
                    long other = bit(at(floor.ends, 2 * lift + 1));
                    long landed = ((riders & one) != 0L ? other : 0L) | ((riders & other) != 0L ? one : 0L);
                    join(reached, time + RIDE_TICKS, landed & ~maskAt(closed, time + RIDE_TICKS));
                }
            }
        }

        /** Goes back in time from the goal, as the least costs at a time follow from later ones. */
        private void countCosts(int goal, int begin, int end) {
            for (int cell = 0; cell < CELLS; cell++) {
                put(costs, end * CELLS + cell, cell == goal ? 0 : FAR);
            }
            for (int time = end - 1; time >= begin; time--) {
                long here = maskAt(reached, time);
                for (int cell = 0; cell < CELLS; cell++) {
                    int least = FAR;
                    for (int action = 0; (here & bit(cell)) != 0L && action < ACTIONS; action++) {
                        least = Math.min(least, costThrough(time, cell, action, end));
                    }
                    put(costs, time * CELLS + cell, least);
                }
            }
        }

        /** The least cost to the goal if an action comes first. */
        private int costThrough(int time, int cell, int action, int end) {
            int target = at(floor.links, cell * ACTIONS + action);
            int after = time + ticksOf(action);
            if (target < 0 || after > end) {
                return FAR;
            }
            int left = at(costs, after * CELLS + target);
            if (left >= FAR || (maskAt(barred, time * ACTIONS + action) & bit(cell)) != 0L) {
                return FAR;
            }
            return costOf(action) + left;
        }

        /** Takes the lowest action each time that still leads to the goal at the least cost. */
        private void walk(Plan route, int end) {
            for (int step = 0; step < HORIZON && route.ticks < end; step++) {
                int time = route.ticks;
                int cell = route.lastPlace();
                int action = WAIT;
                int least = at(costs, time * CELLS + cell);
                while (action < ACTIONS - 1 && costThrough(time, cell, action, end) > least) {
                    action++;
                }
                route.addAction(action, at(floor.links, cell * ACTIONS + action));
            }
        }
    }

    /** Plans robots of a world and lets them serve its tasks. */
    private static final class Planner {
        private final World world;
        private final Finder finder;
        /** The route that was found last. */
        final Plan route = new Plan();

        Planner(World world) {
            this.world = world;
            finder = new Finder(world.floor);
        }

        boolean findFinal(int robot, int cell) {
            finder.begin(route, world, robot, NONE);
            return finder.extend(route, cell, true);
        }

        private boolean hasFinalWithout(int absent, int robot, int cell) {
            finder.begin(route, world, robot, absent);
            return finder.endOf(route, cell, true) >= 0;
        }

        boolean isAffordable(int robot) {
            return route.cost <= world.robotOf(robot).battery;
        }

        boolean isPlannable(int robot, int cell) {
            return findFinal(robot, cell) && isAffordable(robot);
        }

        /** Makes the route the plan of a robot, which serves a task by it or none. */
        void adopt(int robot, int task) {
            Robot planned = world.robotOf(robot);
            world.reopenTaskOf(planned);
            planned.plan.copyFrom(route);
            planned.serving = task;
        }

        int blockersOf(int robot, int cell) {
            int blockers = 0;
            if (hasFinalWithout(NONE, robot, cell)) {
                return blockers;
            }
            for (int other = 0; other < world.robotCount; other++) {
                if (other != robot && hasFinalWithout(other, robot, cell)) {
                    blockers |= 1 << other;
                }
            }
            return blockers;
        }

        /** Plans another robot and then a robot to a cell; returns the other one, NONE if none can. */
        int moveAside(int robot, int cell) {
            for (int other = 0; other < world.robotCount; other++) {
                // where the other one moves does not matter if there is no route even without it
                boolean mayHelp = other != robot && world.isIdle(other) && hasFinalWithout(other, robot, cell);
                for (int refuge = 0; mayHelp && refuge < CELLS; refuge++) {
                    if (isPlannable(other, refuge)) {
                        int place = world.robotOf(other).plan.placeAt(world.clock);
                        adopt(other, NONE);
                        if (isPlannable(robot, cell)) {
                            adopt(robot, NONE);
                            return other;
                        }
                        world.robotOf(other).plan.restAt(place, world.clock);
                    }
                }
            }
            return NONE;
        }

        int nearestCharger(int robot) {
            int nearest = NONE;
            int ticks = FAR;
            for (int cell = 0; cell < CELLS; cell++) {
                boolean isCharger = at(world.floor.kinds, cell) == CHARGER;
                if (isCharger && isPlannable(robot, cell) && route.ticks < ticks) {
                    nearest = cell;
                    ticks = route.ticks;
                }
            }
            return nearest;
        }

        /** Returns the reason of refusing; without one, the route is the plan by which to serve the task. */
        private int findService(int task, int robot) {
            Task wanted = world.taskOf(task);
            if (world.isInLift(robot)) {
                return IN_LIFT;
            }
            finder.begin(route, world, robot, NONE);
            if (!finder.extend(route, wanted.from, false)) {
                return NO_ROUTE_TO_FIRST;
            }
            if (!waitUntil(wanted.release)) {
                return NO_WAITING;
            }
            if (!finder.extend(route, wanted.to, true)) {
                return NO_ROUTE_TO_SECOND;
            }
            if (world.clock + route.ticks > wanted.deadline) {
                return TOO_LATE;
            }
            return isAffordable(robot) ? NO_REASON : TOO_DEAR;
        }

        private boolean waitUntil(int release) {
            int end = release - world.clock;
            int cell = route.lastPlace();
            if (end > HORIZON) {
                return false;
            }
            for (int time = route.ticks + 1; time <= end; time++) {
                if (finder.isClosed(cell, time)) {
                    return false;
                }
                route.addAction(WAIT, cell);
            }
            return true;
        }

        int letServe(int task, int robot) {
            int reason = findService(task, robot);
            if (reason == NO_REASON) {
                adopt(robot, task);
                world.taskOf(task).become(SERVED, NO_REASON, robot);
            } else {
                world.taskOf(task).become(REFUSED, reason, NONE);
            }
            return reason;
        }

        int bestFor(int task, boolean isIdleWanted) {
            int best = NONE;
            int ticks = FAR;
            for (int robot = 0; robot < world.robotCount; robot++) {
                boolean isAsked = !isIdleWanted || world.isIdle(robot);
                if (isAsked && findService(task, robot) == NO_REASON && route.ticks < ticks) {
                    best = robot;
                    ticks = route.ticks;
                }
            }
            return best;
        }

        int assignOpenTasks() {
            int served = 0;
            int rank = NONE;
            for (int round = 0; round < MAX_TASKS; round++) {
                int task = world.nextOpenTask(rank);
                if (task < 0) {
                    return served;
                }
                rank = world.rankOf(task);
                int robot = bestFor(task, true);
                if (robot >= 0 && letServe(task, robot) == NO_REASON) {
                    served++;
                }
            }
            return served;
        }
    }

    /** Copies of robots. */
    private static final class Shelves {
        final int[] filled = new int[SHELVES * PLACES];
        final int[] numbers = new int[SHELVES * PLACES * SAMPLE_NUMBERS];

        void store(int slot, int robot, int cell, int battery, int clock) {
            put(filled, slot, 1);
            put(numbers, slot * SAMPLE_NUMBERS, robot);
            put(numbers, slot * SAMPLE_NUMBERS + 1, cell);
            put(numbers, slot * SAMPLE_NUMBERS + 2, battery);
            put(numbers, slot * SAMPLE_NUMBERS + 3, clock);
        }

        int held(int shelf) {
            int places = 0;
            for (int place = 0; place < PLACES; place++) {
                places += at(filled, shelf * PLACES + place);
            }
            return places;
        }
    }

    /** The input and the entries that were read from it. */
    private static final class Script {
        int length;
        int entries;
        final int[] letters = new int[MAX_ENTRIES];
        final int[] firsts = new int[MAX_ENTRIES];
        final int[] seconds = new int[MAX_ENTRIES];
        private final int[] input = new int[MAX_INPUT];
        /** The index of the next character; where reading fails, it is the error position. */
        private int next;
        private int number;

        void add(char character) {
            put(input, length, character);
            length++;
        }

        /** Returns the error position, NONE if the input is a text. */
        int parse() {
            entries = 0;
            next = 0;
            do {
                if (!parseEntry()) {
                    return next;
                }
                entries++;
            } while (next < length && entries < MAX_ENTRIES);
            return next < length ? next : NONE;
        }

        private boolean parseEntry() {
            int letter = peek();
            boolean isLift = letter == 'l';
            if (!isLift && letter != 'w' && letter != 'c' && letter != 'f' && letter != 'r') {
                return false;
            }
            put(letters, entries, letter);
            next++;
            if (!parseNumber()) {
                return false;
            }
            put(firsts, entries, number);
            if (isLift && !(parseSign('-') && parseNumber())) {
                return false;
            }
            put(seconds, entries, number);
            return parseSign(';');
        }

        private boolean parseNumber() {
            if (!isDigit(peek())) {
                return false;
            }
            number = peek() - '0';
            next++;
            if (!isDigit(peek())) {
                return true;
            }
            number = number * 10 + (peek() - '0');
            if (!isCell(number)) {
                return false;
            }
            next++;
            return true;
        }

        private boolean parseSign(char sign) {
            if (peek() != sign) {
                return false;
            }
            next++;
            return true;
        }

        /** The next character, NONE behind the last one. */
        private int peek() {
            return next < length ? at(input, next) : NONE;
        }

        private static boolean isDigit(int character) {
            return character >= '0' && character <= '9';
        }
    }
}
