/** The boundary cases of ticks, and of promises 27 to 33. */
public final class BoundaryTimeTest extends Checks {

    /** 5 robots at the first cells of the rows, and as many tasks, each one a move away from a robot. */
    private static Trial five() {
        Trial x = new Trial();
        for (int r = 0; r < 5; r++) {
            x.addRobot(r * 8, 100);
            x.addTask(r * 8, r * 8 + 1, 0, 1000);
        }
        return x;
    }

    // ---- Description: Ticks

    @Sentence("In a tick, each robot does what its plan tells, and the clock increases by 1.")
    private static void p00TicksEachRobotActs() {
        Trial x = new Trial();
        x.addLift(16, 23);
        for (int r = 0; r < 5; r++) {
            x.addRobot(r * 8, 100);
        }
        x.plan(0, 1);
        x.plan(1, 9);
        x.plan(2, 23);
        x.addTask(24, 25, 2, 100);
        x.serve(0, 3);
        int[][] cells = {{0, 8, 16, 24, 32}, {1, 9, -1, 24, 32}, {1, 9, -1, 24, 32}, {1, 9, 23, 25, 32}};
        for (int t = 0; t < 4; t++) {
            due(t, x.count(5));
            for (int r = 0; r < 5; r++) {
                due(cells[t][r], x.robot(r, 0));
            }
            due(t == 2 ? 1 : 0, x.advance(1));
        }
    }

    @Sentence("A move costs the battery 1, and a ride 2, at its first tick.")
    private static void p00TicksCosts() {
        Trial x = liftFloor();
        x.addRobot(2, 4);
        x.addRobot(39, 0);
        due(5, x.plan(0, 6));
        int[] battery = {4, 3, 1, 1, 1, 0, 0};
        for (int b : battery) {
            due(b, x.robot(0, 1));
            due(0, x.robot(1, 1));
            x.advance(1);
        }
        // all at once is the same
        Trial y = liftFloor();
        y.addRobot(2, 4);
        y.plan(0, 6);
        y.advance(30);
        due(0, y.robot(0, 1));
    }

    @Sentence("A robot that waits at a charger in a tick gains 5, or what is missing to 100 if that is less.")
    private static void p00TicksChargerGains() {
        for (int battery = 0; battery <= 100; battery++) {
            Trial x = new Trial();
            x.setCell(39, CHARGER);
            x.addRobot(39, battery);
            x.addRobot(38, battery);
            x.advance(1);
            int gain = battery <= 95 ? 5 : 100 - battery;
            due(battery + gain, x.robot(0, 1));
            due(gain, x.statistic(0, 4));
            due(battery, x.robot(1, 1));
            due(0, x.statistic(1, 4));
            x.advance(30);
            due(100, x.robot(0, 1));
            due(100 - battery, x.statistic(0, 4));
        }
        Trial empty = new Trial();
        empty.setCell(0, CHARGER);
        empty.addRobot(0, 0);
        empty.advance(19);
        due(95, empty.robot(0, 1));
        empty.advance(1);
        due(100, empty.robot(0, 1));
        empty.advance(30);
        due(100, empty.robot(0, 1));
        due(100, empty.statistic(0, 4));
    }

    @Sentence("A robot that waits at a charger in a tick gains 5")
    private static void p00TicksOnlyWhoWaitsGains() {
        Trial x = liftFloor();
        for (int c : new int[] {2, 3, 5, 6}) {
            x.setCell(c, CHARGER);
        }
        x.addRobot(2, 50);
        x.addTask(3, 6, 3, 100);
        due(0, x.serve(0, 0));
        due("20052", rest(x, 0));
        // to leave a charger, to come to one and to ride gain nothing, to wait as planned does
        int[] battery = {50, 49, 54, 59, 57, 57, 57, 56, 61, 66};
        for (int b : battery) {
            due(b, x.robot(0, 1));
            x.advance(1);
        }
        // what counts is what the cell is in the tick
        x.setCell(6, FREE);
        int now = x.robot(0, 1);
        x.advance(1);
        due(now, x.robot(0, 1));
        x.setCell(6, CHARGER);
        x.advance(1);
        due(now + 5, x.robot(0, 1));
    }

    // ---- Promise 27

    @Sentence({"Lets ticks happen.", "`ticks`: the number of ticks, 1 to 30"})
    private static void p27TicksRange() {
        Trial x = new Trial();
        x.addRobot(0, 100);
        due(0, x.advance(1));
        due(1, x.count(5));
        due(0, x.advance(30));
        due(31, x.count(5));
        due(31, x.statistic(0, 2));
        for (int ticks = 2; ticks <= 29; ticks++) {
            int before = x.count(5);
            due(0, x.advance(ticks));
            due(before + ticks, x.count(5));
        }
    }

    @Sentence("Returns the number of tasks that were done meanwhile.")
    private static void p27Returns() {
        Trial x = five();
        due(0, x.advance(1));
        due(5, x.assignAll());
        due(5, x.advance(1));
        due(0, x.advance(30));
        // in different ticks of one call, the last one included
        Trial y = new Trial();
        for (int r = 0; r < 5; r++) {
            y.addRobot(r * 8, 100);
            y.addTask(r * 8, r * 8 + 1, r < 4 ? r * 9 : 29, 1000);
        }
        due(5, y.assignAll());
        due(3, y.advance(27));
        due(2, y.tasksIn(1));
        due(1, y.advance(1));
        due(0, y.advance(1));
        due(1, y.advance(1));
    }

    @Sentence("Throws `IllegalArgumentException` if ticks is out of range")
    private static void p27TicksOutOfRange() {
        Trial x = five();
        x.assignAll();
        refusedEach(x, ARGUMENT, outside(1, 30), x::advance);
        pass(x, 990);
        refusedEach(x, ARGUMENT, outside(1, 30), x::advance);
        pass(x, 10);
        refusedEach(x, ARGUMENT, outside(1, 30), x::advance);
    }

    @Sentence("Throws `IllegalStateException` if the clock would become greater than 1000")
    private static void p27LastTime() {
        Trial x = five();
        pass(x, 970);
        x.assignAll();
        x.save();
        due(5, x.advance(30));
        due(1000, x.count(5));
        for (int ticks = 1; ticks <= 30; ticks++) {
            int t = ticks;
            refused(x, STATE, () -> x.advance(t));
        }
        due(970, x.restore());
        due(5, x.advance(1));
        refused(x, STATE, () -> x.advance(30));
        due(0, x.advance(29));
        refused(x, STATE, () -> x.advance(1));
        // all else can be asked for and done at the last time
        due(1, x.plan(0, 2));
        due(5, x.addTask(20, 21, 1000, 1000));
        due(2, x.cellAfter(0, 30));
    }

    // ---- Promise 28

    @Sentence("Returns a statistic of a robot, since it was added.")
    private static void p28SinceItWasAdded() {
        Trial x = new Trial();
        x.addRobot(0, 100);
        x.advance(30);
        x.addRobot(39, 100);
        x.addRobot(38, 100);
        for (int k = 0; k <= 4; k++) {
            due(0, x.statistic(1, k));
        }
        x.plan(2, 37);
        x.advance(1);
        due(31, x.statistic(0, 2));
        due(1, x.statistic(1, 2));
        due(0, x.statistic(2, 2));
        due(1, x.statistic(2, 0));
        x.clear();
        x.addRobot(0, 100);
        due(0, x.statistic(0, 2));
    }

    @Sentence("`what`: 0 for moves to neighbors, 1 for rides that have begun, 2 for ticks in which it waited, "
        + "3 for tasks done, 4 for what its battery gained")
    private static void p28EachStatistic() {
        Trial x = liftFloor();
        x.setCell(3, CHARGER);
        x.setCell(6, CHARGER);
        x.addRobot(2, 100);
        x.addTask(3, 6, 3, 100);
        due(0, x.serve(0, 0));
        due("20052", rest(x, 0));
        // moves, rides, waits, tasks, gained; it has 100 but what the moves and the ride cost
        int[][] want = {{0, 0, 0, 0, 0}, {1, 0, 0, 0, 0}, {1, 0, 1, 0, 1}, {1, 0, 2, 0, 1}, {1, 1, 2, 0, 1},
            {1, 1, 2, 0, 1}, {1, 1, 2, 0, 1}, {2, 1, 2, 1, 1}, {2, 1, 3, 1, 4}, {2, 1, 4, 1, 4}};
        for (int[] w : want) {
            for (int k = 0; k <= 4; k++) {
                due(w[k], x.statistic(0, k));
            }
            x.advance(1);
        }
        due(100, x.robot(0, 1));
    }

    @Sentence("2 for ticks in which it waited")
    private static void p28UpToThousandTicks() {
        Trial x = new Trial();
        x.addRobot(0, 100);
        pass(x, 1000);
        int[] want = {0, 0, 1000, 0, 0};
        for (int k = 0; k <= 4; k++) {
            due(want[k], x.statistic(0, k));
        }
        // one robot does all 12 tasks
        Trial y = new Trial();
        y.addRobot(0, 100);
        for (int t = 0; t < 12; t++) {
            y.addTask(t % 2, 1 - t % 2, 0, 1000);
        }
        for (int t = 1; t <= 12; t++) {
            y.assignAll();
            y.advance(1);
            due(t, y.statistic(0, 3));
            due(t, y.statistic(0, 0));
        }
    }

    @Sentence({"`robot`: the number of the robot", "Throws `IndexOutOfBoundsException` if there is no such robot"})
    private static void p28RobotRange() {
        Trial none = new Trial();
        refusedEach(none, INDEX, outside(0, -1), r -> none.statistic(r, 0));
        Trial x = five();
        x.plan(4, 33);
        x.advance(1);
        due(1, x.statistic(0, 2));
        due(0, x.statistic(4, 2));
        refusedEach(x, INDEX, outside(0, 4), r -> x.statistic(r, 0));
        refusedEach(x, INDEX, outside(0, 4), r -> x.statistic(r, 5));
    }

    @Sentence("Throws `IllegalArgumentException` if what is not 0 to 4")
    private static void p28WhatRange() {
        Trial x = five();
        refusedEach(x, ARGUMENT, outside(0, 4), k -> x.statistic(0, k));
        refusedEach(x, ARGUMENT, outside(0, 4), k -> x.statistic(4, k));
        refusedEach(x, INDEX, outside(0, 4), k -> x.statistic(5, k));
    }

    // ---- Promise 29

    @Sentence({"Returns the activity of a robot: the number of ticks since it was added in which it did not wait, "
        + "divided by the number of all ticks since then, both converted to float.", "Returns the activity."})
    private static void p29Activity() {
        Trial x = liftFloor();
        x.advance(7);
        x.addRobot(2, 100);
        x.addRobot(39, 100);
        x.plan(0, 6);
        // all ticks of a ride count
        for (int t = 1; t <= 5; t++) {
            x.advance(1);
            due(1.0f, x.activity(0));
            due(0.0f, x.activity(1));
        }
        for (int t = 6; t <= 30; t++) {
            x.advance(1);
            due(5.0f / (float) t, x.activity(0));
        }
        pass(x, 1000 - 37);
        due(5.0f / 993.0f, x.activity(0));
        due(0.0f, x.activity(1));
        // waiting as planned is waiting
        Trial y = new Trial();
        y.addRobot(0, 100);
        y.addTask(0, 1, 2, 100);
        y.serve(0, 0);
        y.advance(3);
        due(1.0f / 3.0f, y.activity(0));
        pass(y, 997);
        due(1.0f / 1000.0f, y.activity(0));
    }

    @Sentence({"`robot`: the number of the robot", "Throws `IndexOutOfBoundsException` if there is no such robot"})
    private static void p29RobotRange() {
        Trial none = new Trial();
        refusedEach(none, INDEX, outside(0, -1), none::activity);
        Trial x = five();
        refusedEach(x, INDEX, outside(0, 4), x::activity);
        x.plan(4, 33);
        x.advance(1);
        refusedEach(x, INDEX, outside(0, 4), x::activity);
        due(0.0f, x.activity(0));
        due(1.0f, x.activity(4));
    }

    @Sentence("Throws `ArithmeticException` if there was no tick since then")
    private static void p29NoTick() {
        Trial x = five();
        refusedEach(x, ARITHMETIC, new int[] {0, 1, 2, 3, 4}, x::activity);
        Trial y = new Trial();
        y.addRobot(0, 100);
        pass(y, 999);
        y.addRobot(1, 100);
        due(0.0f, y.activity(0));
        refused(y, ARITHMETIC, () -> y.activity(1));
        y.advance(1);
        due(0.0f, y.activity(1));
        y.addRobot(2, 100);
        refused(y, ARITHMETIC, () -> y.activity(2));
    }

    // ---- Promise 30

    @Sentence("Returns the bits of the activity, as Float.floatToIntBits tells them.")
    private static void p30Bits() {
        for (int moves = 0; moves <= 11; moves++) {
            Trial x = new Trial();
            x.addRobot(0, 100);
            if (moves > 0) {
                due(moves, x.plan(0, moves <= 7 ? moves : 7 + 8 * (moves - 7)));
            }
            for (int t = 5; t <= 1000; t += 5) {
                x.advance(5);
                due(Float.floatToIntBits((float) Math.min(moves, t) / (float) t), x.activityBits(0));
            }
        }
    }

    @Sentence("Returns the bits.")
    private static void p30KnownBits() {
        Trial x = new Trial();
        x.addRobot(0, 100);
        x.addRobot(8, 100);
        x.plan(0, 1);
        x.advance(1);
        due(0x3F800000, x.activityBits(0));
        due(0, x.activityBits(1));
        x.advance(1);
        due(0x3F000000, x.activityBits(0));
        x.advance(1);
        due(0x3EAAAAAB, x.activityBits(0));
        pass(x, 997);
        due(0x3A83126F, x.activityBits(0));
        due(0, x.activityBits(1));
    }

    @Sentence({"`robot`: the number of the robot", "Throws `IndexOutOfBoundsException` if there is no such robot"})
    private static void p30RobotRange() {
        Trial none = new Trial();
        refusedEach(none, INDEX, outside(0, -1), none::activityBits);
        Trial x = five();
        refusedEach(x, INDEX, outside(0, 4), x::activityBits);
        x.plan(4, 33);
        x.advance(1);
        refusedEach(x, INDEX, outside(0, 4), x::activityBits);
        due(0, x.activityBits(0));
        due(0x3F800000, x.activityBits(4));
    }

    @Sentence("Throws `ArithmeticException` if there was no tick since then")
    private static void p30NoTick() {
        Trial x = five();
        refusedEach(x, ARITHMETIC, new int[] {0, 1, 2, 3, 4}, x::activityBits);
        Trial y = new Trial();
        pass(y, 1000);
        y.addRobot(1, 100);
        refused(y, ARITHMETIC, () -> y.activityBits(0));
    }

    // ---- Promise 31

    @Sentence({"Returns the average number of ticks from the release time of a task, or from the time at which "
        + "it was added if that is later, to the time at which it was done, of all tasks that are done, as a double.",
        "Returns the average."})
    private static void p31Average() {
        // added at 10, released a tick before, then, and a tick later; done when the time is 12
        double[] want = {2.0, 2.0, 1.0};
        for (int k = 0; k < 3; k++) {
            Trial x = new Trial();
            x.addRobot(0, 100);
            x.advance(10);
            x.addTask(1, 2, 9 + k, 100);
            due(0, x.serve(0, 0));
            due(1, x.advance(2));
            due(want[k], x.averageDelay());
            x.advance(30);
            due(want[k], x.averageDelay());
        }
        Trial x = new Trial();
        x.addRobot(0, 100);
        double sum = 0;
        for (int t = 0; t < 12; t++) {
            x.addTask(t % 2, 1 - t % 2, 0, 1000);
        }
        for (int t = 0; t < 12; t++) {
            due(1, x.assignAll());
            due(1, x.advance(t + 1));
            sum += (t * (t + 1) / 2) + 1;
            due(sum / (t + 1), x.averageDelay());
        }
    }

    @Sentence("of all tasks that are done")
    private static void p31LongestDelay() {
        Trial x = new Trial();
        x.addRobot(0, 100);
        x.addTask(0, 1, 0, 1000);
        x.addTask(1, 0, 1000, 1000);
        x.addTask(1, 0, 0, 0);
        pass(x, 999);
        due(0, x.serve(0, 0));
        refused(x, ARITHMETIC, x::averageDelay);
        due(1, x.advance(1));
        due(5, x.serve(2, 0));
        due(1000.0, x.averageDelay());
    }

    @Sentence("Throws `ArithmeticException` if no task is done")
    private static void p31NoTaskDone() {
        Trial none = new Trial();
        refused(none, ARITHMETIC, none::averageDelay);
        Trial x = five();
        refused(x, ARITHMETIC, x::averageDelay);
        x.assignAll();
        x.addTask(39, 38, 0, 0);
        x.serve(5, 0);
        refused(x, ARITHMETIC, x::averageDelay);
        x.advance(1);
        due(1.0, x.averageDelay());
        x.clear();
        refused(x, ARITHMETIC, x::averageDelay);
    }

    // ---- Promise 32

    @Sentence("Returns the number of times that robots were at a cell behind a tick so far.")
    private static void p32BehindATick() {
        Trial x = liftFloor();
        x.addRobot(3, 100);
        x.addRobot(39, 100);
        x.plan(0, 6);
        due(0, x.visits(3));
        due(0, x.visits(39));
        int[][] cells = {{3, 0, 0, 0, 0}, {5, 0, 0, 1, 1}, {6, 0, 0, 0, 1}, {39, 1, 2, 3, 4}};
        for (int t = 1; t <= 4; t++) {
            x.advance(1);
            for (int[] c : cells) {
                due(c[t], x.visits(c[0]));
            }
        }
        // two robots one after the other
        x.plan(0, 5);
        x.advance(1);
        due(2, x.visits(5));
        due(1, x.visits(6));
        Trial y = corridor();
        y.addRobot(0, 100);
        y.addRobot(1, 100);
        y.plan(1, 3);
        y.plan(0, 2);
        y.advance(2);
        due(1, y.visits(1));
        due(2, y.visits(2));
        due(1, y.visits(3));
        // when other robots go and come, they stay
        y.setCell(1, WALL);
        due(1, y.visits(1));
    }

    @Sentence({"`cell`: the number of the cell, 0 to 39", "Returns the number."})
    private static void p32UpToThousand() {
        Trial x = new Trial();
        x.addRobot(0, 100);
        x.addRobot(39, 0);
        for (int c = 0; c < 40; c++) {
            due(0, x.visits(c));
        }
        pass(x, 1000);
        for (int c = 0; c < 40; c++) {
            due(c == 0 || c == 39 ? 1000 : 0, x.visits(c));
        }
    }

    @Sentence("Throws `IndexOutOfBoundsException` if there is no such cell")
    private static void p32NoSuchCell() {
        Trial x = five();
        x.advance(1);
        refusedEach(x, INDEX, noCell(), x::visits);
    }

    // ---- Promise 33

    @Sentence({"Returns the cell with the most visits; the one with the lowest number of several.",
        "Returns the cell."})
    private static void p33MostVisits() {
        Trial none = new Trial();
        due(0, none.busiestCell());
        none.advance(30);
        due(0, none.busiestCell());
        for (int c = 0; c < 40; c++) {
            Trial x = new Trial();
            x.addRobot(c, 100);
            due(0, x.busiestCell());
            x.advance(1);
            due(c, x.busiestCell());
        }
        // five robots with as many visits, then one visit more for one of them
        Trial x = new Trial();
        for (int r = 0; r < 5; r++) {
            x.addRobot(39 - r, 100);
        }
        x.advance(3);
        due(35, x.busiestCell());
        x.plan(4, 27);
        x.advance(1);
        due(36, x.busiestCell());
        x.plan(3, 28);
        x.plan(2, 29);
        x.plan(1, 30);
        x.advance(1);
        due(39, x.busiestCell());
        x.advance(4);
        due(39, x.busiestCell());
        due(9, x.visits(39));
        x.clear();
        due(0, x.busiestCell());
    }

    public static void main(String[] args) throws Exception {
        runTests(BoundaryTimeTest.class);
    }
}
