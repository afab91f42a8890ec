import java.util.stream.IntStream;

/** The boundary cases of the floor, the robots, time and plans, and of promises 1 to 10. */
public final class BoundaryFloorTest extends Checks {

    private static boolean areNeighbors(int a, int b) {
        return Math.abs(a % 8 - b % 8) + Math.abs(a / 8 - b / 8) == 1;
    }

    /** The neighbor of a cell in the direction of action 1 to 4, or -1. */
    private static int neighbor(int cell, int action) {
        int row = cell / 8 + (action == 1 ? -1 : action == 3 ? 1 : 0);
        int column = cell % 8 + (action == 4 ? -1 : action == 2 ? 1 : 0);
        return row < 0 || row > 4 || column < 0 || column > 7 ? -1 : row * 8 + column;
    }

    /** As much as there can be: 5 robots, 2 lifts, 12 tasks. */
    private static Trial full() {
        Trial x = new Trial();
        for (int r = 0; r < 5; r++) {
            x.addRobot(r * 8, 100 - r * 25);
        }
        x.addLift(7, 39);
        x.addLift(38, 6);
        for (int t = 0; t < 12; t++) {
            x.addTask(t, t + 1, t, 40);
        }
        return x;
    }

    // ---- Description: Floor

    @Sentence("There are 40 cells in 5 rows of 8: cell c is in column c % 8 and row c / 8, rounded down.")
    private static void p00FloorHasFortyCells() {
        for (int from = 0; from < 40; from++) {
            Trial x = new Trial();
            due(40, x.region(from));
            for (int to = 0; to < 40; to++) {
                due(Math.abs(from % 8 - to % 8) + Math.abs(from / 8 - to / 8), x.ticksBetween(from, to));
            }
        }
        Trial x = new Trial();
        refusedEach(x, INDEX, noCell(), x::cell);
    }

    @Sentence("A cell is free, as at first, or a wall, or a charger.")
    private static void p00FloorCellIsFreeAtFirst() {
        Trial x = new Trial();
        for (int c = 0; c < 40; c++) {
            due(FREE, x.cell(c));
            for (int kind : new int[] {WALL, CHARGER, FREE}) {
                x.setCell(c, kind);
                due(kind, x.cell(c));
            }
        }
    }

    @Sentence("Neighbors are cells in the same row and adjacent columns, or in the same column and adjacent rows.")
    private static void p00FloorNeighbors() {
        for (int a = 0; a < 40; a++) {
            for (int b = 0; b < 40; b++) {
                Trial x = only(a, b);
                due(a == b ? 1 : areNeighbors(a, b) ? 2 : 1, x.region(a));
            }
        }
    }

    @Sentence("There are at most 2 lifts, numbered from 0 in the order in which they were added")
    private static void p00FloorAtMostTwoLifts() {
        Trial x = new Trial();
        due(0, x.count(1));
        due(0, x.addLift(0, 39));
        due(1, x.count(1));
        due(1, x.addLift(1, 38));
        due(2, x.count(1));
        refused(x, STATE, () -> x.addLift(2, 37));
        x.addRobot(0, 100);
        x.addRobot(1, 100);
        due(3, x.plan(0, 39));
        due(3, x.plan(1, 38));
        due("5", rest(x, 0));
        due("6", rest(x, 1));
    }

    @Sentence("a lift has two different cells, its ends, which are not ends of other lifts.")
    private static void p00FloorLiftEndsDiffer() {
        Trial x = new Trial();
        refusedEach(x, ARGUMENT, new int[] {0, 5, 39}, c -> x.addLift(c, c));
        due(0, x.addLift(0, 39));
        refusedEach(x, ARGUMENT, new int[] {0, 39}, c -> x.addLift(c, 1));
        refusedEach(x, ARGUMENT, new int[] {0, 39}, c -> x.addLift(1, c));
        refused(x, ARGUMENT, () -> x.addLift(0, 39));
        refused(x, ARGUMENT, () -> x.addLift(39, 0));
        due(1, x.addLift(1, 38));
    }

    // ---- Description: Robots

    @Sentence("There are at most 5 robots, numbered from 0 in the order in which they were added.")
    private static void p00RobotsAtMostFive() {
        Trial x = new Trial();
        refused(x, INDEX, () -> x.robot(0, 0));
        for (int r = 0; r < 5; r++) {
            due(r, x.addRobot(39 - r, 100));
            due(r + 1, x.count(0));
            due(39 - r, x.robot(r, 0));
        }
        refused(x, STATE, () -> x.addRobot(0, 100));
        refused(x, INDEX, () -> x.robot(5, 0));
        due(39, x.robot(0, 0));
        due(35, x.robot(4, 0));
    }

    @Sentence("has a battery from 0 to 100.")
    private static void p00RobotsBatteryRange() {
        Trial x = new Trial();
        due(0, x.addRobot(0, 0));
        due(1, x.addRobot(39, 100));
        due(2, x.addRobot(16, 3));
        refusedEach(x, ARGUMENT, outside(0, 100), b -> x.addRobot(20, b));
        x.setCell(39, CHARGER);
        due(3, x.plan(2, 19));
        x.advance(30);
        due(0, x.robot(0, 1));
        due(100, x.robot(1, 1));
        due(0, x.robot(2, 1));
        refused(x, UNSUPPORTED, () -> x.plan(0, 1));
        refused(x, UNSUPPORTED, () -> x.plan(2, 20));
        due(1, x.plan(1, 38));
        x.advance(1);
        due(99, x.robot(1, 1));
    }

    @Sentence("A robot is at a cell, or in a lift")
    private static void p00RobotsAtCellOrInLift() {
        Trial x = liftFloor();
        x.addRobot(2, 100);
        due(5, x.plan(0, 6));
        due("252", rest(x, 0));
        int[] cell = {2, 3, -1, -1, 5, 6, 6};
        for (int t = 0; t < cell.length; t++) {
            due(cell[t], x.robot(0, 0));
            due(cell[t] < 0 ? 0 : -1, x.robot(0, 5));
            x.advance(1);
        }
    }

    @Sentence("No two robots are at the same cell at the same time.")
    private static void p00RobotsNotAtTheSameCell() {
        Trial x = new Trial();
        x.addRobot(10, 100);
        refused(x, STATE, () -> x.addRobot(10, 100));
        x.addTask(11, 12, 29, 30);
        due(0, x.serve(0, 0));
        // it leaves cell 10 at once, and comes to cell 12 at the last time there is
        refusedEach(x, STATE, new int[] {10, 11, 12}, c -> x.addRobot(c, 100));
        x.advance(1);
        due(1, x.addRobot(10, 100));
        refused(x, STATE, () -> x.addRobot(11, 100));
        x.advance(29);
        due(12, x.robot(0, 0));
        due(2, x.addRobot(11, 100));
        refused(x, STATE, () -> x.addRobot(12, 100));
    }

    // ---- Description: Time and plans

    @Sentence("The clock is 0 at first.")
    private static void p00TimeClockIsZeroAtFirst() {
        Trial x = new Trial();
        due(0, x.count(5));
        due(0, x.save());
        x.advance(1);
        due(1, x.count(5));
    }

    @Sentence("0 wait, at the same cell; 1 up, 2 right, 3 down and 4 left, to a neighbor, "
        + "where up is to the row with the next lower number; 5 and 6 ride lift 0 or 1, from one of its ends to "
        + "the other one.")
    private static void p00TimeActions() {
        for (int c = 0; c < 40; c++) {
            Trial x = new Trial();
            x.addRobot(c, 100);
            for (int action = 1; action <= 4; action++) {
                int to = neighbor(c, action);
                if (to >= 0) {
                    due(1, x.plan(0, to));
                    due(action, x.action(0, 0));
                    due(to, x.cellAfter(0, 1));
                }
            }
        }
        Trial x = new Trial();
        x.addLift(0, 39);
        x.addLift(32, 7);
        x.addRobot(39, 100);
        x.addRobot(7, 100);
        due(3, x.plan(0, 0));
        due(3, x.plan(1, 32));
        due("5", rest(x, 0));
        due("6", rest(x, 1));
        x.advance(3);
        due(3, x.plan(0, 39));
        due(3, x.plan(1, 7));
        due("5", rest(x, 0));
        due("6", rest(x, 1));
        x.advance(3);
        x.addTask(39, 38, 8, 100);
        due(0, x.serve(0, 0));
        due("004", rest(x, 0));
        due(39, x.cellAfter(0, 1));
        due(39, x.cellAfter(0, 2));
        due(38, x.cellAfter(0, 3));
    }

    @Sentence("if it is at the one end at time t, it is at the other one at time t + 3, and at no cell at the "
        + "times between.")
    private static void p00TimeRideTakesThreeTicks() {
        int[][] ends = {{3, 5}, {5, 3}};
        for (int[] e : ends) {
            Trial x = liftFloor();
            x.addRobot(e[0], 100);
            due(3, x.plan(0, e[1]));
            int[] want = {e[0], -1, -1, e[1], e[1]};
            for (int t = 0; t < want.length; t++) {
                due(want[t], x.cellAfter(0, t));
                for (int c = 0; c < 40; c++) {
                    due(want[t] == c ? 0 : -1, x.robotAt(c, t));
                }
            }
        }
    }

    @Sentence("All other actions take one tick.")
    private static void p00TimeOtherActionsTakeOneTick() {
        Trial x = new Trial();
        x.addRobot(9, 100);
        for (int to : new int[] {1, 10, 17, 8}) {
            due(1, x.plan(0, to));
            due(1, x.robot(0, 2));
        }
        x.addTask(9, 10, 1, 100);
        due(0, x.serve(0, 0));
        due("02", rest(x, 0));
        due(2, x.robot(0, 2));
    }

    @Sentence("A plan costs 1 for each move to a neighbor and 2 for each ride.")
    private static void p00TimeCosts() {
        Trial x = liftFloor();
        x.addRobot(2, 100);
        due(0, x.plan(0, 2));
        due(0, x.robot(0, 3));
        due(1, x.plan(0, 3));
        due(1, x.robot(0, 3));
        due(4, x.plan(0, 5));
        due(3, x.robot(0, 3));
        due(5, x.plan(0, 6));
        due(4, x.robot(0, 3));
        // waiting costs nothing
        x.addTask(2, 3, 29, 100);
        due(0, x.serve(0, 0));
        due(30, x.robot(0, 2));
        due(1, x.robot(0, 3));
    }

    @Sentence("2 for each ride.")
    private static void p00TimeCostsOfBothLifts() {
        for (int battery = 4; battery <= 5; battery++) {
            Trial x = only(0, 20, 21, 39);
            x.addLift(0, 20);
            x.addLift(39, 21);
            x.addRobot(0, battery);
            due(5, x.routeCost(0, 39));
            if (battery == 4) {
                refused(x, UNSUPPORTED, () -> x.plan(0, 39));
            } else {
                due(7, x.plan(0, 39));
                due("526", rest(x, 0));
                int[] left = {5, 3, 3, 3, 2, 0, 0, 0};
                for (int cost : left) {
                    due(cost, x.robot(0, 3));
                    due(cost, x.robot(0, 1));
                    x.advance(1);
                }
                due(2, x.statistic(0, 1));
            }
        }
    }

    @Sentence("A robot whose plan is finished, or which has none, waits at its cell.")
    private static void p00TimeFinishedRobotWaits() {
        Trial x = new Trial();
        x.addRobot(39, 100);
        x.addRobot(0, 100);
        x.plan(1, 1);
        for (int t = 0; t <= 30; t++) {
            due(39, x.cellAfter(0, t));
            due(t == 0 ? 0 : 1, x.cellAfter(1, t));
        }
        x.advance(30);
        x.advance(30);
        due(39, x.robot(0, 0));
        due(1, x.robot(1, 0));
        due(60, x.statistic(0, 2));
        due(59, x.statistic(1, 2));
        for (int t = 0; t <= 30; t++) {
            due(1, x.cellAfter(1, t));
        }
    }

    @Sentence("A plan ends at most 30 ticks after the present time, which is called the horizon.")
    private static void p00TimeHorizonIsThirtyTicks() {
        // robot 1 leaves the corridor for the niche at cell 10 in the tick from the release time on
        for (int release = 24; release <= 25; release++) {
            Trial x = niche();
            x.addRobot(0, 100);
            x.addRobot(2, 100);
            x.addTask(2, 10, release, 100);
            due(0, x.serve(0, 1));
            if (release == 24) {
                due(30, x.plan(0, 7));
                due("0".repeat(23) + "2222222", rest(x, 0));
                due(6, x.cellAfter(0, 29));
                due(7, x.cellAfter(0, 30));
            } else {
                refused(x, NO_ELEMENT, () -> x.plan(0, 7));
                // one tick later the horizon is one tick further
                x.advance(1);
                due(30, x.plan(0, 7));
            }
        }
    }

    @Sentence("A plan ends at most 30 ticks after the present time")
    private static void p00TimeHorizonOfMovesAndRides() {
        Trial x = liftFloor();
        x.addRobot(3, 100);
        x.addTask(3, 5, 27, 100);
        x.addTask(3, 5, 28, 100);
        x.addTask(3, 2, 29, 100);
        x.addTask(3, 2, 30, 100);
        due(0, x.serve(0, 0));
        due(30, x.robot(0, 2));
        due(4, x.serve(1, 0));
        due(0, x.serve(2, 0));
        due(30, x.robot(0, 2));
        due(4, x.serve(3, 0));
        due(30, x.robot(0, 2));
    }

    // ---- Promise 1

    @Sentence("Creates a floor of free cells without robots, lifts and tasks.")
    private static void p01NewObjectIsEmpty() {
        Trial x = new Trial();
        for (int k = 0; k <= 5; k++) {
            due(0, x.count(k));
        }
        for (int c = 0; c < 40; c++) {
            due(FREE, x.cell(c));
            due(0, x.visits(c));
            due(-1, x.robotAt(c, 0));
            due(-1, x.robotAt(c, 30));
        }
        for (int state = 0; state <= 3; state++) {
            due(0, x.tasksIn(state));
        }
        for (int slot = 0; slot < 6; slot++) {
            int k = slot;
            dueThrow(NO_ELEMENT, () -> x.sampled(k / 3, k % 3, 0));
        }
        dueThrow(INDEX, () -> x.robot(0, 0));
        dueThrow(INDEX, () -> x.task(0, 0));
        dueThrow(NO_ELEMENT, x::errorPosition);
        dueThrow(STATE, x::restore);
        dueThrow(ARITHMETIC, x::averageDelay);
        due(0, x.busiestCell());
        due(0, x.assignAll());
        due(1, x.append('w'));
    }

    @Sentence("Creates a floor of free cells without robots, lifts and tasks.")
    private static void p01ObjectsShareNothing() {
        Trial x = full();
        x.setCell(20, WALL);
        x.sample(1, 0, 0);
        x.save();
        x.advance(1);
        type(x, "x");
        dueThrow(ARGUMENT, x::read);
        type(x, "w");
        p01NewObjectIsEmpty();
        due(5, x.count(0));
        due(2, x.append('1'));
    }

    // ---- Promise 2

    @Sentence("Removes all robots, lifts and tasks, makes all cells free and the clock 0, "
        + "and all statistics what they are at first.")
    private static void p02ClearOfAFullFloor() {
        Trial x = full();
        walls(x, 20, 21);
        x.setCell(22, CHARGER);
        x.setCell(38, CHARGER);
        due(0, x.serve(5, 0));
        x.plan(1, 9);
        pass(x, 1000);
        due(5, x.clear());
        due(sight(new Trial()), sight(x));
        dueThrow(ARITHMETIC, x::averageDelay);
        due(0, x.busiestCell());
        for (int r = 0; r < 5; r++) {
            due(r, x.addRobot(r, 0));
            int robot = r;
            dueThrow(ARITHMETIC, () -> x.activity(robot));
        }
        for (int r = 0; r < 5; r++) {
            for (int k = 0; k <= 4; k++) {
                due(0, x.statistic(r, k));
            }
            due(-1, x.robot(r, 4));
            due("", rest(x, r));
        }
        due(0, x.addLift(6, 38));
        due(1, x.addLift(39, 7));
        for (int t = 0; t < 12; t++) {
            due(t, x.addTask(1, 2, 0, 0));
            due(-1, x.task(t, 3));
        }
        due(0, x.advance(30));
    }

    @Sentence("Removes all robots")
    private static void p02ClearOfAnEmptyFloor() {
        Trial x = new Trial();
        due(0, x.clear());
        due(0, x.clear());
        due(sight(new Trial()), sight(x));
    }

    /** A floor without robots, tasks and visits, on which there were some before. */
    private static void dueNothingLeft(Trial x) {
        due(0, x.count(0));
        due(0, x.advance(2));
        for (int c = 0; c < 40; c++) {
            due(0, x.visits(c));
            due(-1, x.robotAt(c, 0));
        }
        due(0, x.busiestCell());
        for (int state = 0; state <= 3; state++) {
            due(0, x.tasksIn(state));
        }
        due(0, x.assignAll());
        due(0, x.addTask(1, 2, 0, 100));
        refused(x, NO_ELEMENT, () -> x.bestRobot(0));
        due(0, x.assignAll());
        due(FREE, x.setCell(2, WALL));
        due(0, x.addRobot(1, 0));
        due(0, x.blockers(0, 0));
        refused(x, NO_ELEMENT, () -> x.makeWay(0, 2));
        refused(x, NO_ELEMENT, () -> x.makeWay(0, 0));
    }

    @Sentence("Removes all robots, lifts and tasks")
    private static void p02ClearLeavesNobodyBehind() {
        Trial x = new Trial();
        x.save();
        for (int round = 0; round < 2; round++) {
            x.addRobot(1, 100);
            x.addRobot(0, 100);
            x.addTask(1, 2, 0, 100);
            x.addTask(0, 8, 0, 1000);
            x.serve(1, 1);
            x.advance(1);
            due(2, round == 0 ? x.clear() : x.count(0) + x.restore());
            dueNothingLeft(x);
            x.clear();
        }
    }

    @Sentence("The shelves, the input, the error position and what was saved stay.")
    private static void p02WhatClearLeaves() {
        Trial x = new Trial();
        x.addRobot(39, 77);
        x.advance(3);
        for (int slot = 0; slot < 6; slot++) {
            x.sample(slot / 3, slot % 3, 0);
        }
        type(x, "w39");
        dueThrow(ARGUMENT, x::read);
        x.save();
        type(x, "w00;w01;w02;w03;w04;w05;w06;w07;w08;w09;");
        due(1, x.clear());
        int[] copy = {0, 39, 77, 3};
        for (int k = 0; k < 24; k++) {
            due(copy[k % 4], x.sampled(k / 12, k / 4 % 3, k % 4));
        }
        due(3, x.errorPosition());
        dueThrow(STATE, () -> x.append('w'));
        due(10, x.read());
        due(10, x.count(3));
        due(3, x.restore());
        due(39, x.robot(0, 0));
    }

    @Sentence("Returns the number of robots that there were.")
    private static void p02ClearReturnsRobots() {
        for (int robots = 0; robots <= 5; robots++) {
            Trial x = new Trial();
            for (int r = 0; r < robots; r++) {
                x.addRobot(r, 1);
            }
            due(robots, x.clear());
            due(0, x.clear());
        }
    }

    // ---- Promise 3

    @Sentence("`cell`: the number of the cell, 0 to 39")
    private static void p03CellRange() {
        Trial x = new Trial();
        due(FREE, x.setCell(0, WALL));
        due(FREE, x.setCell(39, CHARGER));
        due(WALL, x.cell(0));
        due(CHARGER, x.cell(39));
        for (int kind = 0; kind <= 2; kind++) {
            int k = kind;
            refusedEach(x, INDEX, noCell(), c -> x.setCell(c, k));
        }
    }

    @Sentence("`kind`: 0 for free, 1 for a wall, 2 for a charger")
    private static void p03KindRange() {
        Trial x = new Trial();
        x.setCell(5, 1);
        due(1, x.count(3));
        due(39, x.region(0));
        x.setCell(5, 2);
        due(0, x.count(3));
        due(1, x.count(4));
        x.setCell(5, 0);
        due(0, x.count(4));
        due(40, x.region(0));
        refusedEach(x, ARGUMENT, outside(0, 2), k -> x.setCell(5, k));
    }

    @Sentence("Returns what it was before.")
    private static void p03ReturnsFormerKind() {
        for (int former = 0; former <= 2; former++) {
            for (int kind = 0; kind <= 2; kind++) {
                Trial x = new Trial();
                due(FREE, x.setCell(17, former));
                due(former, x.setCell(17, kind));
                due(kind, x.cell(17));
            }
        }
    }

    @Sentence("Throws `IndexOutOfBoundsException` if there is no such cell")
    private static void p03NoSuchCell() {
        Trial x = full();
        refusedEach(x, INDEX, noCell(), c -> x.setCell(c, 3));
        refusedEach(x, INDEX, outside(0, 2), k -> x.setCell(40, k));
        refusedEach(x, INDEX, outside(0, 2), k -> x.setCell(-1, k));
    }

    @Sentence("Throws `IllegalArgumentException` if kind is not 0 to 2")
    private static void p03NoSuchKind() {
        Trial x = full();
        // a robot is at cell 0, cell 7 is an end of a lift
        refusedEach(x, ARGUMENT, outside(0, 2), k -> x.setCell(0, k));
        refusedEach(x, ARGUMENT, outside(0, 2), k -> x.setCell(7, k));
    }

    @Sentence("Throws `IllegalStateException` if the cell would become a wall, and a robot is at it "
        + "at some time from now to the horizon, or it is an end of a lift")
    private static void p03WallWhereARobotIs() {
        Trial x = new Trial();
        x.addRobot(10, 100);
        x.addTask(11, 12, 29, 100);
        due(FREE, x.setCell(11, WALL));
        due(WALL, x.setCell(11, FREE));
        refused(x, STATE, () -> x.setCell(10, WALL));
        due(0, x.serve(0, 0));
        // at 10 now, at 11 from 1 to 29, at 12 when the time is 30
        refusedEach(x, STATE, new int[] {10, 11, 12}, c -> x.setCell(c, WALL));
        due(FREE, x.setCell(12, CHARGER));
        refused(x, STATE, () -> x.setCell(12, WALL));
        due(CHARGER, x.setCell(12, FREE));
        due(FREE, x.setCell(9, WALL));
        x.advance(1);
        due(FREE, x.setCell(10, WALL));
        due(WALL, x.setCell(10, WALL));
        x.advance(28);
        refusedEach(x, STATE, new int[] {11, 12}, c -> x.setCell(c, WALL));
        x.advance(1);
        due(FREE, x.setCell(11, WALL));
        refused(x, STATE, () -> x.setCell(12, WALL));
    }

    @Sentence("or it is an end of a lift")
    private static void p03WallAtALift() {
        Trial x = new Trial();
        x.addLift(0, 39);
        x.setCell(7, WALL);
        due(WALL, x.setCell(7, FREE));
        x.addLift(7, 32);
        refusedEach(x, STATE, new int[] {0, 39, 7, 32}, c -> x.setCell(c, WALL));
        for (int c : new int[] {0, 39, 7, 32}) {
            due(FREE, x.setCell(c, CHARGER));
            refused(x, STATE, () -> x.setCell(c, WALL));
            due(CHARGER, x.setCell(c, FREE));
        }
        x.clear();
        due(FREE, x.setCell(0, WALL));
        due(FREE, x.setCell(32, WALL));
        // with two lifts, the first cell and the last one are free to be no ends
        Trial y = new Trial();
        y.addLift(1, 2);
        y.addLift(3, 4);
        due(FREE, y.setCell(0, WALL));
        due(FREE, y.setCell(39, WALL));
    }

    @Sentence("a robot is at it at some time from now to the horizon")
    private static void p03WallOnTheWayOfARide() {
        Trial x = liftFloor();
        x.addRobot(2, 100);
        due(5, x.plan(0, 6));
        refusedEach(x, STATE, new int[] {2, 3, 5, 6}, c -> x.setCell(c, WALL));
        x.advance(2);
        due(FREE, x.setCell(2, WALL));
        refused(x, STATE, () -> x.setCell(6, WALL));
        due(FREE, x.setCell(7, WALL));
    }

    // ---- Promise 4

    @Sentence("`cell`: the number of the cell, 0 to 39")
    private static void p04CellRange() {
        Trial x = new Trial();
        x.setCell(0, CHARGER);
        x.setCell(39, WALL);
        due(CHARGER, x.cell(0));
        due(FREE, x.cell(1));
        due(FREE, x.cell(38));
        due(WALL, x.cell(39));
    }

    @Sentence("Returns 0 for free, 1 for a wall, 2 for a charger.")
    private static void p04Kinds() {
        Trial x = new Trial();
        for (int c = 0; c < 40; c++) {
            x.setCell(c, c % 3);
        }
        for (int c = 0; c < 40; c++) {
            due(c % 3, x.cell(c));
        }
    }

    @Sentence("Throws `IndexOutOfBoundsException` if there is no such cell")
    private static void p04NoSuchCell() {
        Trial x = full();
        refusedEach(x, INDEX, noCell(), x::cell);
    }

    // ---- Promise 5

    @Sentence({"`one`: the cell of one end", "`other`: the cell of the other end"})
    private static void p05EndsRange() {
        Trial x = new Trial();
        due(0, x.addLift(39, 0));
        due(1, x.addLift(7, 32));
        due(3, x.ticksBetween(0, 39));
        due(3, x.ticksBetween(39, 0));
        due(3, x.ticksBetween(7, 32));
        due(3, x.ticksBetween(32, 7));
    }

    @Sentence("Returns the number of the lift.")
    private static void p05Returns() {
        Trial x = new Trial();
        due(0, x.addLift(0, 1));
        due(1, x.addLift(2, 3));
        x.clear();
        due(0, x.addLift(2, 3));
    }

    @Sentence("Throws `IndexOutOfBoundsException` if there is no such cell")
    private static void p05NoSuchCell() {
        Trial x = new Trial();
        x.setCell(5, WALL);
        refusedEach(x, INDEX, noCell(), c -> x.addLift(c, 0));
        refusedEach(x, INDEX, noCell(), c -> x.addLift(0, c));
        refusedEach(x, INDEX, noCell(), c -> x.addLift(c, c));
        refusedEach(x, INDEX, noCell(), c -> x.addLift(c, 5));
        refusedEach(x, INDEX, noCell(), c -> x.addLift(5, c));
        x.addLift(0, 39);
        x.addLift(1, 38);
        refusedEach(x, INDEX, noCell(), c -> x.addLift(c, 0));
        refusedEach(x, INDEX, noCell(), c -> x.addLift(2, c));
    }

    @Sentence("Throws `IllegalArgumentException` if both cells are the same, or one of them is a wall or an end "
        + "of a lift")
    private static void p05UnfitCells() {
        Trial x = new Trial();
        x.setCell(5, WALL);
        for (int lifts = 0; lifts <= 2; lifts++) {
            refused(x, ARGUMENT, () -> x.addLift(20, 20));
            refused(x, ARGUMENT, () -> x.addLift(5, 5));
            refused(x, ARGUMENT, () -> x.addLift(5, 20));
            refused(x, ARGUMENT, () -> x.addLift(20, 5));
            for (int end = 0; end < 2 * lifts; end++) {
                int e = end;
                refused(x, ARGUMENT, () -> x.addLift(e, 20));
                refused(x, ARGUMENT, () -> x.addLift(20, e));
                refused(x, ARGUMENT, () -> x.addLift(e, e));
                refused(x, ARGUMENT, () -> x.addLift(e, e ^ 1));
            }
            if (lifts < 2) {
                due(lifts, x.addLift(2 * lifts, 2 * lifts + 1));
            }
        }
        // a charger, a robot's cell and a cell that was a wall before are fit
        Trial y = new Trial();
        y.setCell(1, CHARGER);
        y.addRobot(2, 100);
        y.setCell(3, WALL);
        y.setCell(3, FREE);
        due(0, y.addLift(1, 2));
        due(1, y.addLift(3, 4));
    }

    @Sentence("Throws `IllegalStateException` if there are 2 lifts")
    private static void p05TwoLifts() {
        Trial x = new Trial();
        x.addLift(0, 39);
        due(1, x.addLift(1, 38));
        refused(x, STATE, () -> x.addLift(2, 3));
        refused(x, STATE, () -> x.addLift(3, 2));
        Trial y = new Trial();
        y.addLift(1, 2);
        y.addLift(3, 4);
        refused(y, STATE, () -> y.addLift(0, 39));
        due(2, x.count(1));
        due(2, x.ticksBetween(2, 4));
    }

    // ---- Promise 6

    @Sentence("Adds a robot without a plan.")
    private static void p06RobotHasNoPlan() {
        Trial x = new Trial();
        x.advance(30);
        x.addRobot(39, 100);
        int[] want = {39, 100, 0, 0, -1, -1};
        for (int k = 0; k < 6; k++) {
            due(want[k], x.robot(0, k));
        }
        for (int k = 0; k < 5; k++) {
            due(0, x.statistic(0, k));
        }
        refused(x, NO_ELEMENT, () -> x.action(0, 0));
        due(39, x.cellAfter(0, 30));
        due(0, x.visits(39));
        due(0, x.cancel(0));
    }

    @Sentence("`cell`: the number of the cell, 0 to 39")
    private static void p06CellRange() {
        Trial x = new Trial();
        due(0, x.addRobot(0, 50));
        due(1, x.addRobot(39, 50));
        due(0, x.robotAt(0, 0));
        due(1, x.robotAt(39, 0));
    }

    @Sentence("`battery`: the battery, 0 to 100")
    private static void p06BatteryRange() {
        Trial x = new Trial();
        int[] battery = {0, 1, 99, 100};
        for (int k = 0; k < 4; k++) {
            due(k, x.addRobot(k, battery[k]));
            due(battery[k], x.robot(k, 1));
        }
        refusedEach(x, ARGUMENT, outside(0, 100), b -> x.addRobot(20, b));
        due(4, x.count(0));
    }

    @Sentence("Returns the number of the robot.")
    private static void p06Returns() {
        Trial x = new Trial();
        for (int r = 0; r < 5; r++) {
            due(r, x.addRobot(10 + r, 1));
        }
        x.clear();
        due(0, x.addRobot(10, 1));
    }

    @Sentence("Throws `IndexOutOfBoundsException` if there is no such cell")
    private static void p06NoSuchCell() {
        Trial x = new Trial();
        refusedEach(x, INDEX, noCell(), c -> x.addRobot(c, 0));
        refusedEach(x, INDEX, noCell(), c -> x.addRobot(c, 101));
        refusedEach(x, INDEX, outside(0, 100), b -> x.addRobot(40, b));
        Trial y = full();
        refusedEach(y, INDEX, noCell(), c -> y.addRobot(c, 50));
        refusedEach(y, INDEX, noCell(), c -> y.addRobot(c, -1));
    }

    @Sentence("Throws `IllegalArgumentException` if battery is out of range, or the cell is a wall")
    private static void p06UnfitBatteryOrCell() {
        Trial x = new Trial();
        x.setCell(5, WALL);
        x.setCell(6, CHARGER);
        x.addRobot(0, 1);
        for (int robots = 1; robots <= 5; robots++) {
            refusedEach(x, ARGUMENT, outside(0, 100), b -> x.addRobot(0, b));
            refusedEach(x, ARGUMENT, outside(0, 100), b -> x.addRobot(20, b));
            refusedEach(x, ARGUMENT, new int[] {0, 50, 100, 101, -1}, b -> x.addRobot(5, b));
            if (robots < 5) {
                due(robots, x.addRobot(5 + robots, 100));
            }
        }
    }

    @Sentence("Throws `IllegalStateException` if there are 5 robots, or another robot is at the cell "
        + "at some time from now to the horizon")
    private static void p06FiveRobotsOrCellTaken() {
        Trial x = new Trial();
        for (int r = 0; r < 5; r++) {
            refusedEach(x, STATE, IntStream.range(0, r).toArray(), c -> x.addRobot(c, 100));
            due(r, x.addRobot(r, 100));
        }
        refused(x, STATE, () -> x.addRobot(5, 100));
        refused(x, STATE, () -> x.addRobot(39, 0));
    }

    @Sentence("another robot is at the cell at some time from now to the horizon")
    private static void p06CellTakenLater() {
        Trial x = liftFloor();
        x.addRobot(2, 100);
        x.addTask(5, 6, 29, 100);
        due(0, x.serve(0, 0));
        // at 2 now, at 3 at 1, in the lift at 2 and 3, at 5 from 4 to 29, at 6 at 30
        refusedEach(x, STATE, new int[] {2, 3, 5, 6}, c -> x.addRobot(c, 100));
        x.advance(2);
        due(1, x.addRobot(2, 100));
        due(2, x.addRobot(3, 100));
        refusedEach(x, STATE, new int[] {5, 6}, c -> x.addRobot(c, 100));
        due(3, x.addRobot(7, 100));
    }

    // ---- Promise 7

    @Sentence({"`robot`: the number of the robot", "Throws `IndexOutOfBoundsException` if there is no such robot"})
    private static void p07RobotRange() {
        Trial x = new Trial();
        for (int robots = 0; robots <= 5; robots++) {
            for (int r = 0; r < robots; r++) {
                due(r + 3, x.robot(r, 0));
            }
            refusedEach(x, INDEX, outside(0, robots - 1), r -> x.robot(r, 0));
            refusedEach(x, INDEX, outside(0, robots - 1), r -> x.robot(r, 6));
            if (robots < 5) {
                x.addRobot(robots + 3, 1);
            }
        }
    }

    @Sentence("Throws `IllegalArgumentException` if what is not 0 to 5")
    private static void p07WhatRange() {
        Trial x = full();
        int[] want = {32, 0, 0, 0, -1, -1};
        for (int k = 0; k <= 5; k++) {
            due(want[k], x.robot(4, k));
        }
        refusedEach(x, ARGUMENT, outside(0, 5), k -> x.robot(4, k));
        refusedEach(x, INDEX, outside(0, 5), k -> x.robot(5, k));
    }

    @Sentence("0 for its cell, -1 if it is in a lift")
    private static void p07Cell() {
        Trial x = new Trial();
        x.addLift(1, 2);
        x.addLift(0, 39);
        x.addRobot(0, 100);
        due(0, x.robot(0, 0));
        due(3, x.plan(0, 39));
        due(0, x.robot(0, 0));
        x.advance(1);
        due(-1, x.robot(0, 0));
        x.advance(1);
        due(-1, x.robot(0, 0));
        x.advance(1);
        due(39, x.robot(0, 0));
    }

    @Sentence("1 for its battery")
    private static void p07Battery() {
        Trial x = new Trial();
        x.addRobot(0, 0);
        x.addRobot(39, 100);
        x.addRobot(20, 1);
        due(0, x.robot(0, 1));
        due(100, x.robot(1, 1));
        x.plan(2, 21);
        due(1, x.robot(2, 1));
        x.advance(1);
        due(0, x.robot(2, 1));
    }

    @Sentence("2 for the ticks until its plan is finished")
    private static void p07TicksLeft() {
        Trial x = liftFloor();
        x.addRobot(3, 100);
        x.addTask(3, 5, 27, 100);
        due(0, x.robot(0, 2));
        due(0, x.serve(0, 0));
        for (int left = 30; left >= 0; left--) {
            due(left, x.robot(0, 2));
            x.advance(1);
        }
        due(0, x.robot(0, 2));
        x.advance(30);
        due(0, x.robot(0, 2));
    }

    @Sentence("3 for the cost of the rest of its plan, without a ride that has begun")
    private static void p07CostLeft() {
        Trial x = liftFloor();
        x.addRobot(2, 4);
        due(0, x.robot(0, 3));
        due(5, x.plan(0, 6));
        int[] cost = {4, 3, 1, 1, 1, 0, 0};
        int[] battery = {4, 3, 1, 1, 1, 0, 0};
        for (int t = 0; t < cost.length; t++) {
            due(cost[t], x.robot(0, 3));
            due(battery[t], x.robot(0, 1));
            x.advance(1);
        }
    }

    @Sentence("4 for the task that it serves, -1 if it serves none")
    private static void p07Task() {
        Trial x = new Trial();
        x.addRobot(0, 100);
        for (int t = 0; t < 12; t++) {
            x.addTask(1, 2, 0, 100);
        }
        due(-1, x.robot(0, 4));
        due(0, x.serve(11, 0));
        due(11, x.robot(0, 4));
        due(0, x.serve(0, 0));
        due(0, x.robot(0, 4));
        x.advance(1);
        due(0, x.robot(0, 4));
        x.advance(1);
        due(-1, x.robot(0, 4));
        due(1, x.plan(0, 3));
        due(-1, x.robot(0, 4));
    }

    @Sentence("5 for the lift in which it is, -1 if it is in none")
    private static void p07Lift() {
        Trial x = new Trial();
        x.addLift(0, 39);
        x.addLift(7, 32);
        x.addRobot(39, 100);
        x.addRobot(7, 100);
        x.plan(0, 0);
        x.plan(1, 32);
        int[][] want = {{-1, -1}, {0, 1}, {0, 1}, {-1, -1}};
        for (int[] w : want) {
            due(w[0], x.robot(0, 5));
            due(w[1], x.robot(1, 5));
            x.advance(1);
        }
    }

    // ---- Promise 8

    @Sentence("`what`: 0 for robots, 1 for lifts, 2 for tasks, 3 for walls, 4 for chargers, 5 for the clock")
    private static void p08EmptyAndFull() {
        Trial x = full();
        int[] want = {5, 2, 12, 0, 0, 0};
        for (int k = 0; k <= 5; k++) {
            due(want[k], x.count(k));
        }
        Trial y = new Trial();
        for (int c = 0; c < 40; c++) {
            y.setCell(c, WALL);
            due(c + 1, y.count(3));
        }
        for (int c = 0; c < 40; c++) {
            y.setCell(c, CHARGER);
            due(39 - c, y.count(3));
            due(c + 1, y.count(4));
        }
        for (int c = 0; c < 40; c++) {
            y.setCell(c, FREE);
        }
        due(0, y.count(3));
        due(0, y.count(4));
        y.advance(1);
        due(1, y.count(5));
        pass(y, 999);
        due(1000, y.count(5));
    }

    @Sentence("Throws `IllegalArgumentException` if what is not 0 to 5")
    private static void p08WhatRange() {
        Trial x = new Trial();
        refusedEach(x, ARGUMENT, outside(0, 5), x::count);
        Trial y = full();
        refusedEach(y, ARGUMENT, outside(0, 5), y::count);
    }

    // ---- Promise 9

    @Sentence("Returns the number of cells that are reached from a cell through neighbors and lifts without walls, "
        + "itself included, whatever robots do.")
    private static void p09Region() {
        Trial x = new Trial();
        due(40, x.region(0));
        due(40, x.region(39));
        Trial alone = only(20);
        due(1, alone.region(20));
        // lifts join cells, chains of lifts and cells too
        Trial lifts = only(0, 1, 20, 21, 39);
        due(2, lifts.region(0));
        lifts.addLift(1, 20);
        due(4, lifts.region(0));
        due(1, lifts.region(39));
        lifts.addLift(39, 21);
        due(5, lifts.region(0));
        due(5, lifts.region(39));
        // a longest way through the floor, where the cells come in no order
        Trial snake = new Trial();
        walls(snake, 8, 9, 10, 11, 12, 13, 14, 25, 26, 27, 28, 29, 30, 31);
        due(26, snake.region(0));
        due(26, snake.region(39));
        // robots that wait, move and ride do not matter
        for (int r = 0; r < 5; r++) {
            snake.addRobot(r, 100);
        }
        snake.plan(4, 39);
        due(26, snake.region(0));
        due(26, snake.region(2));
    }

    @Sentence("`cell`: the number of the cell, 0 to 39")
    private static void p09CellRange() {
        Trial x = corridor();
        due(8, x.region(0));
        due(24, x.region(39));
    }

    @Sentence("Returns the number of cells, 0 if it is a wall.")
    private static void p09Wall() {
        Trial x = new Trial();
        for (int c = 0; c < 40; c++) {
            x.setCell(c, WALL);
            due(0, x.region(c));
        }
        for (int c = 0; c < 40; c++) {
            due(0, x.region(c));
        }
        x.setCell(39, CHARGER);
        due(1, x.region(39));
        due(0, x.region(0));
    }

    @Sentence("Throws `IndexOutOfBoundsException` if there is no such cell")
    private static void p09NoSuchCell() {
        Trial x = full();
        refusedEach(x, INDEX, noCell(), x::region);
    }

    // ---- Promise 10

    @Sentence("Returns the least number of ticks from a cell to another one through neighbors and lifts without walls, "
        + "whatever robots do.")
    private static void p10LeastTicks() {
        // a ride takes 3 ticks: a way of 2 moves is less, one of 4 moves is more
        for (int moves = 1; moves <= 7; moves++) {
            Trial x = new Trial();
            x.addLift(0, moves);
            due(Math.min(moves, 3), x.ticksBetween(0, moves));
            due(Math.min(moves, 3), x.ticksBetween(moves, 0));
        }
        Trial two = only(0, 20, 39);
        two.addLift(0, 20);
        two.setCell(21, FREE);
        two.addLift(21, 39);
        due(7, two.ticksBetween(0, 39));
        due(7, two.ticksBetween(39, 0));
        Trial snake = new Trial();
        walls(snake, 8, 9, 10, 11, 12, 13, 14, 25, 26, 27, 28, 29, 30, 31);
        for (int r = 0; r < 5; r++) {
            snake.addRobot(r + 1, 100);
        }
        due(25, snake.ticksBetween(0, 39));
        due(25, snake.ticksBetween(39, 0));
        snake.addLift(7, 16);
        due(7 + 3 + 1 + 1 + 7, snake.ticksBetween(0, 39));
        snake.addLift(5, 37);
        due(5 + 3 + 2, snake.ticksBetween(0, 39));
    }

    @Sentence({"`from`: the first cell", "`to`: the other cell"})
    private static void p10CellRange() {
        Trial x = new Trial();
        due(11, x.ticksBetween(0, 39));
        due(11, x.ticksBetween(39, 0));
        due(11, x.ticksBetween(7, 32));
        due(11, x.ticksBetween(32, 7));
    }

    @Sentence("Returns the number of ticks, 0 if both are the same.")
    private static void p10SameCell() {
        Trial x = new Trial();
        x.addLift(0, 39);
        for (int c = 0; c < 40; c++) {
            due(0, x.ticksBetween(c, c));
        }
        due(1, x.ticksBetween(0, 1));
        Trial alone = only(39);
        due(0, alone.ticksBetween(39, 39));
    }

    @Sentence("Throws `IndexOutOfBoundsException` if there is no such cell")
    private static void p10NoSuchCell() {
        Trial x = only(0);
        refusedEach(x, INDEX, noCell(), c -> x.ticksBetween(c, 0));
        refusedEach(x, INDEX, noCell(), c -> x.ticksBetween(0, c));
        refusedEach(x, INDEX, noCell(), c -> x.ticksBetween(c, c));
        // cell 5 is a wall
        refusedEach(x, INDEX, noCell(), c -> x.ticksBetween(c, 5));
        refusedEach(x, INDEX, noCell(), c -> x.ticksBetween(5, c));
    }

    @Sentence("Throws `NoSuchElementException` if one of them is a wall, or there is no way")
    private static void p10NoWay() {
        Trial x = corridor();
        refused(x, NO_ELEMENT, () -> x.ticksBetween(8, 0));
        refused(x, NO_ELEMENT, () -> x.ticksBetween(0, 8));
        refused(x, NO_ELEMENT, () -> x.ticksBetween(8, 8));
        refused(x, NO_ELEMENT, () -> x.ticksBetween(8, 9));
        refused(x, NO_ELEMENT, () -> x.ticksBetween(0, 39));
        refused(x, NO_ELEMENT, () -> x.ticksBetween(39, 0));
        x.addLift(7, 16);
        due(7 + 3 + 9, x.ticksBetween(0, 39));
        Trial corner = new Trial();
        walls(corner, 1, 8);
        refused(corner, NO_ELEMENT, () -> corner.ticksBetween(0, 9));
        refused(corner, NO_ELEMENT, () -> corner.ticksBetween(39, 0));
    }

    public static void main(String[] args) throws Exception {
        runTests(BoundaryFloorTest.class);
    }
}
