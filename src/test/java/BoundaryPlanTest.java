/** The boundary cases of collisions, routes, planning and making way, and of promises 11 to 20. */
public final class BoundaryPlanTest extends Checks {
    private static final String WAIT_29 = "0".repeat(29);

    /** Robot 0 at cell 0 and robots 1 to 4 in the lowest row. */
    private static Trial five() {
        Trial x = new Trial();
        x.addRobot(0, 100);
        for (int r = 1; r < 5; r++) {
            x.addRobot(35 + r, 100);
        }
        return x;
    }

    /** Robot 0, which serves task 0, has begun the ride from cell 3 to 5; it is to go on to cell 6. */
    private static Trial riding() {
        Trial x = liftFloor();
        x.addRobot(3, 100);
        x.addRobot(39, 100);
        x.addTask(3, 6, 0, 100);
        x.serve(0, 0);
        x.advance(1);
        return x;
    }

    /** Robot 1 waits at cell 11 from 1 to 29 and is at cell 12 when the time is 30. */
    private static Trial lateMove() {
        Trial x = new Trial();
        x.addRobot(3, 100);
        x.addRobot(10, 100);
        x.addTask(11, 12, 29, 100);
        x.serve(0, 1);
        return x;
    }

    /** Robot 1 is in the way at cell 2 and leaves for the niche in the tick from a time on. */
    private static Trial nicheFrom(int release) {
        Trial x = niche();
        x.addRobot(0, 100);
        x.addRobot(2, 100);
        x.addTask(2, 10, release, 100);
        x.serve(0, 1);
        return x;
    }

    /** Robot 0, with a battery, could go round robot 1, which leaves cell 1 later. */
    private static Trial detour(int battery) {
        Trial x = new Trial();
        x.addRobot(0, battery);
        x.addRobot(1, 100);
        x.addTask(1, 9, 3, 100);
        x.serve(0, 1);
        return x;
    }

    private static boolean isInLift(Trial x, int robot, int tick, int lift) {
        return x.cellAfter(robot, tick) == -1 - lift || x.cellAfter(robot, tick + 1) == -1 - lift;
    }

    private static boolean collide(Trial x, int a, int b) {
        for (int t = 0; t <= 30; t++) {
            int ca = x.cellAfter(a, t);
            int cb = x.cellAfter(b, t);
            if (ca >= 0 && ca == cb) {
                return true;
            }
            boolean isCell = t < 30 && ca >= 0 && cb >= 0;
            if (isCell && ca == x.cellAfter(b, t + 1) && cb == x.cellAfter(a, t + 1)) {
                return true;
            }
            for (int lift = 0; lift < 2 && t < 30; lift++) {
                if (isInLift(x, a, t, lift) && isInLift(x, b, t, lift)) {
                    return true;
                }
            }
        }
        return false;
    }

    // ---- Description: Collisions

    @Sentence("Plans collide if two robots are at the same cell at the same time")
    private static void p00CollideAtACell() {
        // robot 1 passes cell 4 when the time is 4
        Trial x = new Trial();
        x.addRobot(12, 100);
        x.addRobot(0, 100);
        due(7, x.plan(1, 7));
        due(5, x.plan(0, 4));
        due("00001", rest(x, 0));
        // to pass a cell before or after it is no collision
        Trial y = corridor();
        y.addRobot(0, 100);
        y.addRobot(1, 100);
        due(6, y.plan(1, 7));
        due(6, y.plan(0, 6));
        due("222222", rest(y, 0));
    }

    @Sentence("or if two robots exchange their cells in one tick")
    private static void p00CollideByExchange() {
        Trial two = only(0, 1);
        two.addRobot(0, 100);
        two.addRobot(1, 100);
        refused(two, NO_ELEMENT, () -> two.plan(0, 1));
        refused(two, NO_ELEMENT, () -> two.plan(1, 0));
        // to follow a robot is no exchange
        Trial three = only(0, 1, 2);
        three.addRobot(0, 100);
        three.addRobot(1, 100);
        due(1, three.plan(1, 2));
        due(1, three.plan(0, 1));
        // robot 1 comes to the cell of robot 0 in the first tick, for each direction
        int[][] cells = {{0, 1, 8}, {1, 0, 9}, {8, 16, 9}, {16, 8, 17}, {38, 39, 30}, {39, 38, 31}, {31, 39, 30},
            {39, 31, 38}};
        for (int[] c : cells) {
            Trial x = only(c);
            x.addRobot(c[0], 100);
            x.addRobot(c[1], 100);
            due(1, x.plan(0, c[2]));
            due(1, x.plan(1, c[0]));
            refused(x, NO_ELEMENT, () -> x.plan(0, c[1]));
            due(2, x.blockers(0, c[1]));
        }
    }

    @Sentence("or if two robots are in the same lift in the same tick.")
    private static void p00CollideInALift() {
        Trial x = liftFloor();
        x.addRobot(3, 100);
        x.addRobot(11, 100);
        x.addRobot(13, 100);
        due(4, x.plan(0, 6));
        due("52", rest(x, 0));
        // in the same direction the next ride begins when the time is 3, in the other one when cell 5 is free
        due(7, x.arrival(2, 3));
        due(6, x.plan(1, 5));
        due("0015", rest(x, 1));
        due(3, x.robot(1, 3));
        // the other lift can be used at the same time
        Trial y = liftFloor();
        y.addLift(11, 13);
        y.addRobot(3, 100);
        y.addRobot(11, 100);
        due(3, y.plan(0, 5));
        due(3, y.plan(1, 13));
        due("6", rest(y, 1));
    }

    @Sentence("or if two robots are in the same lift in the same tick.")
    private static void p00CollideNotBeforeARide() {
        // robot 0 begins its ride when the time is 4: a ride from 1 to 4 is possible, one from 2 on is not
        for (int release = 0; release <= 1; release++) {
            Trial x = liftFloor();
            x.addRobot(8, 100);
            x.addRobot(11, 100);
            due(7, x.plan(0, 5));
            due("12225", rest(x, 0));
            x.addTask(11, 6, release, 100);
            // after it, cell 5 is taken
            due(release == 0 ? 0 : 4, x.serve(0, 1));
            due(release == 0 ? "152" : "", rest(x, 1));
        }
    }

    @Sentence("A robot that rides is in its lift in all 3 ticks of the ride.")
    private static void p00CollideInAllTicksOfARide() {
        Trial x = liftFloor();
        x.addRobot(3, 100);
        x.addRobot(11, 100);
        due(4, x.plan(0, 6));
        int[] arrival = {6, 5, 4, 4, 4};
        for (int want : arrival) {
            due(want, x.arrival(1, 5));
            x.advance(1);
        }
    }

    @Sentence("Collisions count at all times from now to the horizon, robots that wait included.")
    private static void p00CollideUntilTheHorizon() {
        Trial x = lateMove();
        refused(x, NO_ELEMENT, () -> x.plan(0, 12));
        due(2, x.blockers(0, 12));
        due(30, x.plan(0, 11));
        due(WAIT_29 + "3", rest(x, 0));
        Trial y = lateMove();
        // one tick before, the cell would not be free
        y.addTask(3, 11, 0, 29);
        y.addTask(3, 11, 0, 30);
        due(5, y.serve(1, 0));
        due(0, y.serve(2, 0));
        Trial z = corridor();
        z.addRobot(0, 100);
        z.addRobot(3, 100);
        refused(z, NO_ELEMENT, () -> z.plan(0, 3));
        refused(z, NO_ELEMENT, () -> z.plan(0, 7));
        due(2, z.plan(0, 2));
    }

    @Sentence("The plans that there are never collide.")
    private static void p00PlansNeverCollide() {
        int planned = 0;
        for (int seed = 1; seed <= 20; seed++) {
            Trial x = liftFloor();
            x.addLift(19, 21);
            for (int r = 0; r < 5; r++) {
                x.addRobot(r * 8 + 2, 100);
            }
            int g = seed * 7919;
            for (int k = 0; k < 25; k++) {
                g = g * 1103515245 + 12345;
                int robot = (g >>> 16) % 5;
                int cell = (g >>> 20) % 40;
                try {
                    x.plan(robot, cell);
                    planned++;
                } catch (RuntimeException e) {
                    x.advance(1);
                }
                for (int a = 0; a < 5; a++) {
                    for (int b = 0; b < a; b++) {
                        int one = a;
                        int other = b;
                        due(false, x.look(() -> collide(x, one, other)));
                    }
                }
            }
        }
        due(true, planned > 100);
    }

    // ---- Description: Routes

    @Sentence("which avoids walls and does not collide with the plans of the other robots.")
    private static void p00RoutesAvoidWalls() {
        Trial x = new Trial();
        x.addRobot(0, 100);
        x.setCell(1, WALL);
        due(4, x.plan(0, 2));
        due("3221", rest(x, 0));
        refused(x, NO_ELEMENT, () -> x.plan(0, 1));
        x.plan(0, 0);
        x.setCell(8, WALL);
        for (int c = 1; c < 40; c++) {
            int cell = c;
            dueThrow(NO_ELEMENT, () -> x.plan(0, cell));
        }
        due(0, x.plan(0, 0));
        x.setCell(8, CHARGER);
        due(4, x.plan(0, 2));
    }

    @Sentence("A final route is one after which the robot can wait at the cell until the horizon without a collision.")
    private static void p00RoutesFinal() {
        // robot 1 passes cell 4 when the time is 4: before, it can be reached, but not finally
        Trial x = new Trial();
        x.addRobot(12, 100);
        x.addRobot(0, 100);
        due(7, x.plan(1, 7));
        due(5, x.arrival(0, 4));
        x.addTask(4, 12, 0, 2);
        due(0, x.serve(0, 0));
        due("13", rest(x, 0));
        // at the last time there is: cell 12 is taken from 30 on, cell 11 is free from 30 on
        Trial y = lateMove();
        refused(y, NO_ELEMENT, () -> y.plan(0, 12));
        due(30, y.arrival(0, 11));
    }

    @Sentence("The best route is the one that ends earliest")
    private static void p00RoutesBestEndsEarliest() {
        Trial x = detour(100);
        due(4, x.plan(0, 2));
        due("3221", rest(x, 0));
        due(4, x.robot(0, 3));
        // a ride of 3 ticks against 4, 3 and 2 moves
        String[] want = {"22", "5", "5"};
        for (int moves = 2; moves <= 4; moves++) {
            Trial y = new Trial();
            y.addRobot(0, 100);
            y.addLift(0, moves);
            due(Math.min(3, moves), y.plan(0, moves));
            due(want[moves - 2], rest(y, 0));
        }
    }

    @Sentence("of several, one with the least cost")
    private static void p00RoutesBestCostsLeast() {
        // three moves come first in the order of actions, but the ride costs less
        Trial x = new Trial();
        x.addRobot(3, 100);
        x.addLift(3, 0);
        due(3, x.plan(0, 0));
        due("5", rest(x, 0));
        due(2, x.robot(0, 3));
        // who has to wait anyway does not walk about
        Trial y = nicheFrom(5);
        due(11, y.plan(0, 7));
        due("00002222222", rest(y, 0));
        due(7, y.robot(0, 3));
    }

    @Sentence("and of these the one whose sequence of actions is lexicographically first.")
    private static void p00RoutesBestIsFirst() {
        int[][] ways = {{0, 9}, {9, 0}, {1, 8}, {8, 1}, {0, 39}, {39, 0}};
        String[] want = {"23", "14", "34", "12", "22222223333", "11114444444"};
        for (int k = 0; k < ways.length; k++) {
            Trial x = new Trial();
            x.addRobot(ways[k][0], 100);
            x.plan(0, ways[k][1]);
            due(want[k], rest(x, 0));
        }
        // a move and then a ride, or a ride and then a move
        Trial x = new Trial();
        x.addLift(0, 38);
        x.addLift(1, 39);
        x.addRobot(0, 100);
        due(4, x.plan(0, 39));
        due("26", rest(x, 0));
        // cell 2 is free from 3 on: two moves and a wait cost as much as a ride, and come first
        Trial y = new Trial();
        y.addLift(0, 2);
        y.addRobot(0, 100);
        y.addRobot(2, 100);
        y.addTask(2, 10, 2, 100);
        due(0, y.serve(0, 1));
        due(3, y.plan(0, 2));
        due("022", rest(y, 0));
    }

    @Sentence("It can have no actions, if the robot is at the cell at once.")
    private static void p00RoutesWithoutActions() {
        Trial x = corridor();
        x.addRobot(1, 0);
        due(0, x.plan(0, 1));
        due(0, x.arrival(0, 1));
        due(0, x.routeCost(0, 1));
        refused(x, NO_ELEMENT, () -> x.action(0, 0));
        // but not if another robot comes to the cell later
        Trial y = corridor();
        y.addRobot(1, 100);
        y.addRobot(5, 100);
        due(1, y.plan(0, 0));
        due(4, y.plan(1, 1));
        refused(y, NO_ELEMENT, () -> y.plan(0, 1));
    }

    // ---- Description: Planning

    @Sentence("To plan a robot to a cell means to replace its plan by its best final route from now on.")
    private static void p00PlanningReplacesThePlan() {
        Trial x = new Trial();
        x.addRobot(0, 100);
        due(7, x.plan(0, 7));
        x.advance(2);
        due(2, x.plan(0, 0));
        due("44", rest(x, 0));
        due(0, x.plan(0, 2));
        due("", rest(x, 0));
        due(2, x.cellAfter(0, 30));
    }

    @Sentence("To plan a robot to a cell means to replace its plan")
    private static void p00PlanningLeavesNothingOfALongerPlan() {
        Trial x = liftFloor();
        x.setCell(39, CHARGER);
        x.addRobot(0, 100);
        due(8, x.plan(0, 7));
        x.advance(2);
        due(1, x.plan(0, 3));
        due("2", rest(x, 0));
        x.advance(28);
        due(3, x.robot(0, 0));
        due(97, x.robot(0, 1));
        due(3, x.statistic(0, 0));
        due(0, x.statistic(0, 1));
        due(27, x.statistic(0, 2));
        due(28, x.visits(3));
        x.plan(0, 39);
        due(9, x.cancel(0));
        x.advance(3);
        due(3, x.robot(0, 0));
        due(97, x.robot(0, 1));
        due(30, x.statistic(0, 2));
    }

    @Sentence("This is not possible if the robot is in a lift, or there is no such route within the horizon")
    private static void p00PlanningNotInALift() {
        Trial x = riding();
        refused(x, STATE, () -> x.plan(0, 3));
        x.advance(1);
        refused(x, STATE, () -> x.plan(0, 5));
        x.advance(1);
        due(3, x.plan(0, 3));
        Trial late = nicheFrom(25);
        refused(late, NO_ELEMENT, () -> late.plan(0, 7));
        due(30, late.plan(0, 6));
    }

    @Sentence("or the cost of this best route is greater than the battery of now, "
        + "whatever another route would cost or the robot would gain on it.")
    private static void p00PlanningBattery() {
        // the best route costs 4, a later one 2
        Trial x = detour(3);
        refused(x, UNSUPPORTED, () -> x.plan(0, 2));
        Trial enough = detour(4);
        due(4, enough.plan(0, 2));
        // the robot would gain 20 while it waits for robot 1
        Trial y = new Trial();
        y.setCell(12, CHARGER);
        y.addRobot(12, 0);
        y.addRobot(0, 100);
        y.plan(1, 7);
        due(5, y.arrival(0, 4));
        refused(y, UNSUPPORTED, () -> y.plan(0, 4));
        y.advance(1);
        due(5, y.robot(0, 1));
        due(4, y.plan(0, 4));
    }

    @Sentence("A task that the robot serves is open again then.")
    private static void p00PlanningOpensTheTask() {
        Trial x = new Trial();
        x.addRobot(0, 3);
        x.addTask(1, 2, 0, 100);
        due(0, x.serve(0, 0));
        refused(x, UNSUPPORTED, () -> x.plan(0, 4));
        due(1, x.task(0, 0));
        due(0, x.robot(0, 4));
        due(0, x.plan(0, 0));
        due(0, x.task(0, 0));
        due(0, x.task(0, 1));
        due(-1, x.task(0, 2));
        due(-1, x.robot(0, 4));
    }

    // ---- Description: Making way

    @Sentence("A robot with no unfinished plan is idle.")
    private static void p00MakingWayIdle() {
        Trial x = corridor();
        x.addRobot(0, 100);
        x.addRobot(1, 100);
        due(1, x.plan(1, 2));
        refused(x, NO_ELEMENT, () -> x.makeWay(0, 5));
        x.advance(1);
        due(1, x.makeWay(0, 5));
        due(6, x.cellAfter(1, 30));
    }

    @Sentence("the other robots are tried in ascending order, and for each one all cells in ascending order; "
        + "the first ones with which both can be planned are kept.")
    private static void p00MakingWayOrder() {
        // two gaps in a wall, a robot in each one
        Trial x = new Trial();
        walls(x, 10, 18, 26);
        x.addRobot(34, 100);
        x.addRobot(2, 100);
        x.addRobot(8, 100);
        due(3, x.blockers(2, 7));
        due(0, x.makeWay(2, 7));
        due(0, x.cellAfter(0, 30));
        due("411114", rest(x, 0));
        due(7, x.cellAfter(2, 30));
        due(2, x.cellAfter(1, 30));
        // the robot itself is none of the others
        Trial y = new Trial();
        walls(y, 10, 18, 26);
        y.addRobot(8, 100);
        y.addRobot(2, 100);
        y.addRobot(34, 100);
        due(1, y.makeWay(0, 7));
        due(0, y.cellAfter(1, 30));
        // the lowest cell is no help where the robot still could not pass
        Trial z = corridor();
        z.addRobot(0, 100);
        z.addRobot(2, 100);
        due(1, z.makeWay(0, 6));
        due(7, z.cellAfter(1, 30));
    }

    @Sentence("both as told under Planning, batteries included")
    private static void p00MakingWayBatteries() {
        for (int battery = 3; battery <= 4; battery++) {
            Trial x = corridor();
            x.addRobot(0, 5);
            x.addRobot(2, battery);
            if (battery == 3) {
                refused(x, NO_ELEMENT, () -> x.makeWay(0, 5));
            } else {
                due(1, x.makeWay(0, 5));
                due(6, x.cellAfter(1, 30));
            }
            Trial y = corridor();
            y.addRobot(0, battery + 1);
            y.addRobot(2, 4);
            if (battery == 3) {
                refused(y, NO_ELEMENT, () -> y.makeWay(0, 5));
            } else {
                due(1, y.makeWay(0, 5));
            }
        }
    }

    // ---- Promise 11

    @Sentence({"`robot`: the number of the robot", "`cell`: the number of the cell, 0 to 39"})
    private static void p11Ranges() {
        Trial x = five();
        due(7, x.plan(0, 7));
        due(0, x.plan(0, 0));
        due(4, x.plan(4, 7));
        due(0, x.plan(4, 39));
    }

    @Sentence("Returns the number of ticks that the plan takes.")
    private static void p11ReturnsTicks() {
        Trial x = nicheFrom(24);
        due(0, x.plan(0, 0));
        due(1, x.plan(0, 1));
        due(30, x.plan(0, 7));
        due(30, x.robot(0, 2));
        due(7, x.robot(0, 3));
    }

    @Sentence("Throws `IndexOutOfBoundsException` if there is no such robot or cell")
    private static void p11NoSuchRobotOrCell() {
        Trial none = new Trial();
        refusedEach(none, INDEX, outside(0, -1), r -> none.plan(r, 0));
        Trial x = five();
        refusedEach(x, INDEX, outside(0, 4), r -> x.plan(r, 0));
        refusedEach(x, INDEX, noCell(), c -> x.plan(4, c));
        refusedEach(x, INDEX, noCell(), c -> x.plan(c, c));
        Trial y = riding();
        refusedEach(y, INDEX, noCell(), c -> y.plan(0, c));
        refusedEach(y, INDEX, outside(0, 1), r -> y.plan(r, 4));
    }

    @Sentence("Throws `IllegalStateException` if the robot is in a lift")
    private static void p11InALift() {
        Trial x = riding();
        // cell 4 is a wall, at cell 39 another robot is
        for (int k = 0; k < 2; k++) {
            refusedEach(x, STATE, new int[] {0, 3, 4, 5, 6, 39}, c -> x.plan(0, c));
            x.advance(1);
        }
        due(0, x.plan(0, 5));
    }

    @Sentence("Throws `NoSuchElementException` if there is no final route within the horizon")
    private static void p11NoFinalRoute() {
        Trial x = new Trial();
        walls(x, 6, 15, 20);
        x.addRobot(0, 0);
        x.addRobot(39, 100);
        refusedEach(x, NO_ELEMENT, new int[] {6, 7, 15, 20, 39}, c -> x.plan(0, c));
        Trial late = nicheFrom(25);
        refused(late, NO_ELEMENT, () -> late.plan(0, 7));
        // a wall at each cell, also at the first and the last one
        for (int c = 0; c < 40; c++) {
            Trial y = new Trial();
            y.addRobot(39 - c, 100);
            y.setCell(c, WALL);
            int wall = c;
            dueThrow(NO_ELEMENT, () -> y.plan(0, wall));
        }
    }

    @Sentence("Throws `UnsupportedOperationException` if its cost is greater than the battery")
    private static void p11TooDear() {
        for (int battery = 0; battery <= 11; battery++) {
            Trial x = new Trial();
            x.addRobot(0, battery);
            for (int c = 0; c < 40; c++) {
                int cell = c;
                int cost = c % 8 + c / 8;
                if (cost <= battery) {
                    due(cost, x.plan(0, c));
                } else {
                    dueThrow(UNSUPPORTED, () -> x.plan(0, cell));
                }
            }
        }
        // a ride costs 2
        for (int battery = 1; battery <= 2; battery++) {
            Trial x = liftFloor();
            x.addRobot(3, battery);
            if (battery == 1) {
                refused(x, UNSUPPORTED, () -> x.plan(0, 5));
            } else {
                due(3, x.plan(0, 5));
                x.advance(3);
                due(0, x.robot(0, 1));
            }
        }
    }

    // ---- Promise 12

    @Sentence("Returns how many ticks the best final route of a robot to a cell would take, whatever its battery.")
    private static void p12WhateverItsBattery() {
        Trial x = new Trial();
        x.addRobot(0, 0);
        String before = sight(x);
        for (int c = 0; c < 40; c++) {
            due(c % 8 + c / 8, x.arrival(0, c));
        }
        due(before, sight(x));
    }

    @Sentence({"`robot`: the number of the robot", "`cell`: the number of the cell, 0 to 39"})
    private static void p12Ranges() {
        Trial x = five();
        due(0, x.arrival(0, 0));
        due(7, x.arrival(0, 7));
        due(4, x.arrival(4, 7));
        due(0, x.arrival(4, 39));
    }

    @Sentence("Returns the number of ticks.")
    private static void p12UpToTheHorizon() {
        Trial x = nicheFrom(24);
        due(30, x.arrival(0, 7));
        due(29, x.arrival(0, 6));
        due("", rest(x, 0));
    }

    @Sentence("Throws `IndexOutOfBoundsException` if there is no such robot or cell")
    private static void p12NoSuchRobotOrCell() {
        Trial none = new Trial();
        refusedEach(none, INDEX, outside(0, -1), r -> none.arrival(r, 0));
        Trial x = five();
        refusedEach(x, INDEX, outside(0, 4), r -> x.arrival(r, 0));
        refusedEach(x, INDEX, noCell(), c -> x.arrival(4, c));
        Trial y = riding();
        refusedEach(y, INDEX, noCell(), c -> y.arrival(0, c));
    }

    @Sentence("Throws `IllegalStateException` if the robot is in a lift")
    private static void p12InALift() {
        Trial x = riding();
        refusedEach(x, STATE, new int[] {3, 4, 5, 39}, c -> x.arrival(0, c));
        x.advance(1);
        refusedEach(x, STATE, new int[] {3, 4, 5, 39}, c -> x.arrival(0, c));
        x.advance(1);
        due(0, x.arrival(0, 5));
    }

    @Sentence("Throws `NoSuchElementException` if there is no such route within the horizon")
    private static void p12NoFinalRoute() {
        Trial x = nicheFrom(25);
        refused(x, NO_ELEMENT, () -> x.arrival(0, 7));
        refused(x, NO_ELEMENT, () -> x.arrival(0, 8));
        due(30, x.arrival(0, 6));
    }

    // ---- Promise 13

    @Sentence("Returns the cost of the best final route of a robot to a cell.")
    private static void p13Cost() {
        Trial x = liftFloor();
        x.addRobot(2, 0);
        String before = sight(x);
        due(0, x.routeCost(0, 2));
        due(1, x.routeCost(0, 3));
        due(3, x.routeCost(0, 5));
        due(4, x.routeCost(0, 6));
        due(before, sight(x));
        // the best route is the earliest one, not the cheapest one
        Trial y = detour(0);
        due(4, y.routeCost(0, 2));
        Trial z = nicheFrom(24);
        due(7, z.routeCost(0, 7));
    }

    @Sentence({"`robot`: the number of the robot", "`cell`: the number of the cell, 0 to 39"})
    private static void p13Ranges() {
        Trial x = five();
        due(0, x.routeCost(0, 0));
        due(0, x.routeCost(4, 39));
        due(7, x.routeCost(0, 7));
        due(4, x.routeCost(4, 7));
    }

    @Sentence("Throws `IndexOutOfBoundsException` if there is no such robot or cell")
    private static void p13NoSuchRobotOrCell() {
        Trial none = new Trial();
        refusedEach(none, INDEX, outside(0, -1), r -> none.routeCost(r, 0));
        Trial x = five();
        refusedEach(x, INDEX, outside(0, 4), r -> x.routeCost(r, 0));
        refusedEach(x, INDEX, noCell(), c -> x.routeCost(4, c));
        Trial y = riding();
        refusedEach(y, INDEX, noCell(), c -> y.routeCost(0, c));
    }

    @Sentence("Throws `IllegalStateException` if the robot is in a lift")
    private static void p13InALift() {
        Trial x = riding();
        refusedEach(x, STATE, new int[] {3, 4, 5, 39}, c -> x.routeCost(0, c));
        x.advance(1);
        refusedEach(x, STATE, new int[] {3, 4, 5, 39}, c -> x.routeCost(0, c));
        x.advance(1);
        due(2, x.routeCost(0, 3));
    }

    @Sentence("Throws `NoSuchElementException` if there is no such route within the horizon")
    private static void p13NoFinalRoute() {
        Trial x = nicheFrom(25);
        refused(x, NO_ELEMENT, () -> x.routeCost(0, 7));
        refused(x, NO_ELEMENT, () -> x.routeCost(0, 8));
        due(6, x.routeCost(0, 6));
    }

    // ---- Promise 14

    @Sentence("`index`: the index of the action, from 0, which is the next one, or the ride that has begun")
    private static void p14Index() {
        Trial x = new Trial();
        x.addRobot(0, 100);
        x.addTask(0, 1, 29, 100);
        due(0, x.serve(0, 0));
        due(WAIT_29 + "2", rest(x, 0));
        due(2, x.action(0, 29));
        refused(x, NO_ELEMENT, () -> x.action(0, 30));
        x.advance(29);
        due(2, x.action(0, 0));
        refused(x, NO_ELEMENT, () -> x.action(0, 1));
        x.advance(1);
        refused(x, NO_ELEMENT, () -> x.action(0, 0));
        Trial y = riding();
        due("52", rest(y, 0));
        y.advance(1);
        due(5, y.action(0, 0));
        due(2, y.action(0, 1));
        refused(y, NO_ELEMENT, () -> y.action(0, 2));
        y.advance(1);
        due("2", rest(y, 0));
    }

    @Sentence("Returns the action, 0 to 6.")
    private static void p14Actions() {
        Trial x = new Trial();
        x.addLift(10, 38);
        x.addLift(39, 1);
        x.addRobot(9, 100);
        due(1, x.plan(0, 1));
        due("1", rest(x, 0));
        x.advance(1);
        x.addTask(9, 10, 4, 100);
        due(0, x.serve(0, 0));
        due("3002", rest(x, 0));
        x.advance(4);
        x.addTask(38, 0, 0, 100);
        due(0, x.serve(1, 0));
        due("5264", rest(x, 0));
    }

    @Sentence({"`robot`: the number of the robot", "Throws `IndexOutOfBoundsException` if there is no such robot"})
    private static void p14RobotRange() {
        Trial none = new Trial();
        refusedEach(none, INDEX, outside(0, -1), r -> none.action(r, 0));
        Trial x = five();
        x.plan(4, 31);
        due(1, x.action(4, 0));
        refusedEach(x, INDEX, outside(0, 4), r -> x.action(r, 0));
        refusedEach(x, INDEX, outside(0, 29), k -> x.action(5, k));
    }

    @Sentence("Throws `NoSuchElementException` if there is no such action")
    private static void p14NoSuchAction() {
        Trial x = new Trial();
        x.addRobot(0, 100);
        refusedEach(x, NO_ELEMENT, outside(0, -1), k -> x.action(0, k));
        x.plan(0, 3);
        due(2, x.action(0, 0));
        due(2, x.action(0, 2));
        refusedEach(x, NO_ELEMENT, outside(0, 2), k -> x.action(0, k));
        Trial y = riding();
        refusedEach(y, NO_ELEMENT, outside(0, 1), k -> y.action(0, k));
    }

    // ---- Promise 15

    @Sentence("`ticks`: the number of ticks from now, 0 to 30")
    private static void p15TicksRange() {
        Trial x = lateMove();
        due(10, x.cellAfter(1, 0));
        due(11, x.cellAfter(1, 1));
        due(11, x.cellAfter(1, 29));
        due(12, x.cellAfter(1, 30));
        x.advance(30);
        due(12, x.cellAfter(1, 0));
        due(12, x.cellAfter(1, 30));
        pass(x, 970);
        due(12, x.cellAfter(1, 30));
    }

    @Sentence("Returns the cell, or -1 minus the number of a lift if it will be in it.")
    private static void p15CellOrLift() {
        Trial x = new Trial();
        x.addLift(0, 39);
        x.addLift(32, 7);
        x.addRobot(0, 100);
        x.addRobot(32, 100);
        x.plan(0, 39);
        x.plan(1, 7);
        int[][] want = {{0, -1, -1, 39, 39}, {32, -2, -2, 7, 7}};
        for (int now = 0; now <= 4; now++) {
            for (int t = now; t <= 4; t++) {
                due(want[0][t], x.cellAfter(0, t - now));
                due(want[1][t], x.cellAfter(1, t - now));
            }
            x.advance(1);
        }
    }

    @Sentence({"`robot`: the number of the robot", "Throws `IndexOutOfBoundsException` if there is no such robot"})
    private static void p15RobotRange() {
        Trial none = new Trial();
        refusedEach(none, INDEX, outside(0, -1), r -> none.cellAfter(r, 0));
        Trial x = five();
        due(0, x.cellAfter(0, 30));
        due(39, x.cellAfter(4, 30));
        refusedEach(x, INDEX, outside(0, 4), r -> x.cellAfter(r, 0));
        refusedEach(x, INDEX, outside(0, 4), r -> x.cellAfter(r, 31));
    }

    @Sentence("Throws `IllegalArgumentException` if ticks is out of range")
    private static void p15TicksOutOfRange() {
        Trial x = riding();
        refusedEach(x, ARGUMENT, outside(0, 30), t -> x.cellAfter(0, t));
        refusedEach(x, INDEX, outside(0, 30), t -> x.cellAfter(2, t));
    }

    // ---- Promise 16

    @Sentence({"`cell`: the number of the cell, 0 to 39",
        "Throws `IndexOutOfBoundsException` if there is no such cell"})
    private static void p16CellRange() {
        Trial x = five();
        due(0, x.robotAt(0, 0));
        due(4, x.robotAt(39, 30));
        refusedEach(x, INDEX, noCell(), c -> x.robotAt(c, 0));
        refusedEach(x, INDEX, noCell(), c -> x.robotAt(c, 31));
        refusedEach(x, INDEX, noCell(), c -> x.robotAt(c, -1));
        // the numbers that stand for lifts are no cells
        Trial y = riding();
        refused(y, INDEX, () -> y.robotAt(-1, 0));
    }

    @Sentence({"`ticks`: the number of ticks from now, 0 to 30",
        "Throws `IllegalArgumentException` if ticks is out of range"})
    private static void p16TicksRange() {
        Trial x = lateMove();
        due(1, x.robotAt(10, 0));
        due(-1, x.robotAt(10, 1));
        due(1, x.robotAt(11, 29));
        due(-1, x.robotAt(11, 30));
        due(-1, x.robotAt(12, 29));
        due(1, x.robotAt(12, 30));
        refusedEach(x, ARGUMENT, outside(0, 30), t -> x.robotAt(12, t));
        refusedEach(x, ARGUMENT, outside(0, 30), t -> x.robotAt(0, t));
    }

    @Sentence("Returns the number of the robot, -1 if there is none.")
    private static void p16NoneOrFive() {
        Trial none = new Trial();
        Trial x = five();
        for (int c = 0; c < 40; c++) {
            due(-1, none.robotAt(c, 0));
            due(c == 0 ? 0 : c >= 36 ? c - 35 : -1, x.robotAt(c, 30));
        }
        // a robot in a lift is at no cell
        Trial y = riding();
        for (int c = 0; c < 40; c++) {
            due(c == 39 ? 1 : -1, y.robotAt(c, 0));
            due(c == 39 ? 1 : c == 5 ? 0 : -1, y.robotAt(c, 2));
        }
    }

    // ---- Promise 17

    @Sentence({"Cancels the plan of a robot, which then waits at its cell.", "A task that it serves is open again."})
    private static void p17Cancels() {
        Trial x = new Trial();
        x.addRobot(0, 100);
        x.addTask(3, 4, 0, 100);
        due(0, x.serve(0, 0));
        x.advance(1);
        due(3, x.cancel(0));
        due(1, x.cellAfter(0, 0));
        due(1, x.cellAfter(0, 30));
        due("", rest(x, 0));
        due(0, x.robot(0, 2));
        due(0, x.robot(0, 3));
        due(-1, x.robot(0, 4));
        due(0, x.task(0, 0));
        due(-1, x.task(0, 2));
        due(99, x.robot(0, 1));
        due(0, x.advance(30));
    }

    @Sentence("Returns the number of ticks that the rest of the plan would have taken.")
    private static void p17Returns() {
        Trial x = new Trial();
        x.addRobot(0, 100);
        due(0, x.cancel(0));
        x.addTask(0, 1, 29, 100);
        x.serve(0, 0);
        due(30, x.cancel(0));
        due(0, x.cancel(0));
        x.serve(0, 0);
        x.advance(29);
        due(1, x.cancel(0));
        due(0, x.robot(0, 0));
        x.plan(0, 1);
        x.advance(1);
        due(0, x.cancel(0));
    }

    @Sentence({"`robot`: the number of the robot", "Throws `IndexOutOfBoundsException` if there is no such robot"})
    private static void p17RobotRange() {
        Trial none = new Trial();
        refusedEach(none, INDEX, outside(0, -1), none::cancel);
        Trial x = five();
        x.plan(0, 1);
        x.plan(4, 31);
        refusedEach(x, INDEX, outside(0, 4), x::cancel);
        due(1, x.cancel(0));
        due(1, x.cancel(4));
    }

    @Sentence("Throws `IllegalStateException` if it is in a lift")
    private static void p17InALift() {
        Trial x = riding();
        refused(x, STATE, () -> x.cancel(0));
        due(1, x.task(0, 0));
        x.advance(1);
        refused(x, STATE, () -> x.cancel(0));
        x.advance(1);
        due(1, x.cancel(0));
        due(0, x.task(0, 0));
    }

    @Sentence("Throws `UnsupportedOperationException` if it would collide with another robot by waiting")
    private static void p17WouldCollide() {
        // robot 0 comes to the cell of robot 1 when the time is 30
        Trial x = new Trial();
        x.addRobot(10, 100);
        x.addRobot(11, 100);
        x.addTask(10, 11, 29, 100);
        x.addTask(12, 13, 0, 100);
        due(0, x.serve(1, 1));
        due(0, x.serve(0, 0));
        due(30, x.robot(0, 2));
        refused(x, UNSUPPORTED, () -> x.cancel(1));
        due(1, x.task(1, 0));
        due(30, x.cancel(0));
        due(2, x.cancel(1));
        // robot 0 passes it, and follows at once
        Trial y = corridor();
        y.addRobot(0, 100);
        y.addRobot(1, 100);
        y.plan(1, 7);
        y.plan(0, 6);
        refused(y, UNSUPPORTED, () -> y.cancel(1));
        y.advance(5);
        refused(y, UNSUPPORTED, () -> y.cancel(1));
        y.advance(1);
        due(0, y.cancel(1));
        due(0, y.cancel(0));
    }

    // ---- Promise 18

    @Sentence("Returns the robots without each of which alone, if it were not there, a robot would have a final route "
        + "to a cell, whatever its battery.")
    private static void p18EachAlone() {
        Trial x = corridor();
        x.addRobot(0, 0);
        due(0, x.blockers(0, 7));
        x.addRobot(3, 100);
        due(2, x.blockers(0, 7));
        x.addRobot(5, 100);
        // none of the two alone
        due(0, x.blockers(0, 7));
        due(2, x.blockers(0, 4));
        due(2, x.blockers(0, 3));
        due(0, x.blockers(0, 2));
        // one of them does where each one stands in another way
        Trial y = new Trial();
        walls(y, 10, 18, 26);
        y.addRobot(34, 100);
        y.addRobot(2, 100);
        y.addRobot(8, 0);
        due(3, y.blockers(2, 7));
    }

    @Sentence("if it were not there, a robot would have a final route")
    private static void p18WithinTheHorizon() {
        Trial x = nicheFrom(24);
        due(0, x.blockers(0, 7));
        Trial y = nicheFrom(25);
        due(2, y.blockers(0, 7));
        due(0, y.blockers(0, 6));
    }

    @Sentence("if it were not there, a robot would have a final route to a cell")
    private static void p18OwnCell() {
        // robot 1 comes to the cell at which robot 0 is now; without it robot 0 would only have to stay
        Trial x = corridor();
        x.addRobot(1, 100);
        x.addRobot(5, 100);
        due(0, x.blockers(0, 1));
        due(1, x.plan(0, 0));
        due(0, x.blockers(0, 1));
        due(4, x.plan(1, 1));
        due(2, x.blockers(0, 1));
        due(0, x.blockers(0, 0));
    }

    @Sentence({"`robot`: the number of the robot", "`cell`: the number of the cell, 0 to 39"})
    private static void p18Ranges() {
        Trial x = five();
        due(1, x.blockers(4, 0));
        due(16, x.blockers(0, 39));
        due(0, x.blockers(0, 0));
        due(0, x.blockers(4, 39));
    }

    @Sentence("Returns the set of other robots; empty if the robot has a final route as it is, or is in a lift.")
    private static void p18EmptyAndFullSets() {
        Trial alone = new Trial();
        alone.addRobot(0, 100);
        alone.setCell(1, WALL);
        due(0, alone.blockers(0, 39));
        due(0, alone.blockers(0, 1));
        Trial x = five();
        int[] want = {1, 2, 4, 8, 16};
        int[] cell = {0, 36, 37, 38, 39};
        for (int r = 0; r < 5; r++) {
            for (int k = 0; k < 5; k++) {
                due(k == r ? 0 : want[k], x.blockers(r, cell[k]));
            }
        }
        Trial y = riding();
        due(0, y.blockers(0, 39));
        y.advance(1);
        due(0, y.blockers(0, 39));
        y.advance(1);
        due(2, y.blockers(0, 39));
    }

    @Sentence("Throws `IndexOutOfBoundsException` if there is no such robot or cell")
    private static void p18NoSuchRobotOrCell() {
        Trial none = new Trial();
        refusedEach(none, INDEX, outside(0, -1), r -> none.blockers(r, 0));
        Trial x = five();
        refusedEach(x, INDEX, outside(0, 4), r -> x.blockers(r, 0));
        refusedEach(x, INDEX, noCell(), c -> x.blockers(4, c));
        Trial y = riding();
        refusedEach(y, INDEX, noCell(), c -> y.blockers(0, c));
    }

    // ---- Promise 19

    @Sentence("Makes way for a robot to a cell.")
    private static void p19MakesWay() {
        Trial x = niche();
        x.addRobot(0, 100);
        x.addRobot(2, 100);
        x.addTask(1, 0, 0, 100);
        due(0, x.serve(0, 0));
        due(1, x.makeWay(0, 7));
        due("3", rest(x, 1));
        due("2222222", rest(x, 0));
        due(0, x.task(0, 0));
        due(-1, x.robot(0, 4));
    }

    @Sentence({"`robot`: the number of the robot", "`cell`: the number of the cell, 0 to 39",
        "Returns the other robot that was planned."})
    private static void p19Ranges() {
        Trial x = five();
        due(4, x.makeWay(0, 39));
        // robot 0 waited at cell 0 when robot 4 was planned
        due(1, x.cellAfter(4, 30));
        Trial y = five();
        due(0, y.makeWay(4, 0));
        due(1, y.cellAfter(0, 30));
    }

    @Sentence("Throws `IndexOutOfBoundsException` if there is no such robot or cell")
    private static void p19NoSuchRobotOrCell() {
        Trial none = new Trial();
        refusedEach(none, INDEX, outside(0, -1), r -> none.makeWay(r, 0));
        Trial x = five();
        refusedEach(x, INDEX, outside(0, 4), r -> x.makeWay(r, 39));
        refusedEach(x, INDEX, noCell(), c -> x.makeWay(4, c));
        Trial y = riding();
        refusedEach(y, INDEX, noCell(), c -> y.makeWay(0, c));
    }

    @Sentence("Throws `IllegalStateException` if the robot is in a lift, or can be planned to the cell as it is")
    private static void p19NoNeed() {
        Trial x = riding();
        refusedEach(x, STATE, new int[] {3, 4, 5, 39}, c -> x.makeWay(0, c));
        x.advance(1);
        refusedEach(x, STATE, new int[] {3, 4, 5, 39}, c -> x.makeWay(0, c));
        x.advance(1);
        refusedEach(x, STATE, new int[] {3, 5, 6}, c -> x.makeWay(0, c));
        due(1, x.makeWay(0, 39));
        // with just the battery that it takes
        Trial y = new Trial();
        y.addRobot(0, 3);
        y.addRobot(39, 100);
        refused(y, STATE, () -> y.makeWay(0, 0));
        refused(y, STATE, () -> y.makeWay(0, 3));
        refused(y, NO_ELEMENT, () -> y.makeWay(0, 4));
        Trial late = nicheFrom(24);
        refused(late, STATE, () -> late.makeWay(0, 7));
    }

    @Sentence("Throws `NoSuchElementException` if no idle robot can make way")
    private static void p19NobodyCan() {
        Trial alone = corridor();
        alone.addRobot(0, 100);
        refused(alone, NO_ELEMENT, () -> alone.makeWay(0, 39));
        refused(alone, NO_ELEMENT, () -> alone.makeWay(0, 8));
        Trial busy = nicheFrom(25);
        refused(busy, NO_ELEMENT, () -> busy.makeWay(0, 7));
        due(1, busy.task(0, 0));
        // two robots would have to make way
        Trial two = niche();
        two.addRobot(0, 100);
        two.addRobot(2, 100);
        two.addRobot(4, 100);
        refused(two, NO_ELEMENT, () -> two.makeWay(0, 7));
        due(1, two.makeWay(0, 3));
        // a robot in a lift is not idle
        Trial x = riding();
        x.addRobot(7, 100);
        x.setCell(13, WALL);
        walls(x, 14, 15);
        refused(x, NO_ELEMENT, () -> x.makeWay(2, 6));
        x.advance(3);
        due(0, x.makeWay(2, 6));
        // where the battery alone does not do, the trials leave the tasks as they are
        Trial weak = new Trial();
        weak.addRobot(9, 1);
        weak.addRobot(20, 100);
        weak.addTask(5, 6, 0, 1);
        due(5, weak.serve(0, 1));
        refused(weak, NO_ELEMENT, () -> weak.makeWay(0, 39));
        weak.addTask(20, 28, 0, 30);
        due(0, weak.serve(1, 1));
        refused(weak, NO_ELEMENT, () -> weak.makeWay(0, 39));
    }

    // ---- Promise 20

    @Sentence("Plans a robot to the charger whose best final route takes the fewest ticks, the one with the "
        + "lowest number of several, among those whose cost is not greater than the battery.")
    private static void p20FewestTicks() {
        Trial x = new Trial();
        x.addRobot(0, 2);
        x.addLift(0, 39);
        x.setCell(39, CHARGER);
        x.setCell(4, CHARGER);
        due(39, x.planToCharger(0));
        due("5", rest(x, 0));
        // as soon there, but too dear, as its battery is 2
        x.setCell(3, CHARGER);
        due(39, x.planToCharger(0));
        // with a battery of 3 it is the lowest one
        Trial y = new Trial();
        y.addRobot(0, 3);
        y.addLift(0, 39);
        y.setCell(39, CHARGER);
        y.setCell(24, CHARGER);
        y.setCell(3, CHARGER);
        due(3, y.planToCharger(0));
        due("222", rest(y, 0));
        y.setCell(16, CHARGER);
        due(16, y.planToCharger(0));
        y.setCell(1, CHARGER);
        due(1, y.planToCharger(0));
        y.setCell(0, CHARGER);
        due(0, y.planToCharger(0));
        due("", rest(y, 0));
    }

    @Sentence("among those whose cost is not greater than the battery.")
    private static void p20Battery() {
        for (int battery = 0; battery <= 11; battery++) {
            Trial x = new Trial();
            x.addRobot(0, battery);
            x.setCell(39, CHARGER);
            x.setCell(5, CHARGER);
            if (battery < 5) {
                refused(x, NO_ELEMENT, () -> x.planToCharger(0));
            } else {
                due(5, x.planToCharger(0));
            }
        }
        Trial all = new Trial();
        all.addRobot(20, 0);
        for (int c = 0; c < 40; c++) {
            all.setCell(c, CHARGER);
        }
        due(20, all.planToCharger(0));
    }

    @Sentence({"`robot`: the number of the robot", "Throws `IndexOutOfBoundsException` if there is no such robot"})
    private static void p20RobotRange() {
        Trial none = new Trial();
        none.setCell(0, CHARGER);
        refusedEach(none, INDEX, outside(0, -1), none::planToCharger);
        Trial x = five();
        refusedEach(x, INDEX, outside(0, 4), x::planToCharger);
        x.setCell(20, CHARGER);
        refusedEach(x, INDEX, outside(0, 4), x::planToCharger);
        due(20, x.planToCharger(0));
        x.setCell(31, CHARGER);
        due(31, x.planToCharger(4));
    }

    @Sentence("Returns the cell of the charger.")
    private static void p20LowestAndHighestCell() {
        for (int c : new int[] {0, 39}) {
            Trial x = new Trial();
            x.addRobot(20, 100);
            x.setCell(c, CHARGER);
            due(c, x.planToCharger(0));
            due(c, x.cellAfter(0, 30));
        }
    }

    @Sentence("Throws `IllegalStateException` if the robot is in a lift")
    private static void p20InALift() {
        Trial x = riding();
        refused(x, STATE, () -> x.planToCharger(0));
        x.setCell(5, CHARGER);
        refused(x, STATE, () -> x.planToCharger(0));
        x.advance(1);
        refused(x, STATE, () -> x.planToCharger(0));
        x.advance(1);
        due(5, x.planToCharger(0));
        due(0, x.task(0, 0));
        due(-1, x.robot(0, 4));
    }

    @Sentence("Throws `NoSuchElementException` if there is no such charger")
    private static void p20NoCharger() {
        Trial x = new Trial();
        x.addRobot(0, 100);
        x.addRobot(39, 100);
        refused(x, NO_ELEMENT, () -> x.planToCharger(0));
        // the only charger is taken, then out of reach
        x.setCell(39, CHARGER);
        refused(x, NO_ELEMENT, () -> x.planToCharger(0));
        due(39, x.planToCharger(1));
        due(4, x.plan(1, 7));
        x.advance(4);
        walls(x, 38, 31);
        refused(x, NO_ELEMENT, () -> x.planToCharger(0));
        Trial late = nicheFrom(25);
        late.setCell(7, CHARGER);
        refused(late, NO_ELEMENT, () -> late.planToCharger(0));
        Trial inTime = nicheFrom(24);
        inTime.setCell(7, CHARGER);
        due(7, inTime.planToCharger(0));
        due(30, inTime.robot(0, 2));
    }

    public static void main(String[] args) throws Exception {
        runTests(BoundaryPlanTest.class);
    }
}
