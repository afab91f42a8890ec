/** The boundary cases of tasks and refusing, and of promises 21 to 26. */
public final class BoundaryTaskTest extends Checks {

    /** Robot 0 has begun the ride from cell 3 to 5; robot 1 is at cell 39. */
    private static Trial riding() {
        Trial x = liftFloor();
        x.addRobot(3, 5);
        x.addRobot(39, 100);
        x.plan(0, 6);
        x.advance(1);
        return x;
    }

    /** Robot 1 is in the way at cell 2 and leaves for the niche in the tick from a time on. */
    private static Trial nicheFrom(int release) {
        Trial x = niche();
        x.addRobot(0, 100);
        x.addRobot(2, 100);
        x.addTask(2, 10, release, 100);
        x.serve(0, 1);
        return x;
    }

    /** Robot 0 is below cell 1, which robot 1 passes when the time is 4. */
    private static Trial passing() {
        Trial x = new Trial();
        x.addRobot(9, 100);
        x.addRobot(5, 100);
        x.plan(1, 0);
        return x;
    }

    /** 12 tasks, three in each state, the first three open, and so on; robots 0 and 1 serve none. */
    private static Trial allStates() {
        Trial x = new Trial();
        for (int r = 0; r < 5; r++) {
            x.addRobot(8 * r, 100);
        }
        for (int t = 0; t < 12; t++) {
            x.addTask(8 * (t % 3 + 2), 8 * (t % 3 + 2) + 1, 0, t < 9 ? 100 : 0);
        }
        for (int t = 6; t < 9; t++) {
            x.serve(t, t - 4);
        }
        x.advance(1);
        for (int t = 3; t < 6; t++) {
            x.serve(t, t - 1);
        }
        for (int t = 9; t < 12; t++) {
            x.serve(t, 0);
        }
        return x;
    }

    private static void dueTask(Trial x, int task, int state, int reason, int robot) {
        due(state, x.task(task, 0));
        due(reason, x.task(task, 1));
        due(robot, x.task(task, 2));
    }

    // ---- Description: Tasks

    @Sentence("There are at most 12 tasks, numbered from 0 in the order in which they were added.")
    private static void p00TasksAtMostTwelve() {
        Trial x = new Trial();
        refused(x, INDEX, () -> x.task(0, 0));
        for (int t = 0; t < 12; t++) {
            due(t, x.count(2));
            due(t, x.addTask(t, t + 1, t, t + 20));
        }
        refused(x, STATE, () -> x.addTask(0, 1, 0, 0));
        due(12, x.count(2));
        for (int t = 0; t < 12; t++) {
            due(t, x.task(t, 4));
            due(t + 20, x.task(t, 7));
        }
        refused(x, INDEX, () -> x.task(12, 0));
    }

    @Sentence("A task has a cell from which something is taken and another cell to which it is brought, a release time "
        + "and a deadline, and a state: 0 open, 1 served, 2 done, 3 refused.")
    private static void p00TasksStates() {
        Trial x = allStates();
        for (int t = 0; t < 12; t++) {
            due(t / 3, x.task(t, 0));
        }
        for (int state = 0; state <= 3; state++) {
            due(3, x.tasksIn(state));
        }
        refusedEach(x, ARGUMENT, new int[] {0, 20, 39}, c -> x.addTask(c, c, 0, 1));
    }

    @Sentence("A robot that serves a task first makes its best route, not necessarily final, to the first cell "
        + "from now on")
    private static void p00TasksFirstRoute() {
        // robot 1 passes cell 1 later: the route to it is not final, but a first one
        Trial x = passing();
        x.addTask(1, 9, 0, 100);
        due(5, x.arrival(0, 1));
        due(0, x.serve(0, 0));
        due("13", rest(x, 0));
        // no actions, where the robot is at the first cell at once
        Trial y = new Trial();
        y.addRobot(39, 1);
        y.addTask(39, 38, 0, 1);
        due(0, y.serve(0, 0));
        due("4", rest(y, 0));
        // up to the horizon, where nothing is left for the second route
        Trial late = nicheFrom(24);
        late.addTask(7, 6, 0, 100);
        late.addTask(6, 7, 0, 100);
        due(4, late.serve(1, 0));
        due(0, late.serve(2, 0));
        due(30, late.robot(0, 2));
        Trial later = nicheFrom(25);
        later.addTask(7, 6, 0, 100);
        later.addTask(6, 7, 0, 100);
        later.addTask(5, 6, 0, 100);
        due(2, later.serve(1, 0));
        due(4, later.serve(2, 0));
        due(0, later.serve(3, 0));
    }

    @Sentence("then it waits there until the clock is the release time, if that is later")
    private static void p00TasksWaiting() {
        String[] want = {"2222", "2222", "2222", "22022", "220022"};
        for (int clock = 0; clock <= 10; clock += 10) {
            for (int release = 0; release <= 4; release++) {
                Trial x = new Trial();
                x.addRobot(0, 100);
                if (clock > 0) {
                    x.advance(clock);
                }
                x.addTask(2, 4, clock + release, 100);
                due(0, x.serve(0, 0));
                due(want[release], rest(x, 0));
            }
        }
        // a release time long ago
        Trial x = new Trial();
        x.addRobot(0, 100);
        pass(x, 900);
        x.addTask(2, 4, 0, 1000);
        due(0, x.serve(0, 0));
        due("2222", rest(x, 0));
    }

    @Sentence("then it makes its best final route to the second cell from then on.")
    private static void p00TasksSecondRoute() {
        // robot 1 waits at cell 11 until 29 and comes to cell 12 when the time is 30
        Trial x = new Trial();
        x.addRobot(3, 100);
        x.addRobot(10, 100);
        x.addTask(11, 12, 29, 100);
        due(0, x.serve(0, 1));
        x.addTask(2, 12, 0, 100);
        x.addTask(2, 11, 0, 100);
        due(4, x.serve(1, 0));
        due(0, x.serve(2, 0));
        due(30, x.robot(0, 2));
        due(11, x.cellAfter(0, 30));
        due(2 + 1, x.robot(0, 3));
    }

    @Sentence("When the plan is finished, the task is done.")
    private static void p00TasksDone() {
        Trial x = new Trial();
        x.addRobot(0, 100);
        x.addTask(0, 1, 29, 100);
        due(0, x.serve(0, 0));
        due(0, x.advance(29));
        dueTask(x, 0, 1, 0, 0);
        due(-1, x.task(0, 3));
        due(0, x.robot(0, 4));
        due(1, x.advance(1));
        dueTask(x, 0, 2, 0, 0);
        due(30, x.task(0, 3));
        due(-1, x.robot(0, 4));
        due(0, x.advance(30));
        due(30, x.task(0, 3));
    }

    @Sentence("A task that the robot served before is open again when it serves another one.")
    private static void p00TasksOpenAgain() {
        Trial x = new Trial();
        x.addRobot(0, 100);
        x.addTask(1, 2, 0, 100);
        x.addTask(3, 4, 0, 100);
        x.addTask(5, 6, 0, 1);
        due(0, x.serve(0, 0));
        due(0, x.serve(1, 0));
        dueTask(x, 0, 0, 0, -1);
        dueTask(x, 1, 1, 0, 0);
        // but not if the other one is refused
        due(5, x.serve(2, 0));
        dueTask(x, 1, 1, 0, 0);
        due(1, x.robot(0, 4));
        due(0, x.serve(0, 0));
        dueTask(x, 1, 0, 0, -1);
    }

    // ---- Description: Refusing

    @Sentence("To serve an open or refused task is refused, and the task is then in the state refused and has a reason")
    private static void p00RefusedOpenOrRefusedTask() {
        Trial x = new Trial();
        x.addRobot(0, 1);
        x.addRobot(39, 100);
        x.addTask(1, 2, 0, 1);
        dueTask(x, 0, 0, 0, -1);
        due(5, x.serve(0, 0));
        dueTask(x, 0, 3, 5, -1);
        // a refused task is refused again, with the reason of now
        x.setCell(1, WALL);
        due(2, x.serve(0, 1));
        dueTask(x, 0, 3, 2, -1);
        x.setCell(1, FREE);
        due(5, x.serve(0, 0));
        dueTask(x, 0, 3, 5, -1);
        // or served
        x.addTask(1, 2, 0, 100);
        due(6, x.serve(1, 0));
        dueTask(x, 1, 3, 6, -1);
        due(0, x.serve(1, 1));
        dueTask(x, 1, 1, 0, 1);
        due(11, x.cancel(1));
        dueTask(x, 1, 0, 0, -1);
    }

    @Sentence("1 the robot is in a lift")
    private static void p00RefusedReasonOne() {
        Trial x = riding();
        x.addTask(6, 7, 0, 100);
        // all the other reasons would apply to these
        x.addTask(4, 12, 1000, 1000);
        x.addTask(4, 12, 0, 0);
        for (int k = 0; k < 2; k++) {
            for (int t = 0; t < 3; t++) {
                due(1, x.serve(t, 0));
                dueTask(x, t, 3, 1, -1);
            }
            x.advance(1);
        }
        due(0, x.serve(0, 0));
        due(2, x.serve(1, 0));
        due(2, x.serve(2, 0));
    }

    @Sentence("2 there is no route to the first cell within the horizon")
    private static void p00RefusedReasonTwo() {
        Trial x = corridor();
        x.addRobot(0, 0);
        x.addRobot(5, 100);
        x.addTask(8, 9, 1000, 1000);
        x.addTask(16, 8, 0, 0);
        x.addTask(5, 4, 0, 0);
        x.addTask(7, 20, 31, 31);
        for (int t = 0; t < 4; t++) {
            due(2, x.serve(t, 0));
            dueTask(x, t, 3, 2, -1);
        }
        x.addTask(4, 20, 31, 31);
        due(3, x.serve(4, 0));
    }

    @Sentence("3 it cannot wait there until the release time without a collision, or that is after the horizon")
    private static void p00RefusedReasonThree() {
        // robot 1 is at cell 1 when the time is 4
        for (int release = 3; release <= 5; release++) {
            Trial x = passing();
            x.addTask(1, 9, release, 100);
            due(release == 3 ? 0 : 3, x.serve(0, 0));
            due(release == 3 ? "1003" : "", rest(x, 0));
        }
        // where it arrives after the release time, it does not wait
        Trial x = passing();
        x.addTask(1, 9, 1, 100);
        due(0, x.serve(0, 0));
        due("13", rest(x, 0));
    }

    @Sentence("or that is after the horizon")
    private static void p00RefusedReasonThreeAfterTheHorizon() {
        for (int clock = 0; clock <= 7; clock += 7) {
            Trial x = new Trial();
            x.addRobot(0, 100);
            if (clock > 0) {
                x.advance(clock);
            }
            x.addTask(0, 1, clock + 29, 100);
            x.addTask(0, 1, clock + 30, 100);
            x.addTask(0, 1, clock + 31, 100);
            due(0, x.serve(0, 0));
            due(4, x.serve(1, 0));
            due(3, x.serve(2, 0));
            x.advance(1);
            due(4, x.serve(2, 0));
            due(0, x.serve(1, 0));
        }
        // reasons 4, 5 and 6 would apply too
        Trial x = new Trial();
        x.addRobot(0, 0);
        x.setCell(39, WALL);
        x.addTask(1, 39, 31, 31);
        x.addTask(1, 39, 1000, 1000);
        due(3, x.serve(0, 0));
        due(3, x.serve(1, 0));
    }

    @Sentence("4 there is no final route to the second cell within the horizon")
    private static void p00RefusedReasonFour() {
        Trial x = new Trial();
        x.addRobot(0, 0);
        x.addRobot(38, 100);
        x.setCell(39, WALL);
        // reasons 5 and 6 would apply too
        x.addTask(1, 39, 0, 0);
        x.addTask(1, 38, 0, 0);
        x.addTask(1, 2, 30, 30);
        x.addTask(1, 2, 29, 29);
        due(4, x.serve(0, 0));
        due(4, x.serve(1, 0));
        due(4, x.serve(2, 0));
        due(5, x.serve(3, 0));
        dueTask(x, 0, 3, 4, -1);
        // a ride that would end after the horizon
        Trial y = liftFloor();
        y.addRobot(3, 100);
        y.addTask(3, 5, 28, 100);
        y.addTask(3, 5, 27, 100);
        due(4, y.serve(0, 0));
        due(0, y.serve(1, 0));
    }

    @Sentence("5 the plan ends later than the deadline")
    private static void p00RefusedReasonFive() {
        for (int clock = 0; clock <= 13; clock += 13) {
            Trial x = new Trial();
            x.addRobot(0, 100);
            x.addRobot(39, 0);
            if (clock > 0) {
                x.advance(clock);
            }
            x.addTask(2, 4, 0, clock + 3);
            x.addTask(2, 4, 0, clock + 4);
            x.addTask(38, 37, 0, clock + 1);
            x.addTask(38, 37, 0, clock + 2);
            due(5, x.serve(0, 0));
            due(0, x.serve(1, 0));
            // reason 6 would apply too
            due(5, x.serve(2, 1));
            due(6, x.serve(3, 1));
        }
        // with the longest waiting
        Trial y = new Trial();
        y.addRobot(0, 100);
        y.addTask(0, 1, 29, 29);
        y.addTask(0, 1, 29, 30);
        due(5, y.serve(0, 0));
        due(0, y.serve(1, 0));
    }

    @Sentence("6 the plan costs more than the battery.")
    private static void p00RefusedReasonSix() {
        for (int battery = 3; battery <= 4; battery++) {
            Trial x = new Trial();
            x.addRobot(0, battery);
            x.addTask(2, 4, 0, 4);
            due(battery == 3 ? 6 : 0, x.serve(0, 0));
            Trial y = liftFloor();
            y.addRobot(2, battery);
            y.addTask(3, 6, 0, 5);
            due(battery == 3 ? 6 : 0, y.serve(0, 0));
        }
        // what it would gain at a charger does not count
        Trial z = new Trial();
        z.addRobot(0, 0);
        z.setCell(0, CHARGER);
        z.addTask(0, 1, 20, 100);
        due(6, z.serve(0, 0));
        z.advance(1);
        due(0, z.serve(0, 0));
    }

    @Sentence("The plan of the robot stays as it is then.")
    private static void p00RefusedPlanStays() {
        Trial x = new Trial();
        x.addRobot(0, 100);
        x.addTask(1, 2, 9, 100);
        x.addTask(1, 2, 0, 1);
        due(0, x.serve(0, 0));
        x.advance(3);
        String before = rest(x, 0);
        due(5, x.serve(1, 0));
        due(before, rest(x, 0));
        due("0000002", before);
        due(0, x.robot(0, 4));
        dueTask(x, 0, 1, 0, 0);
        Trial y = riding();
        y.addTask(6, 7, 0, 100);
        due(1, y.serve(0, 0));
        due("52", rest(y, 0));
        y.advance(30);
        due(6, y.robot(0, 0));
    }

    // ---- Promise 21

    @Sentence("Adds an open task.")
    private static void p21AddsOpenTask() {
        Trial x = new Trial();
        pass(x, 1000);
        due(0, x.addTask(39, 0, 1000, 1000));
        int[] want = {0, 0, -1, -1, 39, 0, 1000, 1000};
        for (int k = 0; k < 8; k++) {
            due(want[k], x.task(0, k));
        }
    }

    @Sentence({"`from`: the cell from which something is taken", "`to`: the cell to which it is brought"})
    private static void p21Cells() {
        Trial x = new Trial();
        walls(x, 0, 39);
        due(0, x.addTask(0, 39, 0, 0));
        due(1, x.addTask(39, 0, 0, 0));
        due(0, x.task(0, 4));
        due(39, x.task(0, 5));
        due(39, x.task(1, 4));
        due(0, x.task(1, 5));
    }

    @Sentence({"`release`: the release time, 0 to 1000", "`deadline`: the deadline, 0 to 1000"})
    private static void p21Times() {
        Trial x = new Trial();
        int[][] times = {{0, 0}, {0, 1}, {0, 1000}, {1, 1}, {999, 1000}, {1000, 1000}};
        for (int t = 0; t < times.length; t++) {
            due(t, x.addTask(1, 2, times[t][0], times[t][1]));
            due(times[t][0], x.task(t, 6));
            due(times[t][1], x.task(t, 7));
        }
        refusedEach(x, ARGUMENT, outside(0, 1000), n -> x.addTask(1, 2, n, n));
        refusedEach(x, ARGUMENT, outside(0, 1000), n -> x.addTask(1, 2, n, 1000));
        refusedEach(x, ARGUMENT, outside(0, 1000), n -> x.addTask(1, 2, 0, n));
    }

    @Sentence("Returns the number of the task.")
    private static void p21Returns() {
        Trial x = new Trial();
        for (int t = 0; t < 12; t++) {
            due(t, x.addTask(1, 2, 0, 0));
        }
        x.clear();
        due(0, x.addTask(1, 2, 0, 0));
    }

    @Sentence("Throws `IndexOutOfBoundsException` if there is no such cell")
    private static void p21NoSuchCell() {
        Trial x = new Trial();
        refusedEach(x, INDEX, noCell(), c -> x.addTask(c, 0, 0, 0));
        refusedEach(x, INDEX, noCell(), c -> x.addTask(0, c, 0, 0));
        refusedEach(x, INDEX, noCell(), c -> x.addTask(c, c, 0, 0));
        refusedEach(x, INDEX, noCell(), c -> x.addTask(c, 0, 9, 8));
        refusedEach(x, INDEX, noCell(), c -> x.addTask(0, c, -1, 1001));
        Trial full = allStates();
        refusedEach(full, INDEX, noCell(), c -> full.addTask(c, 0, 0, 0));
        refusedEach(full, INDEX, noCell(), c -> full.addTask(0, c, 0, 0));
    }

    @Sentence("Throws `IllegalArgumentException` if both cells are the same, a time is out of range, "
        + "or the release time is greater than the deadline")
    private static void p21Unfit() {
        for (Trial x : new Trial[] {new Trial(), allStates()}) {
            refusedEach(x, ARGUMENT, new int[] {0, 20, 39}, c -> x.addTask(c, c, 0, 0));
            refusedEach(x, ARGUMENT, outside(0, 1000), n -> x.addTask(1, 2, n, 500));
            refusedEach(x, ARGUMENT, outside(0, 1000), n -> x.addTask(1, 2, 500, n));
            refused(x, ARGUMENT, () -> x.addTask(1, 2, 1, 0));
            refused(x, ARGUMENT, () -> x.addTask(1, 2, 501, 500));
            refused(x, ARGUMENT, () -> x.addTask(1, 2, 1000, 999));
            refused(x, ARGUMENT, () -> x.addTask(1, 2, MIN, MAX));
            refused(x, ARGUMENT, () -> x.addTask(1, 2, MAX, MIN));
        }
    }

    @Sentence("Throws `IllegalStateException` if there are 12 tasks")
    private static void p21TwelveTasks() {
        Trial x = new Trial();
        for (int t = 0; t < 11; t++) {
            x.addTask(1, 2, 0, 0);
        }
        due(11, x.addTask(0, 39, 0, 1000));
        refused(x, STATE, () -> x.addTask(0, 1, 0, 1000));
        Trial y = allStates();
        refused(y, STATE, () -> y.addTask(39, 38, 0, 0));
    }

    // ---- Promise 22

    @Sentence({"Lets a robot serve a task, if this is not refused.",
        "Returns 0 if it is served, otherwise the reason."})
    private static void p22ServesOrRefuses() {
        Trial x = new Trial();
        for (int r = 0; r < 5; r++) {
            x.addRobot(r * 8, 100);
        }
        for (int t = 0; t < 12; t++) {
            x.addTask(7, 15, 0, t == 11 ? 12 : 11);
        }
        // from cell 32 to cell 7 and on to cell 15 it takes 12 ticks
        due(5, x.serve(0, 4));
        dueTask(x, 0, 3, 5, -1);
        due(0, x.serve(11, 4));
        dueTask(x, 11, 1, 0, 4);
        due(11, x.robot(4, 4));
        due(12, x.robot(4, 2));
    }

    @Sentence({"`task`: the number of the task", "`robot`: the number of the robot",
        "Throws `IndexOutOfBoundsException` if there is no such task or robot"})
    private static void p22NoSuchTaskOrRobot() {
        Trial none = new Trial();
        refusedEach(none, INDEX, outside(0, -1), n -> none.serve(n, n));
        none.addRobot(0, 100);
        refusedEach(none, INDEX, outside(0, -1), n -> none.serve(n, 0));
        Trial task = new Trial();
        task.addTask(0, 1, 0, 9);
        refusedEach(task, INDEX, outside(0, -1), n -> task.serve(0, n));
        Trial x = allStates();
        refusedEach(x, INDEX, outside(0, 11), n -> x.serve(n, 0));
        refusedEach(x, INDEX, outside(0, 4), n -> x.serve(0, n));
        // tasks that are served or done
        refusedEach(x, INDEX, outside(0, 4), n -> x.serve(3, n));
        refusedEach(x, INDEX, outside(0, 4), n -> x.serve(8, n));
    }

    @Sentence("Throws `IllegalStateException` if the task is served or done")
    private static void p22ServedOrDone() {
        Trial x = allStates();
        for (int t = 3; t < 9; t++) {
            int task = t;
            refusedEach(x, STATE, new int[] {0, 1, 2, 3, 4}, r -> x.serve(task, r));
        }
        Trial y = riding();
        y.addTask(38, 37, 0, 100);
        due(0, y.serve(0, 1));
        refusedEach(y, STATE, new int[] {0, 1}, r -> y.serve(0, r));
        y.advance(2);
        refusedEach(y, STATE, new int[] {0, 1}, r -> y.serve(0, r));
        due(2, y.task(0, 0));
    }

    // ---- Promise 23

    @Sentence({"Returns the robot that would finish a task first if it served it", "Returns the robot."})
    private static void p23First() {
        Trial x = new Trial();
        for (int r = 0; r < 5; r++) {
            x.addRobot(r * 8, 100);
        }
        x.addTask(39, 38, 0, 100);
        due(4, x.bestRobot(0));
        x.addTask(7, 6, 0, 100);
        due(0, x.bestRobot(1));
        // a robot that serves another task is asked too
        due(0, x.serve(0, 4));
        x.addTask(32, 33, 0, 100);
        due(4, x.bestRobot(2));
        due(1, x.task(0, 0));
    }

    @Sentence("the one with the lowest number of several.")
    private static void p23LowestOfSeveral() {
        Trial x = new Trial();
        for (int r = 0; r < 5; r++) {
            x.addRobot(r * 8, 100);
        }
        // all can wait at cell 20 until the release time
        x.addTask(20, 21, 25, 100);
        due(0, x.bestRobot(0));
        x.plan(0, 4);
        due(0, x.bestRobot(0));
        // robots 1 and 2 are as near
        Trial y = new Trial();
        y.addRobot(39, 100);
        y.addRobot(8, 100);
        y.addRobot(24, 100);
        y.addTask(16, 17, 0, 2);
        due(1, y.bestRobot(0));
        // a tick less counts more than a low number
        y.addTask(17, 18, 0, 100);
        y.plan(2, 25);
        y.advance(1);
        due(2, y.bestRobot(1));
    }

    @Sentence("Nothing changes.")
    private static void p23NothingChanges() {
        Trial x = new Trial();
        x.addRobot(0, 100);
        x.addRobot(2, 2);
        x.addTask(1, 2, 0, 100);
        x.addTask(3, 4, 0, 100);
        x.addTask(5, 6, 0, 1);
        due(1, x.plan(1, 3));
        due(0, x.serve(0, 0));
        due(5, x.serve(2, 0));
        String before = sight(x);
        due(1, x.bestRobot(1));
        due(before, sight(x));
        refused(x, NO_ELEMENT, () -> x.bestRobot(2));
        dueTask(x, 2, 3, 5, -1);
    }

    @Sentence({"`task`: the number of the task", "Throws `IndexOutOfBoundsException` if there is no such task"})
    private static void p23NoSuchTask() {
        Trial none = new Trial();
        none.addRobot(0, 100);
        refusedEach(none, INDEX, outside(0, -1), none::bestRobot);
        Trial x = allStates();
        refusedEach(x, INDEX, outside(0, 11), x::bestRobot);
        due(2, x.bestRobot(0));
    }

    @Sentence("Throws `IllegalStateException` if the task is served or done")
    private static void p23ServedOrDone() {
        Trial x = allStates();
        refusedEach(x, STATE, new int[] {3, 4, 5, 6, 7, 8}, x::bestRobot);
        refusedEach(x, NO_ELEMENT, new int[] {9, 10, 11}, x::bestRobot);
    }

    @Sentence("Throws `NoSuchElementException` if each robot would be refused")
    private static void p23AllRefused() {
        Trial none = new Trial();
        none.addTask(0, 1, 0, 100);
        refused(none, NO_ELEMENT, () -> none.bestRobot(0));
        // late by a tick, too dear by 1
        Trial x = new Trial();
        x.addRobot(0, 3);
        x.addRobot(8, 100);
        x.addTask(2, 4, 0, 4);
        x.addTask(2, 4, 0, 5);
        x.addTask(2, 3, 0, 3);
        x.addTask(2, 3, 0, 2);
        refused(x, NO_ELEMENT, () -> x.bestRobot(0));
        due(1, x.bestRobot(1));
        due(0, x.bestRobot(2));
        refused(x, NO_ELEMENT, () -> x.bestRobot(3));
        // a robot in a lift
        Trial y = riding();
        y.addTask(7, 15, 0, 5);
        y.addTask(7, 15, 0, 6);
        refused(y, NO_ELEMENT, () -> y.bestRobot(0));
        due(1, y.bestRobot(1));
        y.advance(2);
        due(0, y.bestRobot(1));
    }

    // ---- Promise 24

    @Sentence({"`task`: the number of the task", "Throws `IndexOutOfBoundsException` if there is no such task"})
    private static void p24NoSuchTask() {
        Trial none = new Trial();
        refusedEach(none, INDEX, outside(0, -1), n -> none.task(n, 0));
        refusedEach(none, INDEX, outside(0, -1), n -> none.task(n, 8));
        Trial x = allStates();
        due(16, x.task(0, 4));
        due(32, x.task(11, 4));
        refusedEach(x, INDEX, outside(0, 11), n -> x.task(n, 0));
        refusedEach(x, INDEX, outside(0, 11), n -> x.task(n, -1));
    }

    @Sentence("Throws `IllegalArgumentException` if what is not 0 to 7")
    private static void p24WhatRange() {
        Trial x = allStates();
        refusedEach(x, ARGUMENT, outside(0, 7), k -> x.task(0, k));
        refusedEach(x, ARGUMENT, outside(0, 7), k -> x.task(11, k));
        refusedEach(x, INDEX, outside(0, 7), k -> x.task(12, k));
        int[] want = {2, 0, 2, 1, 16, 17, 0, 100};
        for (int k = 0; k <= 7; k++) {
            due(want[k], x.task(6, k));
        }
    }

    @Sentence({"0 for its state", "1 for its reason, 0 if it is not refused"})
    private static void p24Reason() {
        Trial x = riding();
        x.addTask(6, 7, 0, 5);
        x.addTask(4, 7, 0, 100);
        x.addTask(6, 7, 32, 100);
        x.addTask(6, 4, 0, 100);
        x.addTask(6, 7, 0, 4);
        x.addTask(6, 2, 0, 100);
        dueTask(x, 0, 0, 0, -1);
        due(1, x.serve(0, 0));
        dueTask(x, 0, 3, 1, -1);
        x.advance(2);
        due(3, x.robot(0, 1));
        due(5, x.robot(0, 0));
        for (int t = 1; t <= 5; t++) {
            if (t == 2) {
                x.addTask(6, 7, 34, 100);
                due(3, x.serve(6, 0));
                dueTask(x, 6, 3, 3, -1);
            } else {
                due(t + 1, x.serve(t, 0));
                dueTask(x, t, 3, t + 1, -1);
            }
        }
        due(0, x.serve(0, 0));
        dueTask(x, 0, 1, 0, 0);
        due(2, x.cancel(0));
        dueTask(x, 0, 0, 0, -1);
    }

    @Sentence("2 for the robot that serves it or has done it, -1 if there is none")
    private static void p24Robot() {
        Trial x = new Trial();
        for (int r = 0; r < 5; r++) {
            x.addRobot(r, 100);
        }
        x.addTask(4, 5, 0, 100);
        x.addTask(5, 6, 0, 100);
        due(-1, x.task(0, 2));
        due(0, x.serve(0, 4));
        due(4, x.task(0, 2));
        x.advance(1);
        due(4, x.task(0, 2));
        due(0, x.serve(1, 4));
        due(4, x.task(0, 2));
        due(4, x.task(1, 2));
        x.plan(4, 5);
        due(4, x.task(0, 2));
        due(-1, x.task(1, 2));
        due(0, x.serve(1, 4));
        due(1, x.cancel(4));
        due(4, x.task(0, 2));
        due(-1, x.task(1, 2));
    }

    @Sentence("3 for the time at which it was done, -1 if it is not done")
    private static void p24DoneAt() {
        Trial x = new Trial();
        x.addRobot(0, 100);
        x.addTask(0, 1, 0, 1000);
        x.addTask(1, 2, 0, 1000);
        x.addTask(2, 3, 0, 0);
        due(-1, x.task(0, 3));
        due(0, x.serve(0, 0));
        due(-1, x.task(0, 3));
        x.advance(1);
        due(1, x.task(0, 3));
        pass(x, 998);
        due(0, x.serve(1, 0));
        due(-1, x.task(1, 3));
        due(1, x.advance(1));
        due(1000, x.task(1, 3));
        due(1, x.task(0, 3));
        due(5, x.serve(2, 0));
        due(-1, x.task(2, 3));
    }

    @Sentence("4 and 5 for its first and second cell, 6 and 7 for its release time and its deadline")
    private static void p24CellsAndTimes() {
        Trial x = new Trial();
        x.addTask(0, 39, 0, 1000);
        x.addTask(39, 0, 1000, 1000);
        x.addTask(1, 2, 0, 0);
        int[][] want = {{0, 39, 0, 1000}, {39, 0, 1000, 1000}, {1, 2, 0, 0}};
        for (int t = 0; t < 3; t++) {
            for (int k = 4; k <= 7; k++) {
                due(want[t][k - 4], x.task(t, k));
            }
        }
    }

    // ---- Promise 25

    @Sentence("goes through the open tasks in ascending order of their deadlines, of equal ones in the order of "
        + "their numbers")
    private static void p25Order() {
        Trial x = new Trial();
        x.addRobot(0, 100);
        int[] deadline = {1000, 99, 98, 99, 0, 98, 1000, 99, 98, 99, 1000, 98};
        for (int d : deadline) {
            x.addTask(0, 1, 0, d);
        }
        // task 4 is late for each robot; robot 0 moves to cell 1, then back to cell 0 and to cell 1 again
        int[] order = {2, 5, 8, 11, 1, 3, 7, 9, 0, 6, 10};
        for (int t : order) {
            due(1, x.assignAll());
            due(1, x.task(t, 0));
            due(t, x.robot(0, 4));
            due(1, x.advance(2));
        }
        due(0, x.assignAll());
        dueTask(x, 4, 0, 0, -1);
    }

    @Sentence("goes through the open tasks")
    private static void p25LastOfTwelve() {
        for (int last = 0; last < 12; last += 11) {
            Trial x = new Trial();
            x.addRobot(0, 100);
            x.setCell(39, WALL);
            for (int t = 0; t < 12; t++) {
                x.addTask(t == last ? 1 : 39, 2, 0, t == last ? 100 : 99);
            }
            due(1, x.assignAll());
            dueTask(x, last, 1, 0, 0);
            due(11, x.tasksIn(0));
        }
    }

    @Sentence("lets each one be served by the idle robot that finishes it first, the one with the lowest number "
        + "of several, if there is one that is not refused")
    private static void p25Robot() {
        Trial x = new Trial();
        x.addRobot(39, 100);
        x.addRobot(8, 100);
        x.addRobot(24, 100);
        x.addTask(16, 17, 0, 2);
        x.addTask(16, 15, 0, 100);
        due(2, x.assignAll());
        dueTask(x, 0, 1, 0, 1);
        dueTask(x, 1, 1, 0, 2);
        // the nearest robot has not the battery, the next one is not idle by a tick
        Trial y = new Trial();
        y.addRobot(2, 1);
        y.addRobot(5, 100);
        y.addRobot(39, 100);
        y.plan(1, 4);
        y.addTask(3, 11, 0, 100);
        y.save();
        due(1, y.assignAll());
        dueTask(y, 0, 1, 0, 2);
        y.restore();
        y.advance(1);
        due(1, y.assignAll());
        dueTask(y, 0, 1, 0, 1);
    }

    @Sentence("goes through the open tasks")
    private static void p25OnlyOpenTasksAndIdleRobots() {
        Trial x = new Trial();
        x.addRobot(0, 0);
        x.addRobot(2, 100);
        x.addTask(3, 4, 0, 100);
        x.addTask(5, 6, 0, 100);
        x.addTask(7, 15, 0, 100);
        due(6, x.serve(1, 0));
        due(0, x.serve(0, 1));
        x.addTask(39, 38, 0, 100);
        // task 0 is served, task 1 refused; robot 0 has no battery, robot 1 is not idle
        String before = sight(x);
        due(0, x.assignAll());
        due(before, sight(x));
        x.advance(2);
        due(1, x.assignAll());
        dueTask(x, 0, 2, 0, 1);
        dueTask(x, 1, 3, 6, -1);
        dueTask(x, 2, 1, 0, 1);
        dueTask(x, 3, 0, 0, -1);
    }

    @Sentence("tasks without such a robot stay as they are.")
    private static void p25OthersStay() {
        Trial none = new Trial();
        due(0, none.assignAll());
        for (int t = 0; t < 12; t++) {
            none.addTask(1, 2, 0, 100);
        }
        due(0, none.assignAll());
        due(12, none.tasksIn(0));
        Trial x = riding();
        x.addTask(4, 3, 0, 100);
        x.addTask(38, 4, 0, 100);
        x.addTask(38, 37, 32, 100);
        x.addTask(38, 37, 0, 2);
        String before = sight(x);
        due(0, x.assignAll());
        due(before, sight(x));
        x.addTask(38, 37, 0, 3);
        due(1, x.assignAll());
        dueTask(x, 4, 1, 0, 1);
        due(4, x.tasksIn(0));
    }

    @Sentence("Returns the number of tasks that are served.")
    private static void p25Returns() {
        Trial x = new Trial();
        for (int r = 0; r < 5; r++) {
            x.addRobot(r * 8, 100);
        }
        for (int t = 0; t < 12; t++) {
            x.addTask(t % 5 * 8 + 1, t % 5 * 8 + 2, 0, 100);
        }
        due(5, x.assignAll());
        due(0, x.assignAll());
        due(5, x.tasksIn(1));
        due(5, x.advance(2));
        due(5, x.assignAll());
        due(5, x.advance(3));
        due(2, x.assignAll());
        due(0, x.assignAll());
        due(2, x.advance(30));
        due(0, x.assignAll());
        due(12, x.tasksIn(2));
    }

    // ---- Promise 26

    @Sentence({"Returns the number of tasks in a state.", "`state`: the state, 0 to 3"})
    private static void p26States() {
        Trial none = new Trial();
        Trial open = new Trial();
        for (int t = 0; t < 12; t++) {
            open.addTask(1, 2, 0, 100);
        }
        Trial x = allStates();
        for (int state = 0; state <= 3; state++) {
            due(0, none.tasksIn(state));
            due(state == 0 ? 12 : 0, open.tasksIn(state));
            due(3, x.tasksIn(state));
        }
    }

    @Sentence("Throws `IllegalArgumentException` if state is not 0 to 3")
    private static void p26StateRange() {
        Trial x = allStates();
        refusedEach(x, ARGUMENT, outside(0, 3), x::tasksIn);
        Trial none = new Trial();
        refusedEach(none, ARGUMENT, outside(0, 3), none::tasksIn);
    }

    public static void main(String[] args) throws Exception {
        runTests(BoundaryTaskTest.class);
    }
}
