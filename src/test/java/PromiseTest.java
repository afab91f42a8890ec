/** For each promise of the document: ordinary calls, the edges that it names, and wrong calls. */
public final class PromiseTest extends Checks {
    private static void p01NewObject() {
        Trial x = new Trial();
        for (int k = 0; k < 6; k++) {
            due(0, x.count(k));
        }
        for (int c = 0; c < 40; c++) {
            due(FREE, x.cell(c));
            due(0, x.visits(c));
            due(-1, x.robotAt(c, 0));
        }
        dueThrow(NO_ELEMENT, x::errorPosition);
        dueThrow(STATE, x::restore);
        dueThrow(NO_ELEMENT, () -> x.sampled(0, 0, 0));
        due(0, new Trial().clear());
    }

    private static void p02Clear() {
        Trial x = new Trial();
        x.setCell(39, WALL);
        x.setCell(38, CHARGER);
        x.addLift(0, 20);
        x.addRobot(5, 50);
        x.addRobot(6, 50);
        x.addTask(1, 2, 0, 30);
        x.sample(0, 1, 1);
        x.plan(0, 4);
        x.save();
        x.advance(7);
        type(x, "x");
        dueThrow(ARGUMENT, x::read);
        type(x, "w1;");
        due(2, x.clear());
        for (int k = 0; k < 6; k++) {
            due(0, x.count(k));
        }
        for (int c = 0; c < 40; c++) {
            due(FREE, x.cell(c));
            due(0, x.visits(c));
        }
        due(40, x.region(39));
        due(6, x.ticksBetween(0, 20));
        dueThrow(INDEX, () -> x.robot(0, 0));
        dueThrow(INDEX, () -> x.task(0, 0));
        due(0, x.busiestCell());
        dueThrow(ARITHMETIC, x::averageDelay);
        due(6, x.sampled(0, 1, 1));
        due(0, x.errorPosition());
        due(1, x.read());
        due(WALL, x.cell(1));
        due(0, x.addRobot(5, 9));
        dueThrow(ARITHMETIC, () -> x.activity(0));
        due(0, x.statistic(0, 2));
        due(-1, x.robot(0, 4));
        due(0, x.addLift(2, 3));
        due(0, x.addTask(1, 2, 0, 30));
        due(0, x.restore());
        due(2, x.count(0));
    }

    private static void p03SetCell() {
        Trial x = new Trial();
        due(FREE, x.setCell(39, CHARGER));
        due(CHARGER, x.setCell(39, WALL));
        due(WALL, x.setCell(39, WALL));
        due(WALL, x.setCell(39, FREE));
        due(FREE, x.setCell(0, FREE));
        x.addRobot(0, 100);
        x.addLift(20, 22);
        x.plan(0, 3);
        for (int c = 0; c < 4; c++) {
            int cell = c;
            refused(x, STATE, () -> x.setCell(cell, WALL));
        }
        due(FREE, x.setCell(2, CHARGER));
        due(CHARGER, x.setCell(2, FREE));
        refused(x, STATE, () -> x.setCell(20, WALL));
        refused(x, STATE, () -> x.setCell(22, WALL));
        due(FREE, x.setCell(20, CHARGER));
        refused(x, STATE, () -> x.setCell(20, WALL));
        refused(x, INDEX, () -> x.setCell(-1, 3));
        refused(x, INDEX, () -> x.setCell(40, WALL));
        refused(x, INDEX, () -> x.setCell(MIN, 0));
        refused(x, ARGUMENT, () -> x.setCell(0, 3));
        refused(x, ARGUMENT, () -> x.setCell(0, -1));
        x.advance(1);
        due(FREE, x.setCell(0, WALL));
        refused(x, STATE, () -> x.setCell(1, WALL));
        x.advance(2);
        due(FREE, x.setCell(1, WALL));
        refused(x, STATE, () -> x.setCell(3, WALL));
        Trial y = new Trial();
        y.addRobot(0, 100);
        y.addTask(1, 2, 29, 100);
        due(0, y.serve(0, 0));
        due(2, y.cellAfter(0, 30));
        due(1, y.cellAfter(0, 29));
        refused(y, STATE, () -> y.setCell(2, WALL));
    }

    private static void p04Cell() {
        Trial x = new Trial();
        x.setCell(7, CHARGER);
        x.setCell(8, WALL);
        due(CHARGER, x.cell(7));
        due(WALL, x.cell(8));
        due(FREE, x.cell(9));
        due(FREE, x.cell(39));
        refused(x, INDEX, () -> x.cell(-1));
        refused(x, INDEX, () -> x.cell(40));
        refused(x, INDEX, () -> x.cell(MAX));
    }

    private static void p05AddLift() {
        Trial x = new Trial();
        x.setCell(5, WALL);
        refused(x, INDEX, () -> x.addLift(-1, -1));
        refused(x, INDEX, () -> x.addLift(0, 40));
        refused(x, INDEX, () -> x.addLift(40, 0));
        refused(x, ARGUMENT, () -> x.addLift(3, 3));
        refused(x, ARGUMENT, () -> x.addLift(5, 3));
        refused(x, ARGUMENT, () -> x.addLift(3, 5));
        due(0, x.addLift(0, 39));
        due(1, x.count(1));
        refused(x, ARGUMENT, () -> x.addLift(0, 1));
        refused(x, ARGUMENT, () -> x.addLift(1, 0));
        refused(x, ARGUMENT, () -> x.addLift(39, 1));
        refused(x, ARGUMENT, () -> x.addLift(1, 39));
        x.addRobot(1, 100);
        due(1, x.addLift(1, 2));
        refused(x, STATE, () -> x.addLift(10, 11));
        refused(x, ARGUMENT, () -> x.addLift(10, 10));
        refused(x, ARGUMENT, () -> x.addLift(10, 2));
        due(2, x.count(1));
    }

    private static void p06AddRobot() {
        Trial x = new Trial();
        x.setCell(9, WALL);
        due(0, x.addRobot(0, 0));
        due(1, x.addRobot(39, 100));
        refused(x, INDEX, () -> x.addRobot(-1, 101));
        refused(x, INDEX, () -> x.addRobot(40, 50));
        refused(x, ARGUMENT, () -> x.addRobot(1, -1));
        refused(x, ARGUMENT, () -> x.addRobot(1, 101));
        refused(x, ARGUMENT, () -> x.addRobot(9, 50));
        refused(x, ARGUMENT, () -> x.addRobot(0, 101));
        refused(x, STATE, () -> x.addRobot(0, 50));
        x.plan(1, 37);
        refused(x, STATE, () -> x.addRobot(39, 50));
        refused(x, STATE, () -> x.addRobot(38, 50));
        refused(x, STATE, () -> x.addRobot(37, 50));
        x.advance(1);
        due(2, x.addRobot(39, 50));
        due("", rest(x, 2));
        due(50, x.robot(2, 1));
        due(-1, x.robot(2, 4));
        due(39, x.robot(2, 0));
        due(3, x.addRobot(2, 1));
        due(4, x.addRobot(3, 1));
        refused(x, STATE, () -> x.addRobot(4, 1));
        refused(x, ARGUMENT, () -> x.addRobot(9, 1));
    }

    private static void p07Robot() {
        Trial x = new Trial();
        x.addLift(1, 30);
        x.addLift(37, 5);
        x.addRobot(0, 80);
        x.addTask(39, 38, 0, 100);
        due(0, x.serve(0, 0));
        due("25234", rest(x, 0));
        due(0, x.robot(0, 0));
        due(80, x.robot(0, 1));
        due(7, x.robot(0, 2));
        due(6, x.robot(0, 3));
        due(0, x.robot(0, 4));
        due(-1, x.robot(0, 5));
        x.advance(2);
        due(-1, x.robot(0, 0));
        due(77, x.robot(0, 1));
        due(5, x.robot(0, 2));
        due(3, x.robot(0, 3));
        due(0, x.robot(0, 4));
        due(0, x.robot(0, 5));
        x.advance(1);
        due(-1, x.robot(0, 0));
        due(4, x.robot(0, 2));
        due(3, x.robot(0, 3));
        x.advance(1);
        due(30, x.robot(0, 0));
        due(-1, x.robot(0, 5));
        due(3, x.robot(0, 2));
        x.advance(3);
        due(38, x.robot(0, 0));
        due(0, x.robot(0, 2));
        due(0, x.robot(0, 3));
        due(-1, x.robot(0, 4));
        x.plan(0, 5);
        x.advance(2);
        due(1, x.robot(0, 5));
        due(-1, x.robot(0, 0));
        refused(x, INDEX, () -> x.robot(-1, 6));
        refused(x, INDEX, () -> x.robot(1, 0));
        refused(x, ARGUMENT, () -> x.robot(0, 6));
        refused(x, ARGUMENT, () -> x.robot(0, -1));
    }

    private static void p08Count() {
        Trial x = new Trial();
        x.addRobot(0, 1);
        x.addRobot(1, 1);
        x.addLift(2, 3);
        x.addTask(0, 1, 0, 0);
        x.addTask(0, 1, 0, 0);
        x.addTask(0, 1, 0, 0);
        walls(x, 10, 11, 12, 13);
        x.setCell(20, CHARGER);
        x.setCell(21, CHARGER);
        x.setCell(22, CHARGER);
        x.setCell(23, CHARGER);
        x.setCell(24, CHARGER);
        x.advance(6);
        due(2, x.count(0));
        due(1, x.count(1));
        due(3, x.count(2));
        due(4, x.count(3));
        due(5, x.count(4));
        due(6, x.count(5));
        x.setCell(10, CHARGER);
        due(3, x.count(3));
        due(6, x.count(4));
        refused(x, ARGUMENT, () -> x.count(-1));
        refused(x, ARGUMENT, () -> x.count(6));
    }

    private static void p09Region() {
        Trial x = corridor();
        due(8, x.region(0));
        due(8, x.region(7));
        due(24, x.region(16));
        due(0, x.region(8));
        x.addRobot(3, 100);
        due(8, x.region(0));
        x.addLift(7, 39);
        due(32, x.region(0));
        due(32, x.region(16));
        walls(x, 6);
        due(6, x.region(0));
        due(25, x.region(7));
        Trial y = new Trial();
        walls(y, 1, 8);
        due(1, y.region(0));
        due(37, y.region(9));
        refused(x, INDEX, () -> x.region(-1));
        refused(x, INDEX, () -> x.region(40));
    }

    private static void p10TicksBetween() {
        Trial x = new Trial();
        due(11, x.ticksBetween(0, 39));
        due(0, x.ticksBetween(17, 17));
        due(8, x.ticksBetween(7, 8));
        x.addLift(1, 38);
        due(5, x.ticksBetween(0, 39));
        due(5, x.ticksBetween(39, 0));
        due(3, x.ticksBetween(1, 38));
        due(2, x.ticksBetween(1, 3));
        x.addRobot(1, 100);
        due(5, x.ticksBetween(0, 39));
        Trial y = new Trial();
        y.addLift(20, 21);
        due(1, y.ticksBetween(20, 21));
        Trial snake = new Trial();
        walls(snake, 8, 9, 10, 11, 12, 13, 14, 25, 26, 27, 28, 29, 30, 31);
        due(25, snake.ticksBetween(0, 39));
        Trial z = corridor();
        refused(z, NO_ELEMENT, () -> z.ticksBetween(0, 16));
        refused(z, NO_ELEMENT, () -> z.ticksBetween(0, 8));
        refused(z, NO_ELEMENT, () -> z.ticksBetween(8, 0));
        refused(z, NO_ELEMENT, () -> z.ticksBetween(8, 8));
        refused(z, INDEX, () -> z.ticksBetween(-1, 8));
        refused(z, INDEX, () -> z.ticksBetween(8, 40));
    }

    private static void p11Plan() {
        Trial x = new Trial();
        x.addRobot(0, 100);
        due(2, x.plan(0, 9));
        due("23", rest(x, 0));
        due(11, x.plan(0, 39));
        due("22222223333", rest(x, 0));
        due(0, x.plan(0, 0));
        due("", rest(x, 0));
        // of two routes that end at once the cheaper one: the ride of 3 ticks costs 2
        x.addLift(0, 3);
        due(3, x.plan(0, 3));
        due("5", rest(x, 0));
        due(2, x.robot(0, 3));
        // a ride of 3 ticks loses against 2 moves
        x.addLift(16, 32);
        due(4, x.plan(0, 32));
        due("3333", rest(x, 0));
        refused(x, INDEX, () -> x.plan(0, 40));
        refused(x, INDEX, () -> x.plan(0, -1));
        refused(x, INDEX, () -> x.plan(1, 0));
        refused(x, INDEX, () -> x.plan(-1, 0));
        walls(x, 38);
        refused(x, NO_ELEMENT, () -> x.plan(0, 38));
        x.plan(0, 3);
        x.advance(1);
        refused(x, STATE, () -> x.plan(0, 38));
        refused(x, STATE, () -> x.plan(0, 3));
        refused(x, INDEX, () -> x.plan(0, 40));

        Trial weak = new Trial();
        weak.addRobot(0, 3);
        weak.setCell(1, CHARGER);
        due(3, weak.plan(0, 3));
        refused(weak, UNSUPPORTED, () -> weak.plan(0, 4));
        weak.addLift(0, 4);
        due(3, weak.plan(0, 4));

        Trial busy = new Trial();
        busy.addRobot(0, 100);
        busy.addRobot(2, 100);
        busy.addTask(9, 1, 0, 100);
        due(0, busy.serve(0, 0));
        due(1, busy.task(0, 0));
        due(0, busy.plan(0, 0));
        due(0, busy.task(0, 0));
        due(-1, busy.task(0, 2));
        due(-1, busy.robot(0, 4));
    }

    private static void p11Collisions() {
        // in a corridor, robots can't exchange their cells
        Trial x = corridor();
        x.addRobot(0, 100);
        x.addRobot(3, 100);
        refused(x, NO_ELEMENT, () -> x.plan(0, 7));
        due(4, x.plan(1, 7));
        due(6, x.plan(0, 6));
        due("222222", rest(x, 0));
        // robot 1 would have to pass robot 0, which comes to cell 6
        refused(x, NO_ELEMENT, () -> x.plan(1, 0));
        // not even where one of them could give way a tick later
        Trial y = corridor();
        y.setCell(10, FREE);
        walls(y, 18);
        y.addRobot(1, 100);
        y.addRobot(2, 100);
        due(1, y.plan(1, 10));
        due(1, y.plan(0, 2));
        refused(y, NO_ELEMENT, () -> y.plan(1, 1));
        // the goal must stay free until the horizon; of equal routes the one that waits first
        Trial z = corridor();
        z.setCell(10, FREE);
        walls(z, 18);
        z.addRobot(10, 100);
        z.addRobot(6, 100);
        due(6, z.plan(1, 0));
        due(5, z.plan(0, 2));
        due("00001", rest(z, 0));
        due(1, z.robot(0, 3));
        // a lift takes one robot at a time
        Trial lift = new Trial();
        for (int c = 4; c < 40; c += 8) {
            lift.setCell(c, WALL);
        }
        lift.addLift(3, 5);
        lift.addRobot(3, 100);
        lift.addRobot(2, 100);
        due(4, lift.plan(0, 6));
        due("52", rest(lift, 0));
        due(6, lift.plan(1, 5));
        due("0025", rest(lift, 1));
    }

    private static void p11Horizon() {
        // robot 1 leaves cell 2 when the clock is 24 or 25; then robot 0 needs 30 or 31 ticks
        for (int release = 24; release <= 25; release++) {
            Trial x = corridor();
            x.setCell(10, FREE);
            walls(x, 18);
            x.addRobot(0, 100);
            x.addRobot(2, 100);
            x.addTask(2, 10, release, 100);
            due(0, x.serve(0, 1));
            if (release == 24) {
                due(30, x.plan(0, 7));
                due("000000000000000000000002222222", rest(x, 0));
                due(7, x.cellAfter(0, 30));
                due(6, x.cellAfter(0, 29));
            } else {
                refused(x, NO_ELEMENT, () -> x.plan(0, 7));
                due(30, x.plan(0, 6));
            }
        }
    }

    /** Robot 0 could leave to a niche, robot 1 comes to its cell at once: it can't take robot 1's cell instead. */
    private static void p11Exchanges() {
        int[][] cells = {{8, 16, 9}, {16, 8, 17}, {19, 20, 27}, {20, 19, 28}};
        for (int[] c : cells) {
            Trial x = new Trial();
            for (int k = 0; k < 40; k++) {
                x.setCell(k, k == c[0] || k == c[1] || k == c[2] ? FREE : WALL);
            }
            x.addRobot(c[0], 100);
            x.addRobot(c[1], 100);
            due(1, x.plan(0, c[2]));
            due(1, x.plan(1, c[0]));
            refused(x, NO_ELEMENT, () -> x.plan(0, c[1]));
            due(2, x.blockers(0, c[1]));
        }
    }

    private static void p11Lifts() {
        // robot 1 is in lift 1 until 3, so robot 0 begins its ride then
        Trial x = new Trial();
        for (int c = 4; c < 40; c += 8) {
            x.setCell(c, WALL);
        }
        x.addLift(39, 35);
        x.addLift(0, 7);
        x.addRobot(8, 100);
        x.addRobot(0, 100);
        due(4, x.plan(1, 15));
        due("63", rest(x, 1));
        due(6, x.plan(0, 7));
        due("0016", rest(x, 0));
        x.advance(1);
        due(98, x.robot(1, 1));
        due(1, x.statistic(1, 1));
        due(1, x.robot(1, 5));
        // when robot 1 is in the lift already, the time until it leaves counts
        due(5, x.plan(0, 7));
        due("016", rest(x, 0));
        x.advance(1);
        due(4, x.plan(0, 7));
        due("16", rest(x, 0));
        // nobody may land where another robot is
        Trial y = new Trial();
        for (int c = 4; c < 40; c += 8) {
            y.setCell(c, WALL);
        }
        y.addLift(3, 5);
        y.addRobot(3, 100);
        y.addRobot(5, 100);
        refused(y, NO_ELEMENT, () -> y.plan(0, 6));
        due(2, y.blockers(0, 6));
        y.addTask(5, 6, 9, 100);
        due(0, y.serve(0, 1));
        due(11, y.plan(0, 13));
        due("000000053", rest(y, 0));
        // no ride ends after the horizon
        Trial z = new Trial();
        for (int c = 4; c < 40; c += 8) {
            z.setCell(c, WALL);
        }
        z.addLift(3, 5);
        z.addRobot(2, 100);
        for (int release = 25; release <= 28; release++) {
            z.addTask(3, 5, release, 100);
        }
        due(0, z.serve(0, 0));
        due(0, z.serve(1, 0));
        due(0, z.serve(2, 0));
        due(30, z.robot(0, 2));
        due(4, z.serve(3, 0));
    }

    private static void p11LaterRides() {
        // a ride may not begin either if the lift would still be in use when another robot begins its own
        Trial x = new Trial();
        for (int c = 4; c < 40; c += 8) {
            x.setCell(c, WALL);
        }
        x.addLift(3, 5);
        x.addRobot(5, 100);
        x.addRobot(1, 100);
        due(2, x.plan(0, 7));
        due(6, x.plan(1, 6));
        due("2252", rest(x, 1));
        due(9, x.plan(0, 3));
        due(4, x.robot(0, 3));
        // an end at which another robot begins its ride is not free before
        Trial y = new Trial();
        for (int c = 4; c < 40; c += 8) {
            y.setCell(c, WALL);
        }
        y.addLift(3, 5);
        y.addRobot(3, 100);
        y.addRobot(2, 100);
        due(1, y.plan(0, 11));
        due(5, y.plan(1, 6));
        due("252", rest(y, 1));
        due(7, y.plan(0, 5));
        due("30015", rest(y, 0));
    }

    private static void p11AtHorizon() {
        // robot 1 comes to the goal at the very end, so it is not free until the horizon
        Trial x = new Trial();
        x.addRobot(0, 100);
        x.addRobot(10, 100);
        x.addTask(11, 12, 29, 100);
        due(0, x.serve(0, 1));
        due(30, x.robot(1, 2));
        refused(x, NO_ELEMENT, () -> x.plan(0, 12));
        due(2, x.blockers(0, 12));
        due(3, x.plan(0, 3));
    }

    private static void p12Arrival() {
        Trial x = new Trial();
        x.addRobot(0, 1);
        x.addRobot(1, 100);
        String before = sight(x);
        due(11, x.arrival(0, 39));
        due(0, x.arrival(0, 0));
        due(before, sight(x));
        x.addLift(0, 38);
        due(4, x.arrival(0, 39));
        walls(x, 39);
        refused(x, NO_ELEMENT, () -> x.arrival(0, 39));
        refused(x, NO_ELEMENT, () -> x.arrival(0, 1));
        refused(x, INDEX, () -> x.arrival(2, 0));
        refused(x, INDEX, () -> x.arrival(0, 40));
        Trial y = corridor();
        y.addLift(3, 4);
        y.addLift(5, 20);
        y.addRobot(5, 9);
        y.plan(0, 20);
        y.advance(1);
        refused(y, STATE, () -> y.arrival(0, 8));
        refused(y, INDEX, () -> y.arrival(0, -1));
    }

    private static void p13RouteCost() {
        Trial x = new Trial();
        x.addRobot(0, 0);
        String before = sight(x);
        due(11, x.routeCost(0, 39));
        due(0, x.routeCost(0, 0));
        due(before, sight(x));
        x.addLift(1, 38);
        due(4, x.routeCost(0, 39));
        due(2, x.routeCost(0, 2));
        // waiting costs nothing
        Trial lift = new Trial();
        for (int c = 4; c < 40; c += 8) {
            lift.setCell(c, WALL);
        }
        lift.addLift(3, 5);
        lift.addRobot(3, 100);
        lift.addRobot(2, 0);
        lift.plan(0, 6);
        due(6, lift.arrival(1, 5));
        due(3, lift.routeCost(1, 5));
        lift.advance(1);
        refused(lift, STATE, () -> lift.routeCost(0, 4));
        refused(lift, INDEX, () -> lift.routeCost(0, 40));
        refused(lift, INDEX, () -> lift.routeCost(2, 0));
        refused(lift, NO_ELEMENT, () -> lift.routeCost(1, 4));
    }

    private static void p14Action() {
        Trial x = new Trial();
        x.addRobot(9, 100);
        x.addLift(0, 20);
        due(2, x.plan(0, 0));
        due("14", rest(x, 0));
        due(1, x.action(0, 0));
        due(4, x.action(0, 1));
        refused(x, NO_ELEMENT, () -> x.action(0, 2));
        refused(x, NO_ELEMENT, () -> x.action(0, -1));
        refused(x, NO_ELEMENT, () -> x.action(0, MAX));
        refused(x, NO_ELEMENT, () -> x.action(0, MIN));
        refused(x, INDEX, () -> x.action(1, 0));
        refused(x, INDEX, () -> x.action(-1, 9));
        x.advance(2);
        refused(x, NO_ELEMENT, () -> x.action(0, 0));
        x.plan(0, 28);
        due("53", rest(x, 0));
        x.advance(1);
        due("53", rest(x, 0));
        x.advance(1);
        due("53", rest(x, 0));
        x.advance(1);
        due("3", rest(x, 0));
        x.plan(0, 21);
        due("2", rest(x, 0));
        x.addTask(21, 20, 10, 100);
        due(0, x.serve(0, 0));
        due("200004", rest(x, 0));
    }

    private static void p15CellAfter() {
        Trial x = new Trial();
        x.addLift(20, 21);
        x.addLift(1, 39);
        x.addRobot(0, 100);
        x.plan(0, 39);
        int[] want = {0, 1, -2, -2, 39, 39};
        for (int t = 0; t < want.length; t++) {
            due(want[t], x.cellAfter(0, t));
        }
        due(39, x.cellAfter(0, 30));
        x.advance(2);
        due(-2, x.cellAfter(0, 0));
        due(-2, x.cellAfter(0, 1));
        due(39, x.cellAfter(0, 2));
        refused(x, INDEX, () -> x.cellAfter(1, 31));
        refused(x, INDEX, () -> x.cellAfter(-1, 0));
        refused(x, ARGUMENT, () -> x.cellAfter(0, 31));
        refused(x, ARGUMENT, () -> x.cellAfter(0, -1));
        Trial y = new Trial();
        walls(y, 1, 2, 10, 18, 26, 34);
        y.addLift(8, 11);
        y.addRobot(8, 100);
        y.plan(0, 11);
        due(-1, y.cellAfter(0, 1));
    }

    private static void p16RobotAt() {
        Trial x = new Trial();
        x.addLift(1, 39);
        x.addRobot(5, 100);
        x.addRobot(0, 100);
        x.plan(1, 39);
        due(1, x.robotAt(0, 0));
        due(-1, x.robotAt(0, 1));
        due(1, x.robotAt(1, 1));
        due(-1, x.robotAt(1, 2));
        due(-1, x.robotAt(39, 3));
        due(1, x.robotAt(39, 4));
        due(1, x.robotAt(39, 30));
        due(0, x.robotAt(5, 30));
        due(-1, x.robotAt(6, 0));
        refused(x, INDEX, () -> x.robotAt(-1, 31));
        refused(x, INDEX, () -> x.robotAt(40, 0));
        refused(x, ARGUMENT, () -> x.robotAt(0, 31));
        refused(x, ARGUMENT, () -> x.robotAt(0, -1));
    }

    private static void p17Cancel() {
        Trial x = new Trial();
        x.addLift(4, 36);
        x.addRobot(0, 100);
        due(0, x.cancel(0));
        x.plan(0, 3);
        x.advance(1);
        due(2, x.cancel(0));
        due("", rest(x, 0));
        due(1, x.cellAfter(0, 30));
        x.addTask(3, 36, 0, 100);
        due(0, x.serve(0, 0));
        due(6, x.cancel(0));
        due(0, x.task(0, 0));
        due(-1, x.task(0, 2));
        due(-1, x.robot(0, 4));
        due(0, x.serve(0, 0));
        x.advance(4);
        due(0, x.robot(0, 5));
        refused(x, STATE, () -> x.cancel(0));
        x.advance(1);
        refused(x, STATE, () -> x.cancel(0));
        refused(x, INDEX, () -> x.cancel(1));
        refused(x, INDEX, () -> x.cancel(-1));
        Trial y = corridor();
        y.addRobot(0, 100);
        y.addRobot(1, 100);
        y.addTask(3, 4, 0, 100);
        due(0, y.serve(0, 1));
        due(2, y.plan(0, 2));
        refused(y, UNSUPPORTED, () -> y.cancel(1));
        due(1, y.task(0, 0));
        due(2, y.cancel(0));
        due(3, y.cancel(1));
    }

    private static void p18Blockers() {
        Trial x = corridor();
        x.addRobot(0, 0);
        x.addRobot(4, 100);
        due(2, x.blockers(0, 7));
        due(0, x.blockers(0, 3));
        due(2, x.blockers(0, 4));
        due(0, x.blockers(0, 8));
        due(0, x.blockers(0, 39));
        x.addRobot(6, 100);
        due(0, x.blockers(0, 7));
        due(2, x.blockers(0, 5));
        due(4, x.blockers(1, 7));
        due(1, x.blockers(1, 0));
        due(2, x.blockers(2, 1));
        // either of two robots that only block together
        Trial y = new Trial();
        walls(y, 2, 10, 26, 34);
        y.addLift(8, 11);
        y.addRobot(0, 100);
        y.addRobot(18, 100);
        y.addRobot(8, 100);
        due(6, y.blockers(0, 7));
        due(0, y.blockers(1, 7));
        y.plan(2, 11);
        y.advance(1);
        due(0, y.blockers(2, 18));
        due(0, y.blockers(2, 11));
        refused(x, INDEX, () -> x.blockers(3, 0));
        refused(x, INDEX, () -> x.blockers(-1, 0));
        refused(x, INDEX, () -> x.blockers(0, 40));
    }

    private static void p18OwnCell() {
        // robot 1 comes to stay at the cell of robot 0, which has to leave for it
        Trial x = corridor();
        x.addRobot(1, 100);
        x.addRobot(5, 100);
        x.plan(0, 0);
        due(4, x.plan(1, 1));
        refused(x, NO_ELEMENT, () -> x.plan(0, 1));
        due(2, x.blockers(0, 1));
        due(0, x.blockers(0, 0));
    }

    private static void p19LowestRefuge() {
        Trial x = corridor();
        x.addRobot(7, 100);
        x.addRobot(4, 100);
        due(1, x.makeWay(0, 1));
        due(0, x.cellAfter(1, 30));
    }

    private static void p19MakeWay() {
        // a corridor with one niche below cell 2
        Trial x = corridor();
        x.setCell(10, FREE);
        walls(x, 18);
        x.addRobot(0, 100);
        x.addRobot(2, 100);
        x.addTask(1, 0, 0, 100);
        due(0, x.serve(0, 0));
        due(1, x.makeWay(0, 7));
        due("3", rest(x, 1));
        due(10, x.cellAfter(1, 30));
        due("2222222", rest(x, 0));
        due(0, x.task(0, 0));
        refused(x, STATE, () -> x.makeWay(0, 7));
        // the lowest cell that lets the robot through
        Trial y = corridor();
        y.addRobot(0, 100);
        y.addRobot(2, 100);
        due(1, y.makeWay(0, 5));
        due(6, y.cellAfter(1, 30));
        // the battery of the one that makes way
        Trial weak = corridor();
        weak.addRobot(0, 100);
        weak.addRobot(2, 3);
        refused(weak, NO_ELEMENT, () -> weak.makeWay(0, 5));
        due(1, weak.makeWay(0, 4));
        // the battery of the robot
        Trial poor = corridor();
        poor.addRobot(0, 4);
        poor.addRobot(2, 100);
        refused(poor, NO_ELEMENT, () -> poor.makeWay(0, 5));
        due(1, poor.makeWay(0, 4));
        // robots with unfinished plans don't make way
        Trial busy = corridor();
        busy.addRobot(0, 100);
        busy.addRobot(2, 100);
        busy.plan(1, 4);
        refused(busy, NO_ELEMENT, () -> busy.makeWay(0, 5));
        busy.advance(2);
        due(1, busy.makeWay(0, 5));
        // in a lift
        Trial lift = corridor();
        lift.addLift(0, 7);
        lift.addRobot(0, 100);
        lift.plan(0, 7);
        lift.advance(1);
        refused(lift, STATE, () -> lift.makeWay(0, 3));
        refused(lift, INDEX, () -> lift.makeWay(0, 40));
        refused(lift, INDEX, () -> lift.makeWay(1, 0));
        Trial alone = corridor();
        alone.addRobot(0, 2);
        refused(alone, NO_ELEMENT, () -> alone.makeWay(0, 39));
        refused(alone, NO_ELEMENT, () -> alone.makeWay(0, 3));
        refused(alone, STATE, () -> alone.makeWay(0, 2));
        // the first robot is tried first
        Trial two = new Trial();
        walls(two, 2, 10, 26, 34);
        two.addLift(8, 11);
        two.addRobot(18, 100);
        two.addRobot(8, 100);
        two.addRobot(0, 100);
        due(0, two.makeWay(2, 7));
        due(3, two.cellAfter(0, 30));
    }

    private static void p20PlanToCharger() {
        Trial x = new Trial();
        x.addRobot(0, 5);
        refused(x, NO_ELEMENT, () -> x.planToCharger(0));
        x.setCell(39, CHARGER);
        refused(x, NO_ELEMENT, () -> x.planToCharger(0));
        x.setCell(4, CHARGER);
        x.setCell(16, CHARGER);
        due(16, x.planToCharger(0));
        due("33", rest(x, 0));
        x.setCell(2, CHARGER);
        due(2, x.planToCharger(0));
        x.addRobot(3, 100);
        x.plan(1, 2 + 8);
        x.setCell(0, CHARGER);
        due(0, x.planToCharger(0));
        due("", rest(x, 0));
        // a charger that is soonest but too dear is passed over
        Trial lift = new Trial();
        lift.addRobot(0, 2);
        lift.setCell(3, CHARGER);
        lift.addLift(0, 36);
        lift.setCell(36, CHARGER);
        lift.addTask(8, 9, 0, 100);
        due(0, lift.serve(0, 0));
        due(36, lift.planToCharger(0));
        due(0, lift.task(0, 0));
        due("5", rest(lift, 0));
        lift.advance(1);
        refused(lift, STATE, () -> lift.planToCharger(0));
        refused(lift, INDEX, () -> lift.planToCharger(1));
        refused(lift, INDEX, () -> lift.planToCharger(-1));
        Trial dear = new Trial();
        dear.addRobot(0, 2);
        dear.setCell(3, CHARGER);
        dear.addLift(8, 38);
        dear.addLift(0, 39);
        dear.setCell(39, CHARGER);
        dear.setCell(1, CHARGER);
        due(1, dear.planToCharger(0));
    }

    private static void p21AddTask() {
        Trial x = new Trial();
        due(0, x.addTask(0, 39, 0, 1000));
        due(1, x.addTask(39, 0, 1000, 1000));
        due(2, x.addTask(1, 2, 0, 0));
        walls(x, 5);
        due(3, x.addTask(5, 6, 3, 4));
        due(0, x.task(3, 0));
        refused(x, INDEX, () -> x.addTask(-1, -1, 0, 1));
        refused(x, INDEX, () -> x.addTask(0, 40, 5, 1));
        refused(x, INDEX, () -> x.addTask(40, 0, 5, 1));
        refused(x, ARGUMENT, () -> x.addTask(3, 3, 0, 1));
        refused(x, ARGUMENT, () -> x.addTask(3, 4, -1, 1));
        refused(x, ARGUMENT, () -> x.addTask(3, 4, -2, -1));
        refused(x, ARGUMENT, () -> x.addTask(3, 4, 0, 1001));
        refused(x, ARGUMENT, () -> x.addTask(3, 4, 1001, 1001));
        refused(x, ARGUMENT, () -> x.addTask(3, 4, 1001, 1000));
        refused(x, ARGUMENT, () -> x.addTask(3, 4, 9, 8));
        refused(x, ARGUMENT, () -> x.addTask(3, 4, MAX, MIN));
        for (int k = 4; k < 12; k++) {
            due(k, x.addTask(k, k + 1, 0, 5));
        }
        refused(x, STATE, () -> x.addTask(3, 4, 0, 1));
        refused(x, ARGUMENT, () -> x.addTask(3, 3, 0, 1));
        due(12, x.count(2));
    }

    private static void p22Serve() {
        Trial x = new Trial();
        x.addRobot(0, 100);
        x.addTask(2, 10, 0, 100);
        x.addTask(1, 3, 6, 9);
        due(0, x.serve(0, 0));
        due("223", rest(x, 0));
        due(1, x.task(0, 0));
        due(0, x.task(0, 2));
        refused(x, STATE, () -> x.serve(0, 0));
        // another task: the first one is open again; the robot waits for the release time
        due(0, x.serve(1, 0));
        due(0, x.task(0, 0));
        due(1, x.task(1, 0));
        due(1, x.robot(0, 4));
        due("20000022", rest(x, 0));
        refused(x, INDEX, () -> x.serve(2, 0));
        refused(x, INDEX, () -> x.serve(1, 1));
        refused(x, INDEX, () -> x.serve(-1, 0));
        x.advance(8);
        due(2, x.task(1, 0));
        refused(x, STATE, () -> x.serve(1, 0));
        refused(x, INDEX, () -> x.serve(1, 1));
    }

    private static void p22Reasons() {
        // 1: in a lift
        Trial lift = new Trial();
        lift.addLift(0, 39);
        lift.addRobot(0, 2);
        lift.addTask(39, 30, 0, 1);
        lift.plan(0, 39);
        lift.advance(1);
        String plan = rest(lift, 0);
        due(1, lift.serve(0, 0));
        due(3, lift.task(0, 0));
        due(1, lift.task(0, 1));
        due(-1, lift.task(0, 2));
        due(plan, rest(lift, 0));
        // 2: no route to the first cell; 4: none to the second one
        Trial x = corridor();
        x.addRobot(0, 100);
        x.addTask(20, 1, 0, 1);
        x.addTask(1, 20, 0, 1);
        x.addTask(1, 2, 31, 31);
        x.addTask(1, 2, 30, 31);
        x.addTask(1, 2, 29, 29);
        x.addTask(1, 2, 29, 30);
        due(2, x.serve(0, 0));
        due(4, x.serve(1, 0));
        // 3: the release time is after the horizon; at the horizon nothing is left for the second route
        due(3, x.serve(2, 0));
        due(4, x.serve(3, 0));
        // 5: one tick too late, and just in time
        due(5, x.serve(4, 0));
        due(5, x.task(4, 1));
        due(0, x.serve(5, 0));
        due(30, x.robot(0, 2));
        x.advance(1);
        // a refused task can be served; its reason is 0 then
        due(0, x.serve(3, 0));
        due(0, x.task(3, 1));
        due(1, x.task(3, 0));
        due(0, x.task(5, 0));
    }

    private static void p22MoreReasons() {
        // 6: the plan costs more than the battery
        Trial weak = new Trial();
        weak.addRobot(0, 3);
        weak.addRobot(39, 100);
        weak.addTask(2, 4, 0, 100);
        weak.addTask(2, 3, 0, 100);
        due(6, weak.serve(0, 0));
        due(0, weak.serve(1, 0));
        // the first route need not be final: robot 1 passes the first cell later
        Trial pass = corridor();
        walls(pass, 16, 17, 18);
        pass.setCell(9, FREE);
        pass.addRobot(0, 100);
        pass.addRobot(5, 100);
        pass.addTask(1, 9, 0, 100);
        pass.addTask(1, 9, 4, 100);
        due(0, pass.serve(0, 0));
        due(5, pass.plan(1, 0));
        due("23", rest(pass, 0));
        // waiting at cell 1 until 4 would meet robot 1 there
        due(3, pass.serve(1, 0));
        due(3, pass.task(1, 1));
        due("23", rest(pass, 0));
        due(0, pass.robot(0, 4));
        // the second route must be final
        Trial last = corridor();
        last.setCell(9, FREE);
        walls(last, 17);
        last.addRobot(9, 100);
        last.addRobot(2, 100);
        last.addTask(1, 0, 0, 100);
        due(2, last.plan(1, 0));
        due(4, last.serve(0, 0));
    }

    private static void p23BestRobot() {
        Trial x = new Trial();
        x.addRobot(0, 100);
        x.addRobot(4, 100);
        x.addRobot(12, 100);
        x.addTask(10, 3, 0, 100);
        x.addTask(7, 6, 0, 4);
        x.addTask(39, 38, 0, 3);
        String before = sight(x);
        due(2, x.bestRobot(0));
        due(1, x.bestRobot(1));
        due(before, sight(x));
        refused(x, NO_ELEMENT, () -> x.bestRobot(2));
        due(0, x.task(2, 0));
        // the lowest number of several
        x.addTask(2, 20, 20, 100);
        due(0, x.bestRobot(3));
        // robots that are not idle are asked too, refused tasks as well
        x.plan(2, 39);
        due(2, x.bestRobot(0));
        due(2, x.serve(2, 0));
        refused(x, NO_ELEMENT, () -> x.bestRobot(2));
        due(5, x.serve(1, 0));
        due(1, x.bestRobot(1));
        due(5, x.task(1, 1));
        due(0, x.serve(0, 2));
        refused(x, STATE, () -> x.bestRobot(0));
        x.advance(30);
        due(2, x.task(0, 0));
        refused(x, STATE, () -> x.bestRobot(0));
        refused(x, INDEX, () -> x.bestRobot(4));
        refused(x, INDEX, () -> x.bestRobot(-1));
        Trial none = new Trial();
        none.addTask(0, 1, 0, 100);
        refused(none, NO_ELEMENT, () -> none.bestRobot(0));
    }

    private static void p24Task() {
        Trial x = new Trial();
        x.addRobot(30, 100);
        x.addRobot(0, 100);
        x.addTask(1, 2, 3, 40);
        int[] open = {0, 0, -1, -1, 1, 2, 3, 40};
        int[] served = {1, 0, 1, -1, 1, 2, 3, 40};
        int[] done = {2, 0, 1, 4, 1, 2, 3, 40};
        for (int k = 0; k < 8; k++) {
            due(open[k], x.task(0, k));
        }
        due(0, x.serve(0, 1));
        for (int k = 0; k < 8; k++) {
            due(served[k], x.task(0, k));
        }
        x.advance(9);
        for (int k = 0; k < 8; k++) {
            due(done[k], x.task(0, k));
        }
        x.addTask(4, 5, 0, 3);
        due(5, x.serve(1, 0));
        due(3, x.task(1, 0));
        due(5, x.task(1, 1));
        due(-1, x.task(1, 2));
        refused(x, INDEX, () -> x.task(2, 8));
        refused(x, INDEX, () -> x.task(-1, 0));
        refused(x, ARGUMENT, () -> x.task(0, 8));
        refused(x, ARGUMENT, () -> x.task(0, -1));
    }

    private static void p25AssignAll() {
        Trial x = new Trial();
        due(0, x.assignAll());
        x.addRobot(0, 100);
        x.addRobot(7, 100);
        x.addTask(1, 2, 0, 90);
        x.addTask(6, 5, 0, 80);
        x.addTask(8, 9, 0, 80);
        x.addTask(39, 38, 0, 1);
        due(2, x.assignAll());
        // task 1 and then task 2 have the earliest deadlines but for task 3, which nobody can reach
        due(1, x.task(1, 2));
        due(0, x.task(2, 2));
        due(0, x.task(0, 0));
        due(0, x.task(3, 0));
        due(0, x.task(3, 1));
        due(0, x.assignAll());
        x.advance(9);
        due(1, x.assignAll());
        due(1, x.task(0, 0));
        // refused tasks are not tried, busy robots are not asked
        Trial y = new Trial();
        y.addRobot(0, 100);
        y.addRobot(1, 100);
        y.addTask(20, 21, 0, 2);
        y.addTask(10, 11, 0, 100);
        due(5, y.serve(0, 0));
        y.plan(1, 2);
        due(1, y.assignAll());
        due(0, y.task(1, 2));
        due(3, y.task(0, 0));
        due(1, y.robot(1, 2));
        // the lowest number of several robots that finish at once
        Trial z = new Trial();
        z.addRobot(10, 100);
        z.addRobot(8, 100);
        z.addTask(9, 17, 0, 100);
        due(1, z.assignAll());
        due(0, z.task(0, 2));
    }

    private static void p25EqualDeadlines() {
        Trial x = new Trial();
        x.addRobot(0, 100);
        x.addTask(1, 2, 0, 51);
        x.addTask(1, 2, 0, 50);
        x.addTask(1, 2, 0, 50);
        due(1, x.assignAll());
        due(1, x.task(1, 0));
        due(2, x.tasksIn(0));
        x.advance(2);
        due(1, x.assignAll());
        due(1, x.task(2, 0));
    }

    private static void p26TasksIn() {
        Trial x = new Trial();
        x.addRobot(0, 100);
        x.addRobot(39, 100);
        for (int k = 0; k < 6; k++) {
            x.addTask(1, 2, 0, k == 5 ? 0 : 100);
        }
        due(6, x.tasksIn(0));
        x.serve(0, 0);
        x.advance(2);
        x.serve(1, 0);
        x.serve(5, 0);
        due(3, x.tasksIn(0));
        due(1, x.tasksIn(1));
        due(1, x.tasksIn(2));
        due(1, x.tasksIn(3));
        refused(x, ARGUMENT, () -> x.tasksIn(-1));
        refused(x, ARGUMENT, () -> x.tasksIn(4));
    }

    private static void p27Advance() {
        Trial x = new Trial();
        x.setCell(0, CHARGER);
        x.addLift(2, 30);
        x.addRobot(0, 93);
        x.addRobot(5, 0);
        due(0, x.advance(1));
        due(98, x.robot(0, 1));
        due(0, x.robot(1, 1));
        x.advance(1);
        due(100, x.robot(0, 1));
        x.advance(1);
        due(100, x.robot(0, 1));
        due(7, x.statistic(0, 4));
        x.plan(0, 31);
        due("2252", rest(x, 0));
        int[] cell = {1, 2, -1, -1, 30, 31};
        int[] battery = {99, 98, 96, 96, 96, 95};
        for (int t = 0; t < 6; t++) {
            x.advance(1);
            due(cell[t], x.robot(0, 0));
            due(battery[t], x.robot(0, 1));
        }
        due(9, x.count(5));
        x.addTask(31, 39, 0, 100);
        x.addTask(5, 6, 0, 100);
        x.serve(0, 0);
        due(1, x.advance(30));
        due(10, x.task(0, 3));
        due(-1, x.robot(0, 4));
        due(39, x.count(5));
        refused(x, ARGUMENT, () -> x.advance(0));
        refused(x, ARGUMENT, () -> x.advance(31));
        refused(x, ARGUMENT, () -> x.advance(MAX));
        refused(x, ARGUMENT, () -> x.advance(-1));
        for (int k = 0; k < 32; k++) {
            x.advance(30);
        }
        due(999, x.count(5));
        refused(x, STATE, () -> x.advance(2));
        refused(x, ARGUMENT, () -> x.advance(31));
        due(0, x.advance(1));
        refused(x, STATE, () -> x.advance(1));
        // waiting for the release time at a charger gains too; two tasks may be done in one call
        Trial y = new Trial();
        y.setCell(1, CHARGER);
        y.addRobot(0, 50);
        y.addRobot(39, 50);
        y.addTask(1, 2, 4, 100);
        y.addTask(38, 37, 0, 100);
        due(2, y.assignAll());
        due(2, y.advance(5));
        due(50 - 2 + 15, y.robot(0, 1));
    }

    private static void p28Statistic() {
        Trial x = new Trial();
        x.setCell(30, CHARGER);
        x.addLift(1, 30);
        x.advance(2);
        x.addRobot(0, 50);
        x.addTask(30, 31, 10, 100);
        for (int k = 0; k < 5; k++) {
            due(0, x.statistic(0, k));
        }
        due(0, x.serve(0, 0));
        due("2500002", rest(x, 0));
        x.advance(2);
        due(1, x.statistic(0, 0));
        due(1, x.statistic(0, 1));
        due(0, x.statistic(0, 2));
        x.advance(8);
        due(2, x.statistic(0, 0));
        due(1, x.statistic(0, 1));
        due(5, x.statistic(0, 2));
        due(1, x.statistic(0, 3));
        due(20, x.statistic(0, 4));
        refused(x, INDEX, () -> x.statistic(1, 9));
        refused(x, INDEX, () -> x.statistic(-1, 0));
        refused(x, ARGUMENT, () -> x.statistic(0, 5));
        refused(x, ARGUMENT, () -> x.statistic(0, -1));
    }

    private static void p29Activity() {
        Trial x = new Trial();
        x.addLift(1, 30);
        x.advance(2);
        x.addRobot(0, 50);
        refused(x, ARITHMETIC, () -> x.activity(0));
        x.advance(1);
        due(0.0f, x.activity(0));
        x.plan(0, 30);
        x.advance(2);
        due(2.0f / 3.0f, x.activity(0));
        x.advance(2);
        due(4.0f / 5.0f, x.activity(0));
        x.advance(2);
        due(4.0f / 7.0f, x.activity(0));
        refused(x, INDEX, () -> x.activity(1));
        refused(x, INDEX, () -> x.activity(-1));
    }

    private static void p30ActivityBits() {
        Trial x = new Trial();
        x.addRobot(0, 100);
        refused(x, ARITHMETIC, () -> x.activityBits(0));
        refused(x, INDEX, () -> x.activityBits(1));
        x.advance(1);
        due(0, x.activityBits(0));
        x.plan(0, 3);
        for (int k = 0; k < 150; k++) {
            x.advance(1);
            due(Float.floatToIntBits(x.activity(0)), x.activityBits(0));
        }
        Trial y = new Trial();
        y.addRobot(0, 100);
        y.plan(0, 3);
        y.advance(3);
        due(0x3F800000, y.activityBits(0));
        for (int k = 0; k < 33; k++) {
            y.advance(30);
            due(Float.floatToIntBits(y.activity(0)), y.activityBits(0));
        }
    }

    private static void p31AverageDelay() {
        Trial x = new Trial();
        refused(x, ARITHMETIC, x::averageDelay);
        x.addRobot(0, 100);
        x.advance(5);
        x.addTask(1, 2, 0, 100);
        refused(x, ARITHMETIC, x::averageDelay);
        x.serve(0, 0);
        x.advance(4);
        due(2.0, x.averageDelay());
        x.addTask(3, 4, 20, 100);
        x.serve(1, 0);
        x.advance(12);
        due(1.5, x.averageDelay());
        x.addTask(5, 6, 0, 100);
        x.addTask(7, 8, 0, 1);
        x.serve(2, 0);
        x.serve(3, 0);
        due(1.5, x.averageDelay());
        x.advance(3);
        due(5.0 / 3.0, x.averageDelay());
    }

    private static void p32Visits() {
        Trial x = new Trial();
        x.addLift(1, 39);
        x.addRobot(0, 100);
        x.plan(0, 39);
        due(0, x.visits(0));
        x.save();
        x.cancel(0);
        x.advance(2);
        due(2, x.visits(0));
        x.restore();
        x.advance(1);
        due(0, x.visits(0));
        due(1, x.visits(1));
        x.advance(2);
        due(1, x.visits(1));
        due(0, x.visits(39));
        x.advance(3);
        due(3, x.visits(39));
        x.addRobot(1, 100);
        x.advance(2);
        due(5, x.visits(39));
        due(3, x.visits(1));
        refused(x, INDEX, () -> x.visits(-1));
        refused(x, INDEX, () -> x.visits(40));
    }

    private static void p33BusiestCell() {
        Trial x = new Trial();
        due(0, x.busiestCell());
        x.addRobot(39, 100);
        x.addRobot(7, 100);
        due(0, x.busiestCell());
        x.advance(3);
        due(7, x.busiestCell());
        x.plan(1, 6);
        x.advance(1);
        due(39, x.busiestCell());
        Trial y = new Trial();
        y.addRobot(1, 100);
        y.advance(1);
        due(1, y.busiestCell());
    }

    private static void p34Sample() {
        Trial x = new Trial();
        x.addRobot(0, 100);
        x.addRobot(9, 50);
        due(1, x.sample(0, 2, 0));
        due(2, x.sample(0, 0, 1));
        due(2, x.sample(0, 0, 0));
        due(3, x.sample(0, 1, 1));
        due(1, x.sample(1, 1, 1));
        x.plan(0, 3);
        refused(x, UNSUPPORTED, () -> x.sample(0, 0, 0));
        due(2, x.sample(1, 2, 0));
        x.advance(3);
        due(3, x.sample(0, 0, 0));
        due(3, x.sampled(0, 0, 1));
        refused(x, INDEX, () -> x.sample(2, 0, 0));
        refused(x, INDEX, () -> x.sample(-1, 0, 0));
        refused(x, INDEX, () -> x.sample(0, 3, 0));
        refused(x, INDEX, () -> x.sample(0, -1, 0));
        refused(x, INDEX, () -> x.sample(0, 0, 2));
        refused(x, INDEX, () -> x.sample(0, 0, -1));
    }

    private static void p35Sampled() {
        Trial x = new Trial();
        x.addLift(9, 39);
        x.addRobot(0, 100);
        x.addRobot(9, 50);
        x.plan(1, 39);
        x.advance(2);
        x.sample(1, 2, 1);
        int[] riding = {1, -1, 48, 2};
        for (int k = 0; k < 4; k++) {
            due(riding[k], x.sampled(1, 2, k));
        }
        x.advance(5);
        x.sample(0, 2, 1);
        int[] there = {1, 39, 48, 7};
        for (int k = 0; k < 4; k++) {
            due(riding[k], x.sampled(1, 2, k));
            due(there[k], x.sampled(0, 2, k));
        }
        x.sample(1, 2, 0);
        due(0, x.sampled(1, 2, 0));
        due(100, x.sampled(1, 2, 2));
        refused(x, NO_ELEMENT, () -> x.sampled(1, 1, 0));
        refused(x, NO_ELEMENT, () -> x.sampled(0, 1, 3));
        refused(x, ARGUMENT, () -> x.sampled(1, 1, 4));
        refused(x, ARGUMENT, () -> x.sampled(1, 1, -1));
        refused(x, INDEX, () -> x.sampled(2, 0, 4));
        refused(x, INDEX, () -> x.sampled(-1, 0, 0));
        refused(x, INDEX, () -> x.sampled(0, 3, 0));
        refused(x, INDEX, () -> x.sampled(0, -1, 0));
    }

    private static void p36Append() {
        Trial x = new Trial();
        due(1, x.append(' '));
        due(2, x.append('~'));
        dueThrow(ARGUMENT, () -> x.append((char) 31));
        dueThrow(ARGUMENT, () -> x.append((char) 127));
        dueThrow(ARGUMENT, () -> x.append((char) 65535));
        due(3, x.append(';'));
        for (int k = 4; k <= 40; k++) {
            due(k, x.append('w'));
        }
        dueThrow(STATE, () -> x.append('w'));
        dueThrow(ARGUMENT, () -> x.append((char) 0));
        dueThrow(ARGUMENT, x::read);
        due(1, x.append('w'));
    }

    private static void p37Read() {
        Trial x = new Trial();
        type(x, "w9;c3;l0-39;r5;f8;");
        due(5, x.read());
        due(WALL, x.cell(9));
        due(CHARGER, x.cell(3));
        due(1, x.count(1));
        due(5, x.robot(0, 0));
        due(100, x.robot(0, 1));
        due(1, x.append('f'));
        type(x, "09;");
        due(1, x.read());
        due(FREE, x.cell(9));
        // later entries see what earlier ones did; nothing stands if one of them can't be done
        type(x, "w20;r20;");
        refused(x, STATE, x::read);
        due(1, x.append('r'));
        type(x, "20;w20;");
        refused(x, STATE, x::read);
        type(x, "w21;w5;");
        refused(x, STATE, x::read);
        type(x, "w21;l5-5;");
        refused(x, STATE, x::read);
        type(x, "w22;f22;r22;");
        due(3, x.read());
        due(2, x.count(0));
        type(x, "w7;");
        x.save();
        due(1, x.read());
        // an empty input is no text, nor is one that ends without a semicolon
        refused(x, ARGUMENT, x::read);
        type(x, "w1;w2");
        refused(x, ARGUMENT, x::read);
        type(x, "w40;");
        refused(x, ARGUMENT, x::read);
        refused(x, ARGUMENT, x::read);
        // as many entries as there can be
        Trial y = new Trial();
        type(y, "w0;w1;w2;w3;w4;w5;w6;w7;w8;w9;f0;f1;f2;");
        due(13, y.read());
        due(7, y.count(3));
    }

    private static void p38ErrorPosition() {
        Trial x = new Trial();
        dueThrow(NO_ELEMENT, x::errorPosition);
        type(x, "w1;");
        x.read();
        dueThrow(NO_ELEMENT, x::errorPosition);
        String[] texts = {"", "x", " ", ";", "w", "w;", "wx", "w1", "w1x", "w12", "w123", "w40", "w39", "w4;", "w00",
            "w000", "w05;x", "w1;;", "w1;w1;w", "l", "l1", "l1;", "l1-", "l1--", "l1-;", "l1-2", "l1-2-", "l40-1",
            "l1-40", "l39-39", "l-", "r-1;", "c1-2;", "W1;", "w1 ;", "w9;c3 ", "l01-02", "l1-2;l3", "f39;f4x",
            "w1;w1;w1;w1;w1;w1;w1;w1;w1;w1;w1;w1;w1;w", "w1;w1;w1;w1;w1;w1;w1;w1;w1;w1;w1;w1;w1;x",
            "w01;w01;w01;w01;w01;w01;w01;w01;w01;w01"};
        int[] positions = {0, 0, 0, 0, 1, 1, 1, 2, 2, 3, 3, 2, 3, -1, 3, 3, 4, 3, 7, 1, 2, 2, 3, 3, 3, 4, 4, 2,
            4, 6, 1, 1, 2, 0, 2, 5, 6, 7, 6, 40, 39, 39};
        for (int k = 0; k < texts.length; k++) {
            type(x, texts[k]);
            if (positions[k] < 0) {
                due(1, x.read());
            } else {
                dueThrow(ARGUMENT, x::read);
                due(positions[k], x.errorPosition());
            }
        }
        // texts that can be read, and entries that can't be done, leave it
        type(x, "w12");
        dueThrow(ARGUMENT, x::read);
        type(x, "w30;");
        due(1, x.read());
        due(3, x.errorPosition());
        type(x, "r30;");
        dueThrow(STATE, x::read);
        due(3, x.errorPosition());
    }

    private static Trial busyFloor() {
        Trial x = new Trial();
        x.setCell(9, WALL);
        x.setCell(5, CHARGER);
        x.addLift(1, 30);
        x.addRobot(0, 50);
        x.addRobot(20, 60);
        x.addTask(30, 31, 10, 100);
        x.addTask(1, 2, 0, 1);
        x.serve(0, 0);
        x.serve(1, 1);
        x.plan(1, 23);
        x.sample(1, 0, 1);
        x.advance(2);
        return x;
    }

    private static void p39Save() {
        Trial x = busyFloor();
        due(2, x.save());
        String before = sight(x);
        due(before, sight(x));
        x.advance(5);
        due(7, x.save());
        String later = sight(x);
        x.clear();
        due(7, x.restore());
        due(later, sight(x));
        due(0, new Trial().save());
    }

    private static void p40OtherFloor() {
        // what stood between saving and restoring leaves nothing behind
        Trial x = new Trial();
        walls(x, 0, 39);
        x.addLift(1, 30);
        x.addLift(38, 2);
        x.advance(3);
        x.addRobot(8, 77);
        x.addTask(1, 30, 1, 90);
        due(0, x.serve(0, 0));
        x.advance(1);
        x.save();
        String before = sight(x);
        x.clear();
        x.addLift(5, 6);
        x.addRobot(7, 1);
        x.addRobot(8, 1);
        x.addTask(6, 7, 8, 9);
        x.advance(9);
        x.restore();
        due(before, sight(x));
        due(38, x.region(1));
        due(3, x.ticksBetween(30, 1));
        due(3, x.ticksBetween(2, 38));
        due(2, x.count(3));
        refused(x, ARGUMENT, () -> x.addLift(30, 5));
        refused(x, ARGUMENT, () -> x.addLift(5, 2));
        refused(x, STATE, () -> x.addLift(5, 6));
        due("15", rest(x, 0));
        due(4, x.arrival(0, 30));
        due(1, x.advance(5));
        due(5.0f / 6.0f, x.activity(0));
        due(5.0, x.averageDelay());
    }

    private static void p40Restore() {
        Trial x = busyFloor();
        refused(x, STATE, x::restore);
        x.save();
        String before = sight(x);
        x.advance(30);
        x.setCell(9, FREE);
        x.addLift(3, 4);
        x.addRobot(39, 1);
        x.addTask(5, 6, 7, 8);
        x.plan(0, 12);
        due(2, x.restore());
        due(before, sight(x));
        // what is done afterwards does not touch what was saved
        x.advance(20);
        x.clear();
        x.addRobot(4, 4);
        due(2, x.restore());
        due(before, sight(x));
        due(1, x.advance(9));
        due(1.0, x.averageDelay());
        // the shelves, the input and the error position stay
        Trial y = new Trial();
        y.addRobot(0, 10);
        y.save();
        y.advance(3);
        y.sample(0, 0, 0);
        type(y, "w1");
        dueThrow(ARGUMENT, y::read);
        type(y, "w1;");
        due(0, y.restore());
        due(3, y.sampled(0, 0, 3));
        due(2, y.errorPosition());
        due(1, y.read());
        due(0, y.visits(0));
        due(1, y.count(3));
        due(0, y.restore());
        due(0, y.count(3));
    }

    public static void main(String[] args) throws Exception {
        runTests(PromiseTest.class);
    }
}
