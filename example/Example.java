import java.util.NoSuchElementException;

final class Example {
    public static void main(String[] args) {
        AisleScheduler floor = new AisleScheduler();
        floor.setCell(9, 1);                                // cell 9 becomes a wall
        floor.setCell(38, 2);                               // cell 38 becomes a charger
        floor.addLift(1, 30);                               // lift 0 is between cells 1 and 30
        int robot = floor.addRobot(0, 50);                  // robot 0 is at cell 0, with battery 50
        System.out.println(floor.region(0));                // 39: cells that can be reached from cell 0
        System.out.println(floor.plan(robot, 31));          // 5: ticks that the plan takes
        System.out.println(floor.action(robot, 1));         // 5: after a move, it rides lift 0
        System.out.println(floor.cellAfter(robot, 2));      // -1: then it is in lift 0

        int task = floor.addTask(30, 31, 6, 20);            // from cell 30 to 31, release time 6, deadline 20
        System.out.println(floor.serve(task, robot));       // 0: it is served, by another plan
        System.out.println(floor.robot(robot, 2));          // 7: ticks until this plan is finished
        System.out.println(floor.advance(7));               // 1: tasks that were done meanwhile
        System.out.println(floor.task(task, 3));            // 7: the time at which it was done
        System.out.println(floor.robot(robot, 1));          // 46: the battery, after two moves and a ride
        System.out.println(floor.averageDelay());           // 1.0: ticks from the release time

        int late = floor.addTask(0, 8, 7, 9);               // release time 7, deadline 9
        System.out.println(floor.serve(late, robot));       // 5: it is refused, as the plan would end later
        System.out.println(floor.planToCharger(robot));     // 38: the charger to which it goes
        floor.advance(20);
        System.out.println(floor.robot(robot, 1));          // 100: the battery is full
        try {
            floor.plan(robot, 9);
        } catch (NoSuchElementException e) {
            System.out.println("no route");                 // no route: cell 9 is a wall
        }

        floor.save();
        for (char character : "w2;r3;r5;".toCharArray()) {
            floor.append(character);
        }
        System.out.println(floor.read());                   // 3: entries, a wall and two robots
        System.out.println(floor.count(0));                 // 3: robots
        System.out.println(floor.restore());                // 27: the clock
        System.out.println(floor.count(0));                 // 1: robot, as saved
    }
}
