import java.util.ArrayList;
import java.util.List;
import java.util.function.Supplier;

/**
 * An AisleScheduler of which a test may ask more than the 512 calls after which the document leaves its answers
 * free. The calls go to an object of the program; before that one would be used once more than 512 times, a new
 * object makes all calls of the test again, those that were refused too, and takes its place. Calls that only look
 * at it are not made again, so that a test may look at all of it as often as it likes.
 */
final class Trial {
    private static final int MOST_CALLS = 512;

    private final List<Call> history = new ArrayList<>();
    private AisleScheduler object = new AisleScheduler();
    private int calls;
    private boolean isLooking;

    private interface Call {
        double on(AisleScheduler x);
    }

    /** Makes calls that only ask. */
    <T> T look(Supplier<T> questions) {
        boolean wasLooking = isLooking;
        isLooking = true;
        try {
            return questions.get();
        } finally {
            isLooking = wasLooking;
        }
    }

    /** How many calls a new object would have to make again. */
    int callsMade() {
        return history.size();
    }

    private double ask(Call call) {
        if (history.size() >= MOST_CALLS) {
            throw new Error("this test makes more than " + MOST_CALLS + " calls");
        }
        if (calls >= MOST_CALLS) {
            renew();
        }
        if (!isLooking) {
            history.add(call);
        }
        calls++;
        return call.on(object);
    }

    private void renew() {
        object = new AisleScheduler();
        calls = history.size();
        for (Call call : history) {
            try {
                call.on(object);
            } catch (RuntimeException e) {
                // it was refused before, too
            }
        }
    }

    private int number(Call call) {
        return (int) ask(call);
    }

    int clear() {
        return number(x -> x.clear());
    }

    int setCell(int cell, int kind) {
        return number(x -> x.setCell(cell, kind));
    }

    int cell(int cell) {
        return number(x -> x.cell(cell));
    }

    int addLift(int one, int other) {
        return number(x -> x.addLift(one, other));
    }

    int addRobot(int cell, int battery) {
        return number(x -> x.addRobot(cell, battery));
    }

    int robot(int robot, int what) {
        return number(x -> x.robot(robot, what));
    }

    int count(int what) {
        return number(x -> x.count(what));
    }

    int region(int cell) {
        return number(x -> x.region(cell));
    }

    int ticksBetween(int from, int to) {
        return number(x -> x.ticksBetween(from, to));
    }

    int plan(int robot, int cell) {
        return number(x -> x.plan(robot, cell));
    }

    int arrival(int robot, int cell) {
        return number(x -> x.arrival(robot, cell));
    }

    int routeCost(int robot, int cell) {
        return number(x -> x.routeCost(robot, cell));
    }

    int action(int robot, int index) {
        return number(x -> x.action(robot, index));
    }

    int cellAfter(int robot, int ticks) {
        return number(x -> x.cellAfter(robot, ticks));
    }

    int robotAt(int cell, int ticks) {
        return number(x -> x.robotAt(cell, ticks));
    }

    int cancel(int robot) {
        return number(x -> x.cancel(robot));
    }

    int blockers(int robot, int cell) {
        return number(x -> x.blockers(robot, cell));
    }

    int makeWay(int robot, int cell) {
        return number(x -> x.makeWay(robot, cell));
    }

    int planToCharger(int robot) {
        return number(x -> x.planToCharger(robot));
    }

    int addTask(int from, int to, int release, int deadline) {
        return number(x -> x.addTask(from, to, release, deadline));
    }

    int serve(int task, int robot) {
        return number(x -> x.serve(task, robot));
    }

    int bestRobot(int task) {
        return number(x -> x.bestRobot(task));
    }

    int task(int task, int what) {
        return number(x -> x.task(task, what));
    }

    int assignAll() {
        return number(x -> x.assignAll());
    }

    int tasksIn(int state) {
        return number(x -> x.tasksIn(state));
    }

    int advance(int ticks) {
        return number(x -> x.advance(ticks));
    }

    int statistic(int robot, int what) {
        return number(x -> x.statistic(robot, what));
    }

    float activity(int robot) {
        return (float) ask(x -> x.activity(robot));
    }

    int activityBits(int robot) {
        return number(x -> x.activityBits(robot));
    }

    double averageDelay() {
        return ask(x -> x.averageDelay());
    }

    int visits(int cell) {
        return number(x -> x.visits(cell));
    }

    int busiestCell() {
        return number(x -> x.busiestCell());
    }

    int sample(int shelf, int place, int robot) {
        return number(x -> x.sample(shelf, place, robot));
    }

    int sampled(int shelf, int place, int what) {
        return number(x -> x.sampled(shelf, place, what));
    }

    int append(char character) {
        return number(x -> x.append(character));
    }

    int read() {
        return number(x -> x.read());
    }

    int errorPosition() {
        return number(x -> x.errorPosition());
    }

    int save() {
        return number(x -> x.save());
    }

    int restore() {
        return number(x -> x.restore());
    }
}
