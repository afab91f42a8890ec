import java.util.ArrayList;
import java.util.List;

/** The boundary cases of texts and exceptions, and of promises 34 to 40. */
public final class BoundaryTextTest extends Checks {
    private static final String NUMBER = "(?:[0-3][0-9]|[0-9])";
    private static final String TEXT = "(?:(?:[wcfr]" + NUMBER + "|l" + NUMBER + "-" + NUMBER + ");)+";
    private static final String[] ENDINGS = {"", ";", "0;", "-0;", "0-0;", "w0;"};

    /** A floor on which much is going on; robot 0 rides, robot 1 has a plan, robot 2 is idle. */
    private static Trial busy() {
        Trial x = liftFloor();
        x.setCell(16, CHARGER);
        x.addRobot(3, 100);
        x.addRobot(24, 60);
        x.addRobot(39, 0);
        x.addTask(3, 6, 0, 100);
        x.addTask(25, 26, 9, 100);
        x.addTask(1, 2, 0, 0);
        x.addTask(24, 25, 0, 100);
        x.serve(3, 1);
        x.advance(1);
        x.serve(0, 0);
        x.serve(1, 1);
        x.serve(2, 1);
        x.sample(0, 2, 2);
        x.sample(1, 0, 1);
        x.advance(1);
        return x;
    }

    private static void dueRead(int entries, String text) {
        Trial x = new Trial();
        type(x, text);
        due(entries, x.read());
    }

    private static void dueError(int position, String text) {
        Trial x = new Trial();
        type(x, text);
        refused(x, ARGUMENT, x::read);
        due(position, x.errorPosition());
    }

    private static boolean isStartOfAText(String start) {
        for (String ending : ENDINGS) {
            if ((start + ending).matches(TEXT)) {
                return true;
            }
        }
        return false;
    }

    /** The error position as the document says it, or -1 for a text. */
    private static int errorOf(String text) {
        if (text.matches(TEXT)) {
            return -1;
        }
        for (int k = 0; k < text.length(); k++) {
            if (!isStartOfAText(text.substring(0, k + 1))) {
                return k;
            }
        }
        return text.length();
    }

    // ---- Description: Text

    @Sentence("The input is a buffer of at most 40 characters.")
    private static void p00TextBufferOfForty() {
        Trial x = new Trial();
        for (int round = 0; round < 3; round++) {
            for (int length = 1; length <= 40; length++) {
                due(length, x.append('w'));
            }
            dueThrow(STATE, () -> x.append('w'));
            dueThrow(STATE, () -> x.append(';'));
            dueThrow(ARGUMENT, x::read);
        }
        due(1, x.append('w'));
    }

    @Sentence("A text consists of one or several entries, each followed by a semicolon")
    private static void p00TextEntries() {
        dueError(0, "");
        dueError(0, ";");
        dueError(2, "w1");
        dueRead(1, "w1;");
        dueError(3, "w1;;");
        dueError(4, "w1;w");
        dueError(5, "w1;w2");
        dueRead(2, "w1;w2;");
        // as many entries, and as long ones, as an input can have
        dueRead(13, "w0;w1;w2;w3;w4;w5;w6;w7;w8;w9;c0;f1;r1;");
        dueRead(10, "w00;w01;w02;w03;w04;w05;w06;w07;w08;w39;");
        dueError(40, "w0;w1;w2;w3;w4;w5;w6;w7;w8;w9;c0;f1;r1;w");
        dueError(39, "w0;w1;w2;w3;w4;w5;w6;w7;w8;w9;c0;f1;r1;;");
    }

    @Sentence("w or c or f and a cell with 1 or 2 digits, 0 to 39, makes the cell a wall, a charger or free")
    private static void p00TextCells() {
        for (int c = 0; c < 100; c++) {
            String[] numbers = {String.valueOf(c), (c < 10 ? "0" : "") + c};
            for (String number : numbers) {
                if (c >= 40) {
                    dueError(2, "w" + number + ";");
                } else {
                    Trial x = new Trial();
                    int[] kinds = {WALL, CHARGER, FREE};
                    for (int k = 0; k < 3; k++) {
                        type(x, "wcf".charAt(k) + number + ";");
                        due(1, x.read());
                        due(kinds[k], x.cell(c));
                        due(kinds[k] == WALL ? 1 : 0, x.count(3));
                        due(kinds[k] == CHARGER ? 1 : 0, x.count(4));
                    }
                }
            }
        }
        dueError(1, "w;");
        dueError(3, "w000;");
        dueError(3, "w399;");
        dueError(1, "w-1;");
        dueError(0, "W1;");
        dueError(0, "x1;");
    }

    @Sentence("l and a cell, a minus sign and a cell adds a lift")
    private static void p00TextLifts() {
        String[] texts = {"l0-39;", "l00-39;", "l39-0;", "l39-00;"};
        for (String text : texts) {
            Trial x = new Trial();
            type(x, text);
            due(1, x.read());
            due(1, x.count(1));
            due(3, x.ticksBetween(0, 39));
        }
        dueError(2, "l40-0;");
        dueError(4, "l0-40;");
        dueError(2, "l0;");
        dueError(3, "l0-;");
        dueError(1, "l-0;");
        dueError(3, "l0--1;");
        dueError(4, "l0-1-2;");
        dueError(3, "l000-1;");
        dueError(5, "l0-000;");
        dueError(2, "w0-1;");
    }

    @Sentence("r and a cell adds a robot with battery 100.")
    private static void p00TextRobots() {
        Trial x = new Trial();
        type(x, "r0;r39;r01;r9;r10;");
        due(5, x.read());
        int[] cells = {0, 39, 1, 9, 10};
        for (int r = 0; r < 5; r++) {
            due(cells[r], x.robot(r, 0));
            due(100, x.robot(r, 1));
            due("", rest(x, r));
        }
        dueError(2, "r40;");
    }

    @Sentence("A second digit of a number is read if it follows, also after 0.")
    private static void p00TextSecondDigit() {
        Trial x = new Trial();
        type(x, "w07;w3;w30;w00;");
        due(4, x.read());
        for (int c = 0; c < 40; c++) {
            due(c == 7 || c == 3 || c == 30 || c == 0 ? WALL : FREE, x.cell(c));
        }
        dueError(2, "w4");
        dueError(3, "w39");
        dueError(2, "w40");
        dueError(3, "w00");
        dueError(3, "w000");
        dueError(2, "w99;");
        dueError(2, "w1 ;");
    }

    @Sentence("The error position of a text that is not like this is the smallest index k such that no text of "
        + "this kind starts with the first k + 1 characters of it; if there is no such index, it is the length of the text.")
    private static void p00TextErrorPositions() {
        // all inputs of up to 4 of these characters, at the beginning and behind an entry
        String signs = "wlr03489-;";
        List<String> texts = new ArrayList<>();
        texts.add("");
        for (int k = 0; k < texts.size(); k++) {
            String text = texts.get(k);
            for (String whole : new String[] {text, "f0;" + text, "l5-" + text}) {
                int error = errorOf(whole);
                Trial x = new Trial();
                type(x, whole);
                if (error >= 0) {
                    dueThrow(ARGUMENT, x::read);
                    due(error, x.errorPosition());
                } else {
                    try {
                        x.read();
                    } catch (IllegalStateException e) {
                        due(true, whole.startsWith("l5-"));
                    }
                    dueThrow(NO_ELEMENT, x::errorPosition);
                }
            }
            for (int n = 0; n < signs.length() && text.length() < 4; n++) {
                texts.add(text + signs.charAt(n));
            }
        }
    }

    @Sentence("if there is no such index, it is the length of the text.")
    private static void p00TextErrorPositionIsTheLength() {
        String whole = "w00;c01;f02;r03;l04-05;w06;l7-08;w09;w1;";
        due(40, whole.length());
        for (int length = 0; length <= 40; length++) {
            String text = whole.substring(0, length);
            if (text.endsWith(";")) {
                Trial x = new Trial();
                type(x, text);
                due(text.split(";").length, x.read());
            } else {
                dueError(length, text);
            }
            if (length < 40) {
                dueError(length, text + "x");
            }
        }
        dueError(40, "w00;c01;f02;r03;l04-05;w06;l7-08;w09;w10");
        dueError(39, "w00;c01;f02;r03;l04-05;w06;l7-08;w09;w1x");
        dueError(39, "w00;c01;f02;r03;l04-05;w06;l7-08;w09;w40");
    }

    // ---- Description: Exceptions

    @Sentence("A method that throws an exception leaves the state unchanged, unless its documentation says otherwise.")
    private static void p00ExceptionsChangeNothing() {
        Trial x = busy();
        type(x, "x");
        dueThrow(ARGUMENT, x::read);
        x.save();
        x.advance(1);
        type(x, "w21;");
        String before = sight(x);
        dueThrow(STATE, () -> x.setCell(25, WALL));
        dueThrow(STATE, () -> x.setCell(39, WALL));
        dueThrow(ARGUMENT, () -> x.addLift(3, 7));
        dueThrow(STATE, () -> x.addRobot(25, 1));
        dueThrow(INDEX, () -> x.plan(0, 40));
        dueThrow(STATE, () -> x.plan(0, 3));
        dueThrow(NO_ELEMENT, () -> x.plan(1, 39));
        dueThrow(UNSUPPORTED, () -> x.plan(2, 38));
        dueThrow(STATE, () -> x.cancel(0));
        dueThrow(STATE, () -> x.makeWay(1, 2));
        dueThrow(NO_ELEMENT, () -> x.makeWay(1, 39));
        dueThrow(NO_ELEMENT, () -> x.planToCharger(2));
        dueThrow(ARGUMENT, () -> x.addTask(1, 1, 0, 1));
        dueThrow(STATE, () -> x.serve(0, 2));
        dueThrow(STATE, () -> x.serve(3, 2));
        dueThrow(NO_ELEMENT, () -> x.bestRobot(2));
        dueThrow(ARGUMENT, () -> x.advance(31));
        dueThrow(UNSUPPORTED, () -> x.sample(0, 2, 1));
        dueThrow(INDEX, () -> x.sample(0, 3, 2));
        dueThrow(ARGUMENT, () -> x.append((char) 127));
        due(before, sight(x));
        due(0, x.errorPosition());
        due(1, x.read());
        due(WALL, x.cell(21));
        due(2, x.restore());
        due(FREE, x.cell(21));
    }

    @Sentence("If several exceptions apply, the one that is documented first is thrown.")
    private static void p00ExceptionsOrder() {
        Trial x = busy();
        x.addLift(13, 14);
        x.addRobot(0, 1);
        x.addRobot(8, 1);
        for (int t = 4; t < 12; t++) {
            x.addTask(1, 2, 0, 100);
        }
        pass(x, 29);
        x.plan(0, 3);
        x.advance(2);
        due(0, x.robot(0, 5));
        // robot 0 is in lift 0 now; there are 5 robots, 2 lifts, 12 tasks
        refused(x, INDEX, () -> x.setCell(40, 3));
        refused(x, ARGUMENT, () -> x.setCell(0, 3));
        refused(x, INDEX, () -> x.addLift(4, 40));
        refused(x, ARGUMENT, () -> x.addLift(4, 0));
        refused(x, INDEX, () -> x.addRobot(-1, -1));
        refused(x, ARGUMENT, () -> x.addRobot(0, -1));
        refused(x, ARGUMENT, () -> x.addRobot(4, 0));
        refused(x, INDEX, () -> x.robot(5, 6));
        refused(x, INDEX, () -> x.ticksBetween(4, -1));
        refused(x, INDEX, () -> x.plan(0, 40));
        refused(x, STATE, () -> x.plan(0, 4));
        refused(x, NO_ELEMENT, () -> x.plan(3, 4));
        refused(x, INDEX, () -> x.arrival(0, 40));
        refused(x, STATE, () -> x.arrival(0, 4));
        refused(x, INDEX, () -> x.routeCost(0, 40));
        refused(x, STATE, () -> x.routeCost(0, 4));
        refused(x, INDEX, () -> x.action(5, -1));
        refused(x, INDEX, () -> x.cellAfter(5, 31));
        refused(x, INDEX, () -> x.robotAt(40, 31));
        refused(x, INDEX, () -> x.makeWay(0, 40));
        refused(x, STATE, () -> x.makeWay(0, 4));
        x.setCell(16, FREE);
        refused(x, STATE, () -> x.planToCharger(0));
        refused(x, INDEX, () -> x.addTask(40, 40, 2, 1));
        refused(x, ARGUMENT, () -> x.addTask(0, 0, 0, 0));
        refused(x, INDEX, () -> x.serve(0, 5));
        refused(x, STATE, () -> x.bestRobot(0));
        refused(x, INDEX, () -> x.task(12, 8));
        refused(x, INDEX, () -> x.statistic(5, 5));
        refused(x, INDEX, () -> x.sample(0, 3, 0));
        refused(x, INDEX, () -> x.sampled(0, 3, 4));
        refused(x, ARGUMENT, () -> x.sampled(0, 0, 4));
        pass(x, 1000 - x.count(5));
        refused(x, ARGUMENT, () -> x.advance(31));
        type(x, "w00;w01;w02;w03;w04;w05;w06;w07;w08;w09;");
        refused(x, ARGUMENT, () -> x.append((char) 31));
        refused(x, STATE, x::read);
        type(x, "w00;x");
        refused(x, ARGUMENT, x::read);
    }

    @Sentence("Sets of robots are bit masks, bit k for robot k.")
    private static void p00ExceptionsSetsAreMasks() {
        for (int robot = 0; robot < 5; robot++) {
            Trial x = corridor();
            for (int r = 0; r < 5; r++) {
                x.addRobot(r == robot ? 3 : r == (robot + 1) % 5 ? 0 : 30 + r, 100);
            }
            due(1 << robot, x.blockers((robot + 1) % 5, 7));
        }
    }

    @Sentence("Methods whose documentation does not mention a change only answer a question.")
    private static void p00ExceptionsQuestionsChangeNothing() {
        Trial x = busy();
        type(x, "w");
        dueThrow(ARGUMENT, x::read);
        type(x, "w21;");
        Call[] questions = {() -> x.cell(4), () -> x.robot(0, 5), () -> x.count(5), () -> x.region(0),
            () -> x.ticksBetween(0, 39), () -> x.arrival(1, 0), () -> x.routeCost(1, 0), () -> x.action(1, 0),
            () -> x.cellAfter(1, 30), () -> x.robotAt(39, 30), () -> x.blockers(1, 39), () -> x.bestRobot(4),
            () -> x.task(3, 3), () -> x.tasksIn(1), () -> x.statistic(1, 0), () -> x.activity(1),
            () -> x.activityBits(1),
            () -> x.averageDelay(), () -> x.visits(39), () -> x.busiestCell(), () -> x.sampled(0, 2, 0),
            () -> x.errorPosition()};
        Object[] answers = {WALL, 0, 2, 35, 12, 4, 4, 0, 26, 2, 4, 1, 1, 2, 1, 0.5f, 0x3F000000, 1.0, 2, 25, 2, 1};
        x.addTask(24, 16, 0, 100);
        String before = sight(x);
        for (int round = 0; round < 2; round++) {
            for (int k = 0; k < questions.length; k++) {
                due(answers[k], questions[k].make());
            }
            due(before, sight(x));
        }
        due(1, x.read());
        due(WALL, x.cell(21));
    }

    // ---- Promise 34

    @Sentence("Puts a copy of a robot as it is now into a place of a shelf, in place of what it held.")
    private static void p34CopiesAsItIsNow() {
        Trial x = new Trial();
        x.addRobot(0, 100);
        x.addRobot(39, 0);
        due(1, x.sample(0, 0, 0));
        x.plan(0, 3);
        x.advance(3);
        int[] first = {0, 0, 100, 0};
        int[] later = {0, 3, 97, 3};
        int[] other = {1, 39, 0, 3};
        for (int k = 0; k < 4; k++) {
            due(first[k], x.sampled(0, 0, k));
        }
        due(1, x.sample(0, 0, 0));
        for (int k = 0; k < 4; k++) {
            due(later[k], x.sampled(0, 0, k));
        }
        due(1, x.sample(0, 0, 1));
        for (int k = 0; k < 4; k++) {
            due(other[k], x.sampled(0, 0, k));
        }
        due(3, x.robot(0, 0));
    }

    @Sentence("There are 2 shelves with 3 places each, numbered from 0, which are empty at first.")
    private static void p34TwoShelvesWithThreePlaces() {
        Trial x = new Trial();
        for (int slot = 0; slot < 6; slot++) {
            x.advance(1);
            if (slot < 5) {
                x.addRobot(slot, 20 * slot);
            }
            for (int k = 0; k < 6; k++) {
                int shelf = k / 3;
                int place = k % 3;
                if (k < slot) {
                    due(k + 1, x.sampled(shelf, place, 3));
                } else {
                    dueThrow(NO_ELEMENT, () -> x.sampled(shelf, place, 0));
                }
            }
            due(slot % 3 + 1, x.sample(slot / 3, slot % 3, Math.min(slot, 4)));
        }
        for (int slot = 0; slot < 6; slot++) {
            int robot = Math.min(slot, 4);
            int[] want = {robot, robot, 20 * robot, slot + 1};
            for (int k = 0; k < 4; k++) {
                due(want[k], x.sampled(slot / 3, slot % 3, k));
            }
        }
    }

    @Sentence({"Shelf 0 only holds idle robots.",
        "Throws `UnsupportedOperationException` if the shelf does not hold this robot"})
    private static void p34IdleRobots() {
        Trial x = liftFloor();
        x.addRobot(3, 100);
        due(1, x.sample(0, 1, 0));
        x.plan(0, 6);
        for (int t = 0; t < 4; t++) {
            refused(x, UNSUPPORTED, () -> x.sample(0, 1, 0));
            refused(x, UNSUPPORTED, () -> x.sample(0, 2, 0));
            due(1, x.sample(1, 1, 0));
            due(t == 0 ? 3 : t == 3 ? 5 : -1, x.sampled(1, 1, 1));
            x.advance(1);
        }
        due(2, x.sample(0, 2, 0));
        due(3, x.sampled(0, 1, 1));
        due(6, x.sampled(0, 2, 1));
        // what it holds stays, also when the robot is not idle any more
        x.plan(0, 7);
        due(6, x.sampled(0, 2, 1));
        // a plan without actions leaves a robot idle, a cancelled plan too
        x.cancel(0);
        due(2, x.sample(0, 1, 0));
        x.plan(0, 6);
        due(3, x.sample(0, 0, 0));
    }

    @Sentence({"`shelf`: the number of the shelf", "`place`: the number of the place",
        "`robot`: the number of the robot"})
    private static void p34Ranges() {
        Trial x = new Trial();
        for (int r = 0; r < 5; r++) {
            x.addRobot(r, r);
        }
        due(1, x.sample(0, 0, 0));
        due(1, x.sample(1, 2, 4));
        due(4, x.sampled(1, 2, 0));
        due(2, x.sample(0, 2, 4));
        due(4, x.sampled(0, 2, 0));
    }

    @Sentence("Returns the number of places of the shelf that are not empty then.")
    private static void p34Returns() {
        Trial x = new Trial();
        x.addRobot(0, 100);
        for (int shelf = 1; shelf >= 0; shelf--) {
            due(1, x.sample(shelf, 2, 0));
            due(1, x.sample(shelf, 2, 0));
            due(2, x.sample(shelf, 0, 0));
            due(2, x.sample(shelf, 2, 0));
            due(3, x.sample(shelf, 1, 0));
            due(3, x.sample(shelf, 0, 0));
        }
    }

    @Sentence("Throws `IndexOutOfBoundsException` if there is no such shelf, place or robot")
    private static void p34NoSuchShelfPlaceOrRobot() {
        Trial none = new Trial();
        refusedEach(none, INDEX, outside(0, -1), r -> none.sample(1, 0, r));
        Trial x = busy();
        refusedEach(x, INDEX, outside(0, 1), n -> x.sample(n, 0, 2));
        refusedEach(x, INDEX, outside(0, 2), n -> x.sample(0, n, 2));
        refusedEach(x, INDEX, outside(0, 2), n -> x.sample(1, n, 2));
        refusedEach(x, INDEX, outside(0, 2), n -> x.sample(1, 0, n));
        // robot 1 is not idle
        refusedEach(x, INDEX, outside(0, 2), n -> x.sample(0, n, 1));
        refusedEach(x, INDEX, outside(0, 1), n -> x.sample(n, 0, 1));
    }

    // ---- Promise 35

    @Sentence({"`shelf`: the number of the shelf", "`place`: the number of the place",
        "Throws `IndexOutOfBoundsException` if there is no such shelf or place"})
    private static void p35NoSuchShelfOrPlace() {
        Trial none = new Trial();
        refusedEach(none, INDEX, outside(0, 1), n -> none.sampled(n, 0, 0));
        refusedEach(none, INDEX, outside(0, 2), n -> none.sampled(0, n, 0));
        refusedEach(none, INDEX, outside(0, 2), n -> none.sampled(1, n, 4));
        refusedEach(none, INDEX, outside(0, 1), n -> none.sampled(n, 2, -1));
        Trial x = busy();
        due(2, x.sampled(0, 2, 0));
        due(1, x.sampled(1, 0, 0));
        refusedEach(x, INDEX, outside(0, 1), n -> x.sampled(n, 0, 0));
        refusedEach(x, INDEX, outside(0, 2), n -> x.sampled(0, n, 0));
        refusedEach(x, INDEX, outside(0, 2), n -> x.sampled(1, n, 0));
    }

    @Sentence("`what`: 0 for the number of the robot, 1 for its cell or -1, 2 for its battery, "
        + "3 for the clock at which the copy was made")
    private static void p35Numbers() {
        Trial x = new Trial();
        x.addLift(0, 1);
        x.addLift(39, 5);
        for (int r = 0; r < 4; r++) {
            x.addRobot(2 + r * 8, 50);
        }
        x.addRobot(39, 0);
        x.addTask(39, 38, 0, 0);
        x.sample(1, 0, 4);
        int[] first = {4, 39, 0, 0};
        for (int k = 0; k <= 3; k++) {
            due(first[k], x.sampled(1, 0, k));
        }
        // a robot in a lift, whatever the number of the lift
        Trial y = new Trial();
        y.addLift(0, 1);
        y.addLift(39, 5);
        y.addRobot(39, 100);
        y.plan(0, 5);
        for (int t = 0; t <= 3; t++) {
            y.sample(1, 2, 0);
            int[] want = {0, t == 0 ? 39 : t == 3 ? 5 : -1, t == 0 ? 100 : 98, t};
            for (int k = 0; k <= 3; k++) {
                due(want[k], y.sampled(1, 2, k));
            }
            y.advance(1);
        }
        pass(y, 996);
        due(1, y.sample(0, 0, 0));
        due(1000, y.sampled(0, 0, 3));
        due(3, y.sampled(1, 2, 3));
    }

    @Sentence("Throws `IllegalArgumentException` if what is not 0 to 3")
    private static void p35WhatRange() {
        Trial x = busy();
        refusedEach(x, ARGUMENT, outside(0, 3), k -> x.sampled(0, 2, k));
        refusedEach(x, ARGUMENT, outside(0, 3), k -> x.sampled(1, 0, k));
        // the place is empty
        refusedEach(x, ARGUMENT, outside(0, 3), k -> x.sampled(0, 0, k));
        refusedEach(x, INDEX, outside(0, 3), k -> x.sampled(2, 0, k));
        refusedEach(x, INDEX, outside(0, 3), k -> x.sampled(0, 3, k));
    }

    @Sentence("Throws `NoSuchElementException` if the place is empty")
    private static void p35EmptyPlace() {
        Trial x = new Trial();
        x.addRobot(0, 100);
        x.sample(0, 1, 0);
        for (int slot = 0; slot < 6; slot++) {
            int s = slot;
            if (slot != 1) {
                refusedEach(x, NO_ELEMENT, new int[] {0, 1, 2, 3}, k -> x.sampled(s / 3, s % 3, k));
            }
        }
        x.clear();
        due(0, x.sampled(0, 1, 0));
    }

    // ---- Promise 36

    @Sentence({"Appends a character to the input.", "Returns the new length of the input."})
    private static void p36Appends() {
        Trial x = new Trial();
        String text = "w00;w01;w02;w03;w04;w05;w06;w07;w08;w09;";
        for (int k = 0; k < 40; k++) {
            due(k + 1, x.append(text.charAt(k)));
        }
        due(10, x.read());
        due(1, x.append('w'));
        x.clear();
        due(2, x.append('0'));
        x.save();
        x.restore();
        due(3, x.append('0'));
        due(4, x.append(';'));
        due(1, x.read());
    }

    @Sentence("`character`: the character, with a code from 32 to 126")
    private static void p36Codes() {
        for (int code = 32; code <= 126; code++) {
            Trial x = new Trial();
            due(1, x.append((char) code));
            dueThrow(ARGUMENT, x::read);
            boolean isLetter = "wcfrl".indexOf((char) code) >= 0;
            due(isLetter ? 1 : 0, x.errorPosition());
        }
    }

    @Sentence("Throws `IllegalArgumentException` if the character code is out of range")
    private static void p36CodeOutOfRange() {
        String full = "w00;w01;w02;w03;w04;w05;w06;w07;w08;w09;";
        for (String text : new String[] {"", "w0;", full}) {
            for (int block = 0; block < 256; block++) {
                Trial x = new Trial();
                type(x, text);
                for (int code = 256 * block; code < 256 * block + 256; code++) {
                    char c = (char) code;
                    if (code < 32 || code > 126) {
                        dueThrow(ARGUMENT, () -> x.append(c));
                    }
                }
                if (text.isEmpty()) {
                    due(1, x.append('w'));
                } else {
                    due(text.split(";").length, x.read());
                }
            }
        }
    }

    @Sentence("Throws `IllegalStateException` if the input has 40 characters")
    private static void p36FortyCharacters() {
        Trial x = new Trial();
        type(x, "w00;w01;w02;w03;w04;w05;w06;w07;w08;w09");
        due(40, x.append(';'));
        dueThrow(STATE, () -> x.append(';'));
        dueThrow(STATE, () -> x.append(' '));
        dueThrow(STATE, () -> x.append('~'));
        due(10, x.read());
        due(10, x.count(3));
    }

    // ---- Promise 37

    @Sentence("Does what the text in the input tells, entry by entry, or nothing of it.")
    private static void p37EntryByEntry() {
        // later entries see what earlier ones did
        Trial x = new Trial();
        type(x, "w5;f5;r5;l5-6;c5;");
        due(5, x.read());
        due(CHARGER, x.cell(5));
        due(5, x.robot(0, 0));
        due(1, x.count(1));
        // an entry that can't be done undoes the others, first or last
        String[] texts = {"w7;c8;l9-10;r11;r5;", "r5;w7;c8;l9-10;r11;", "w7;c8;r5;l9-10;r11;", "w7;r7;", "r7;w7;",
            "l1-2;w1;"};
        for (String text : texts) {
            type(x, text);
            refused(x, STATE, x::read);
        }
        // nor is anything done of what is no text
        type(x, "w7;c8;l9-10;r11;x");
        refused(x, ARGUMENT, x::read);
        type(x, "w7;c8;l9-10;r11");
        refused(x, ARGUMENT, x::read);
    }

    @Sentence("The input is empty afterwards, whatever happens.")
    private static void p37InputIsEmptyAfterwards() {
        Trial x = new Trial();
        type(x, "r0;");
        due(1, x.read());
        due(1, x.append('r'));
        type(x, "0;");
        dueThrow(STATE, x::read);
        due(1, x.append('r'));
        dueThrow(ARGUMENT, x::read);
        due(1, x.append('r'));
        type(x, "1;");
        due(1, x.read());
        dueThrow(ARGUMENT, x::read);
        due(0, x.errorPosition());
        due(1, x.append('x'));
    }

    @Sentence("Returns the number of entries.")
    private static void p37Returns() {
        for (int entries = 1; entries <= 13; entries++) {
            Trial x = new Trial();
            for (int k = 0; k < entries; k++) {
                type(x, "c0;");
            }
            due(entries, x.read());
            due(1, x.count(4));
        }
    }

    @Sentence("Throws `IllegalArgumentException` if the input is not a text of this kind; "
        + "the error position is then kept for errorPosition")
    private static void p37NoText() {
        Trial x = new Trial();
        refused(x, ARGUMENT, x::read);
        due(0, x.errorPosition());
        x.addRobot(5, 100);
        // an entry that can't be done comes first, but the input is no text at all
        type(x, "w5;w6");
        refused(x, ARGUMENT, x::read);
        due(5, x.errorPosition());
        type(x, "w0;w1;w2;w3;w4;w6;w7;w8;w9;c0;f1;r1;c9;w");
        refused(x, ARGUMENT, x::read);
        due(40, x.errorPosition());
        type(x, "w0;w1;w2;w3;w4;w6;w7;w8;w9;c0;f1;r1;c9; ");
        refused(x, ARGUMENT, x::read);
        due(39, x.errorPosition());
    }

    @Sentence("Throws `IllegalStateException` if setCell, addLift or addRobot would throw an exception for one "
        + "of the entries")
    private static void p37EntryCannotBeDone() {
        Trial x = new Trial();
        walls(x, 20);
        x.addLift(0, 39);
        x.addRobot(10, 100);
        x.plan(0, 11);
        String[] texts = {"w10;", "w11;", "w0;", "w39;", "l5-5;", "l20-5;", "l5-20;", "l0-5;", "l5-0;", "l39-5;",
            "l5-39;",
            "l5-6;l7-8;", "r20;", "r10;", "r11;", "r1;r2;r3;r4;r5;", "r1;r1;"};
        for (String text : texts) {
            type(x, text);
            refused(x, STATE, x::read);
        }
        dueThrow(NO_ELEMENT, x::errorPosition);
        type(x, "l5-6;r1;r2;r3;r4;w12;c10;f11;");
        due(8, x.read());
        type(x, "r5;");
        refused(x, STATE, x::read);
        type(x, "l7-8;");
        refused(x, STATE, x::read);
    }

    // ---- Promise 38

    @Sentence("Returns the error position that was kept last.")
    private static void p38KeptLast() {
        Trial x = new Trial();
        type(x, "w39");
        dueThrow(ARGUMENT, x::read);
        due(3, x.errorPosition());
        due(3, x.errorPosition());
        // what is read and what can't be done does not change it
        type(x, "w39;");
        due(1, x.read());
        due(3, x.errorPosition());
        type(x, "r39;");
        dueThrow(STATE, x::read);
        due(3, x.errorPosition());
        x.clear();
        due(3, x.errorPosition());
        x.save();
        x.restore();
        due(3, x.errorPosition());
        type(x, "w0;w1;w2;w3;w4;w6;w7;w8;w9;c0;f1;r1;c9;w");
        dueThrow(ARGUMENT, x::read);
        due(40, x.errorPosition());
        dueThrow(ARGUMENT, x::read);
        due(0, x.errorPosition());
    }

    @Sentence("Throws `NoSuchElementException` if none was kept")
    private static void p38NoneKept() {
        Trial x = new Trial();
        refused(x, NO_ELEMENT, x::errorPosition);
        type(x, "r0;");
        due(1, x.read());
        type(x, "r0;");
        dueThrow(STATE, x::read);
        x.clear();
        type(x, "w");
        refused(x, NO_ELEMENT, x::errorPosition);
        dueThrow(ARGUMENT, x::read);
        due(1, x.errorPosition());
    }

    // ---- Promise 39

    @Sentence("Saves everything except the shelves, the input, the error position and what was saved before, "
        + "which is replaced.")
    private static void p39SavesEverythingElse() {
        Trial x = busy();
        x.save();
        String first = sight(x);
        x.advance(30);
        x.addLift(1, 2);
        x.setCell(7, WALL);
        x.addRobot(0, 50);
        x.addTask(0, 39, 3, 4);
        String second = sight(x);
        due(32, x.save());
        due(second, sight(x));
        x.clear();
        due(32, x.restore());
        due(second, sight(x));
        due(false, first.equals(second));
        // the shelves, the input and the error position are not saved
        Trial y = new Trial();
        y.addRobot(39, 100);
        y.sample(0, 0, 0);
        type(y, "w1");
        dueThrow(ARGUMENT, y::read);
        type(y, "w1;");
        y.save();
        due(1, y.read());
        y.advance(1);
        y.sample(0, 0, 0);
        y.sample(0, 2, 0);
        type(y, "x");
        dueThrow(ARGUMENT, y::read);
        type(y, "w2");
        due(0, y.restore());
        due(FREE, y.cell(1));
        due(1, y.sampled(0, 0, 3));
        due(1, y.sampled(0, 2, 3));
        due(0, y.errorPosition());
        due(3, y.append(';'));
        due(1, y.read());
        due(WALL, y.cell(2));
    }

    @Sentence("Saves everything")
    private static void p39EmptyAndFull() {
        Trial x = new Trial();
        due(0, x.save());
        String empty = sight(x);
        for (int r = 0; r < 5; r++) {
            x.addRobot(8 * r, 100 - 25 * r);
        }
        x.addLift(0, 39);
        x.addLift(38, 1);
        for (int t = 0; t < 12; t++) {
            x.addTask(2, 3, t, 1000);
        }
        x.serve(11, 0);
        x.advance(2);
        String full = sight(x);
        due(0, x.restore());
        due(empty, sight(x));
        Trial y = new Trial();
        for (int r = 0; r < 5; r++) {
            y.addRobot(8 * r, 100 - 25 * r);
        }
        y.addLift(0, 39);
        y.addLift(38, 1);
        for (int t = 0; t < 12; t++) {
            y.addTask(2, 3, t, 1000);
        }
        y.serve(11, 0);
        y.advance(2);
        due(full, sight(y));
        y.save();
        y.clear();
        for (int c = 0; c < 40; c++) {
            y.setCell(c, WALL);
        }
        y.restore();
        due(full, sight(y));
        due(1, y.advance(30));
        due(3.0f / 32.0f, y.activity(0));
    }

    @Sentence("Returns the clock.")
    private static void p39Returns() {
        Trial x = new Trial();
        due(0, x.save());
        x.advance(30);
        due(30, x.save());
        pass(x, 970);
        due(1000, x.save());
    }

    // ---- Promise 40

    @Sentence({"Restores what was saved.", "It stays saved."})
    private static void p40RestoresAgainAndAgain() {
        Trial x = busy();
        x.save();
        String before = sight(x);
        for (int round = 0; round < 4; round++) {
            due(2, x.restore());
            due(before, sight(x));
            if (round == 1) {
                x.clear();
                x.addRobot(3, 1);
                x.addTask(5, 6, 7, 8);
            } else if (round == 2) {
                x.setCell(21, WALL);
                x.cancel(1);
                x.plan(2, 39);
                due(1, x.advance(30));
            }
        }
        due(2, x.advance(30));
        due(10, x.task(1, 3));
        due(5, x.task(0, 3));
    }

    @Sentence("Restores what was saved.")
    private static void p40RestoresOverAnotherFloor() {
        Trial x = new Trial();
        walls(x, 0, 38);
        x.addLift(1, 30);
        x.addLift(37, 2);
        x.advance(3);
        x.addRobot(8, 77);
        x.addRobot(39, 7);
        x.addTask(1, 30, 0, 90);
        x.addTask(30, 31, 0, 2);
        x.advance(1);
        due(0, x.serve(0, 0));
        due(5, x.serve(1, 1));
        x.advance(2);
        x.save();
        String before = sight(x);
        x.clear();
        for (int r = 0; r < 5; r++) {
            x.addRobot(r, 1);
        }
        x.addLift(10, 20);
        x.addLift(11, 21);
        for (int t = 0; t < 12; t++) {
            x.addTask(20, 21, t, 1000);
        }
        x.advance(13);
        due(6, x.restore());
        due(before, sight(x));
        // what can't be seen at once: ends of lifts, when robots and tasks were added
        refusedEach(x, STATE, new int[] {1, 30, 37, 2}, c -> x.setCell(c, WALL));
        refusedEach(x, ARGUMENT, new int[] {1, 30, 37, 2}, c -> x.addLift(c, 20));
        refused(x, STATE, () -> x.addLift(10, 20));
        due(3, x.ticksBetween(30, 1));
        due(4, x.ticksBetween(10, 37));
        due(1, x.advance(6));
        due(9, x.task(0, 3));
        due(30, x.robot(0, 0));
        due(6.0, x.averageDelay());
        due(5.0f / 9.0f, x.activity(0));
        due(0.0f, x.activity(1));
        due(3, x.plan(0, 1));
        due("5", rest(x, 0));
    }

    @Sentence("Returns the clock.")
    private static void p40Returns() {
        Trial x = new Trial();
        x.save();
        pass(x, 1000);
        due(0, x.restore());
        due(0, x.count(5));
        pass(x, 1000);
        x.save();
        x.clear();
        due(1000, x.restore());
        due(1000, x.count(5));
        refused(x, STATE, () -> x.advance(1));
    }

    @Sentence("Throws `IllegalStateException` if nothing was saved")
    private static void p40NothingSaved() {
        Trial x = busy();
        refused(x, STATE, x::restore);
        x.clear();
        refused(x, STATE, x::restore);
        x.save();
        x.clear();
        due(0, x.restore());
    }

    public static void main(String[] args) throws Exception {
        runTests(BoundaryTextTest.class);
    }
}
