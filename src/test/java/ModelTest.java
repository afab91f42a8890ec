import java.util.ArrayList;
import java.util.Arrays;
import java.util.List;
import java.util.NoSuchElementException;
import java.util.Random;

/**
 * Compares AisleScheduler with a second, slower program that was written from the document alone, in long
 * runs of calls. Both use other means on purpose: here plans are lists of actions that get shorter, routes
 * are found forward with whole action sequences as labels, and trials are made on copies of everything.
 */
public final class ModelTest {

    static final class Bot {
        int cell;
        int lift = -1;
        int rideTicks;
        int rideTo;
        int battery;
        List<Integer> actions = new ArrayList<>();
        int task = -1;
        int added;
        int moves;
        int rides;
        int waits;
        int done;
        int gained;

        Bot copy() {
            Bot b = new Bot();
            b.cell = cell;
            b.lift = lift;
            b.rideTicks = rideTicks;
            b.rideTo = rideTo;
            b.battery = battery;
            b.actions = new ArrayList<>(actions);
            b.task = task;
            b.added = added;
            b.moves = moves;
            b.rides = rides;
            b.waits = waits;
            b.done = done;
            b.gained = gained;
            return b;
        }
    }

    static final class Job {
        int from;
        int to;
        int release;
        int deadline;
        int added;
        int state;
        int reason;
        int robot = -1;
        int doneAt = -1;

        Job copy() {
            Job j = new Job();
            j.from = from;
            j.to = to;
            j.release = release;
            j.deadline = deadline;
            j.added = added;
            j.state = state;
            j.reason = reason;
            j.robot = robot;
            j.doneAt = doneAt;
            return j;
        }
    }

    /** Where a robot is at the times from now on, and in which lift in the ticks. */
    static final class Track {
        int[] cell = new int[34];
        int[] lift = new int[34];
    }

    static final class Route {
        List<Integer> actions = new ArrayList<>();
        int ticks;
        int cost;
        int reason;
    }

    static final class State {
        int[] kind = new int[40];
        List<int[]> lifts = new ArrayList<>();
        List<Bot> bots = new ArrayList<>();
        List<Job> jobs = new ArrayList<>();
        int clock;
        int[] visits = new int[40];

        State copy() {
            State s = new State();
            s.kind = kind.clone();
            for (int[] l : lifts) {
                s.lifts.add(l.clone());
            }
            for (Bot b : bots) {
                s.bots.add(b.copy());
            }
            for (Job j : jobs) {
                s.jobs.add(j.copy());
            }
            s.clock = clock;
            s.visits = visits.clone();
            return s;
        }
    }

    State s = new State();
    State saved = null;
    int[][][] shelf = new int[2][3][];
    String input = "";
    int error = -1;

    // ---- helpers

    static void cells(int... c) {
        for (int x : c) {
            if (x < 0 || x > 39) {
                throw new IndexOutOfBoundsException();
            }
        }
    }

    Bot bot(int r) {
        if (r < 0 || r >= s.bots.size()) {
            throw new IndexOutOfBoundsException();
        }
        return s.bots.get(r);
    }

    Job job(int t) {
        if (t < 0 || t >= s.jobs.size()) {
            throw new IndexOutOfBoundsException();
        }
        return s.jobs.get(t);
    }

    int step(int cell, int action) {
        int row = cell / 8;
        int col = cell % 8;
        if (action == 0) {
            return cell;
        }
        if (action == 1) {
            return row > 0 ? cell - 8 : -1;
        }
        if (action == 2) {
            return col < 7 ? cell + 1 : -1;
        }
        if (action == 3) {
            return row < 4 ? cell + 8 : -1;
        }
        if (action == 4) {
            return col > 0 ? cell - 1 : -1;
        }
        if (action - 5 >= s.lifts.size()) {
            return -1;
        }
        int[] l = s.lifts.get(action - 5);
        return l[0] == cell ? l[1] : l[1] == cell ? l[0] : -1;
    }

    Track track(Bot b) {
        Track k = new Track();
        int t = 0;
        int at = b.cell;
        int i = 0;
        Arrays.fill(k.lift, -1);
        k.cell[0] = b.lift >= 0 ? -1 - b.lift : b.cell;
        if (b.lift >= 0) {
            for (int n = b.rideTicks; n > 0; n--) {
                k.lift[t] = b.lift;
                t++;
                k.cell[t] = n == 1 ? b.rideTo : -1 - b.lift;
            }
            at = b.rideTo;
            i = 1;
        }
        while (t < 31) {
            int a = i < b.actions.size() ? b.actions.get(i) : 0;
            i++;
            int to = step(at, a);
            if (a >= 5) {
                k.lift[t] = a - 5;
                k.lift[t + 1] = a - 5;
                k.lift[t + 2] = a - 5;
                k.cell[t + 1] = -1 - (a - 5);
                k.cell[t + 2] = -1 - (a - 5);
                k.cell[t + 3] = to;
                t += 3;
            } else {
                k.cell[t + 1] = to;
                t++;
            }
            at = to;
        }
        return k;
    }

    List<Track> tracksBut(int... but) {
        List<Track> all = new ArrayList<>();
        for (int r = 0; r < s.bots.size(); r++) {
            boolean out = false;
            for (int b : but) {
                out |= b == r;
            }
            if (!out) {
                all.add(track(s.bots.get(r)));
            }
        }
        return all;
    }

    boolean taken(List<Track> others, int cell, int t) {
        for (Track o : others) {
            if (o.cell[t] == cell) {
                return true;
            }
        }
        return false;
    }

    boolean legal(List<Track> others, int cell, int t, int a, int to) {
        int end = t + (a >= 5 ? 3 : 1);
        if (to < 0 || end > 30 || s.kind[to] == 1 || taken(others, to, end)) {
            return false;
        }
        for (Track o : others) {
            if (a >= 5) {
                for (int k = t; k < t + 3; k++) {
                    if (o.lift[k] == a - 5) {
                        return false;
                    }
                }
            } else if (a != 0 && o.cell[t] == to && o.cell[t + 1] == cell) {
                return false;
            }
        }
        return true;
    }

    /** The best route, as its actions in a text of digits, or null. */
    String search(List<Track> others, int cell, int begin, int goal, boolean last) {
        String[][] label = new String[31][40];
        int[][] cost = new int[31][40];
        label[begin][cell] = "";
        for (int t = begin; t <= 30; t++) {
            if (label[t][goal] != null) {
                boolean stays = true;
                for (int k = t; last && k <= 30; k++) {
                    stays &= !taken(others, goal, k);
                }
                if (stays) {
                    return label[t][goal];
                }
            }
            for (int c = 0; c < 40; c++) {
                for (int a = 0; a <= 6 && label[t][c] != null; a++) {
                    int to = step(c, a);
                    if (legal(others, c, t, a, to)) {
                        int end = t + (a >= 5 ? 3 : 1);
                        int price = cost[t][c] + price(a);
                        String way = label[t][c] + a;
                        if (label[end][to] == null || price < cost[end][to]
                                || price == cost[end][to] && way.compareTo(label[end][to]) < 0) {
                            label[end][to] = way;
                            cost[end][to] = price;
                        }
                    }
                }
            }
        }
        return null;
    }

    static int price(int a) {
        return a >= 5 ? 2 : a == 0 ? 0 : 1;
    }

    Route routeOf(String way) {
        if (way == null) {
            return null;
        }
        Route r = new Route();
        for (char ch : way.toCharArray()) {
            int a = ch - '0';
            r.actions.add(a);
            r.ticks += a >= 5 ? 3 : 1;
            r.cost += price(a);
        }
        return r;
    }

    Route finalRoute(int robot, int cell, int absent) {
        return routeOf(search(tracksBut(robot, absent), bot(robot).cell, 0, cell, true));
    }

    void reopen(Bot b) {
        if (b.task >= 0) {
            Job j = s.jobs.get(b.task);
            j.state = 0;
            j.robot = -1;
            b.task = -1;
        }
    }

    boolean replan(int robot, int cell) {
        Bot b = bot(robot);
        if (b.lift >= 0) {
            return false;
        }
        Route r = finalRoute(robot, cell, -1);
        if (r == null || r.cost > b.battery) {
            return false;
        }
        reopen(b);
        b.actions = r.actions;
        return true;
    }

    boolean met(int cell, int but) {
        List<Track> others = tracksBut(but);
        for (int t = 0; t <= 30; t++) {
            if (taken(others, cell, t)) {
                return true;
            }
        }
        return false;
    }

    int ticksLeft(Bot b) {
        int n = b.lift >= 0 ? b.rideTicks : 0;
        for (int i = b.lift >= 0 ? 1 : 0; i < b.actions.size(); i++) {
            n += b.actions.get(i) >= 5 ? 3 : 1;
        }
        return n;
    }

    // ---- the face

    int clear() {
        int n = s.bots.size();
        s = new State();
        return n;
    }

    boolean isEnd(int cell) {
        for (int[] l : s.lifts) {
            if (l[0] == cell || l[1] == cell) {
                return true;
            }
        }
        return false;
    }

    int setCell(int cell, int kind) {
        cells(cell);
        if (kind < 0 || kind > 2) {
            throw new IllegalArgumentException();
        }
        if (kind == 1 && (met(cell, -1) || isEnd(cell))) {
            throw new IllegalStateException();
        }
        int old = s.kind[cell];
        s.kind[cell] = kind;
        return old;
    }

    int addLift(int a, int b) {
        cells(a, b);
        if (a == b || s.kind[a] == 1 || s.kind[b] == 1 || isEnd(a) || isEnd(b)) {
            throw new IllegalArgumentException();
        }
        if (s.lifts.size() == 2) {
            throw new IllegalStateException();
        }
        s.lifts.add(new int[] {a, b});
        return s.lifts.size() - 1;
    }

    int addRobot(int cell, int battery) {
        cells(cell);
        if (battery < 0 || battery > 100 || s.kind[cell] == 1) {
            throw new IllegalArgumentException();
        }
        if (s.bots.size() == 5 || met(cell, -1)) {
            throw new IllegalStateException();
        }
        Bot b = new Bot();
        b.cell = cell;
        b.battery = battery;
        b.added = s.clock;
        s.bots.add(b);
        return s.bots.size() - 1;
    }

    int robot(int r, int what) {
        Bot b = bot(r);
        switch (what) {
            case 0: return b.lift >= 0 ? -1 : b.cell;
            case 1: return b.battery;
            case 2: return ticksLeft(b);
            case 3:
                int c = 0;
                for (int i = b.lift >= 0 ? 1 : 0; i < b.actions.size(); i++) {
                    c += price(b.actions.get(i));
                }
                return c;
            case 4: return b.task;
            case 5: return b.lift;
            default: throw new IllegalArgumentException();
        }
    }

    int count(int what) {
        int n = 0;
        switch (what) {
            case 0: return s.bots.size();
            case 1: return s.lifts.size();
            case 2: return s.jobs.size();
            case 3:
            case 4:
                for (int k : s.kind) {
                    n += k == what - 2 ? 1 : 0;
                }
                return n;
            case 5: return s.clock;
            default: throw new IllegalArgumentException();
        }
    }

    int[] waysFrom(int cell) {
        // one wave of cells for each tick; rides arrive three waves later
        int[] at = new int[40];
        Arrays.fill(at, -1);
        List<List<Integer>> wave = new ArrayList<>();
        for (int t = 0; t < 200; t++) {
            wave.add(new ArrayList<>());
        }
        if (s.kind[cell] != 1) {
            wave.get(0).add(cell);
        }
        for (int t = 0; t < 190; t++) {
            for (int c : wave.get(t)) {
                if (at[c] < 0) {
                    at[c] = t;
                    for (int a = 1; a <= 6; a++) {
                        int to = step(c, a);
                        if (to >= 0 && s.kind[to] != 1) {
                            wave.get(t + (a >= 5 ? 3 : 1)).add(to);
                        }
                    }
                }
            }
        }
        return at;
    }

    int region(int cell) {
        cells(cell);
        int n = 0;
        for (int t : waysFrom(cell)) {
            n += t >= 0 ? 1 : 0;
        }
        return n;
    }

    int ticksBetween(int a, int b) {
        cells(a, b);
        int t = waysFrom(a)[b];
        if (t < 0) {
            throw new NoSuchElementException();
        }
        return t;
    }

    Route demanded(int r, int cell) {
        Bot b = bot(r);
        cells(cell);
        if (b.lift >= 0) {
            throw new IllegalStateException();
        }
        Route way = finalRoute(r, cell, -1);
        if (way == null) {
            throw new NoSuchElementException();
        }
        return way;
    }

    int plan(int r, int cell) {
        Route way = demanded(r, cell);
        if (way.cost > bot(r).battery) {
            throw new UnsupportedOperationException();
        }
        replan(r, cell);
        return way.ticks;
    }

    int action(int r, int i) {
        Bot b = bot(r);
        if (i < 0 || i >= b.actions.size()) {
            throw new NoSuchElementException();
        }
        return b.actions.get(i);
    }

    int cellAfter(int r, int t) {
        Bot b = bot(r);
        if (t < 0 || t > 30) {
            throw new IllegalArgumentException();
        }
        return track(b).cell[t];
    }

    int robotAt(int cell, int t) {
        cells(cell);
        if (t < 0 || t > 30) {
            throw new IllegalArgumentException();
        }
        for (int r = 0; r < s.bots.size(); r++) {
            if (track(s.bots.get(r)).cell[t] == cell) {
                return r;
            }
        }
        return -1;
    }

    int cancel(int r) {
        Bot b = bot(r);
        if (b.lift >= 0) {
            throw new IllegalStateException();
        }
        if (met(b.cell, r)) {
            throw new UnsupportedOperationException();
        }
        int n = ticksLeft(b);
        reopen(b);
        b.actions.clear();
        return n;
    }

    int blockers(int r, int cell) {
        Bot b = bot(r);
        cells(cell);
        if (b.lift >= 0 || finalRoute(r, cell, -1) != null) {
            return 0;
        }
        int set = 0;
        for (int o = 0; o < s.bots.size(); o++) {
            if (o != r && finalRoute(r, cell, o) != null) {
                set |= 1 << o;
            }
        }
        return set;
    }

    int makeWay(int r, int cell) {
        Bot b = bot(r);
        cells(cell);
        State kept = s;
        s = kept.copy();
        boolean can = replan(r, cell);
        s = kept;
        if (b.lift >= 0 || can) {
            throw new IllegalStateException();
        }
        for (int o = 0; o < s.bots.size(); o++) {
            for (int c = 0; c < 40; c++) {
                if (o != r && ticksLeft(s.bots.get(o)) == 0) {
                    s = kept.copy();
                    if (replan(o, c) && replan(r, cell)) {
                        return o;
                    }
                    s = kept;
                }
            }
        }
        throw new NoSuchElementException();
    }

    int planToCharger(int r) {
        Bot b = bot(r);
        if (b.lift >= 0) {
            throw new IllegalStateException();
        }
        int best = -1;
        int ticks = 99;
        for (int c = 39; c >= 0; c--) {
            if (s.kind[c] == 2) {
                Route way = finalRoute(r, c, -1);
                if (way != null && way.cost <= b.battery && way.ticks <= ticks) {
                    best = c;
                    ticks = way.ticks;
                }
            }
        }
        if (best < 0) {
            throw new NoSuchElementException();
        }
        replan(r, best);
        return best;
    }

    int addTask(int a, int b, int release, int deadline) {
        cells(a, b);
        if (a == b || release < 0 || release > 1000 || deadline < 0 || deadline > 1000 || release > deadline) {
            throw new IllegalArgumentException();
        }
        if (s.jobs.size() == 12) {
            throw new IllegalStateException();
        }
        Job j = new Job();
        j.from = a;
        j.to = b;
        j.release = release;
        j.deadline = deadline;
        j.added = s.clock;
        s.jobs.add(j);
        return s.jobs.size() - 1;
    }

    Route service(int t, int r) {
        Job j = s.jobs.get(t);
        Bot b = s.bots.get(r);
        Route none = new Route();
        List<Track> others = tracksBut(r);
        none.reason = 1;
        if (b.lift >= 0) {
            return none;
        }
        none.reason = 2;
        String first = search(others, b.cell, 0, j.from, false);
        if (first == null) {
            return none;
        }
        none.reason = 3;
        int at = routeOf(first).ticks;
        int go = Math.max(at, j.release - s.clock);
        if (go > 30) {
            return none;
        }
        StringBuilder way = new StringBuilder(first);
        for (int k = at + 1; k <= go; k++) {
            if (taken(others, j.from, k)) {
                return none;
            }
            way.append('0');
        }
        none.reason = 4;
        String second = search(others, j.from, go, j.to, true);
        if (second == null) {
            return none;
        }
        Route whole = routeOf(way + second);
        whole.reason = s.clock + whole.ticks > j.deadline ? 5 : whole.cost > b.battery ? 6 : 0;
        return whole;
    }

    int serve(int t, int r) {
        Job j = job(t);
        Bot b = bot(r);
        if (j.state == 1 || j.state == 2) {
            throw new IllegalStateException();
        }
        Route way = service(t, r);
        j.reason = way.reason;
        if (way.reason != 0) {
            j.state = 3;
            return way.reason;
        }
        reopen(b);
        b.actions = way.actions;
        b.task = t;
        j.state = 1;
        j.robot = r;
        return 0;
    }

    int bestOf(int t, boolean idle) {
        int best = -1;
        int ticks = 99;
        for (int r = s.bots.size() - 1; r >= 0; r--) {
            if (!idle || ticksLeft(s.bots.get(r)) == 0) {
                Route way = service(t, r);
                if (way.reason == 0 && way.ticks <= ticks) {
                    best = r;
                    ticks = way.ticks;
                }
            }
        }
        return best;
    }

    int bestRobot(int t) {
        Job j = job(t);
        if (j.state == 1 || j.state == 2) {
            throw new IllegalStateException();
        }
        int best = bestOf(t, false);
        if (best < 0) {
            throw new NoSuchElementException();
        }
        return best;
    }

    int task(int t, int what) {
        Job j = job(t);
        switch (what) {
            case 0: return j.state;
            case 1: return j.state == 3 ? j.reason : 0;
            case 2: return j.robot;
            case 3: return j.doneAt;
            case 4: return j.from;
            case 5: return j.to;
            case 6: return j.release;
            case 7: return j.deadline;
            default: throw new IllegalArgumentException();
        }
    }

    int assignAll() {
        List<Integer> open = new ArrayList<>();
        for (int t = 0; t < s.jobs.size(); t++) {
            if (s.jobs.get(t).state == 0) {
                open.add(t);
            }
        }
        open.sort((a, b) -> s.jobs.get(a).deadline - s.jobs.get(b).deadline);
        int n = 0;
        for (int t : open) {
            int r = bestOf(t, true);
            if (r >= 0) {
                serve(t, r);
                n++;
            }
        }
        return n;
    }

    int tasksIn(int state) {
        if (state < 0 || state > 3) {
            throw new IllegalArgumentException();
        }
        int n = 0;
        for (Job j : s.jobs) {
            n += j.state == state ? 1 : 0;
        }
        return n;
    }

    int advance(int ticks) {
        if (ticks < 1 || ticks > 30) {
            throw new IllegalArgumentException();
        }
        if (s.clock + ticks > 1000) {
            throw new IllegalStateException();
        }
        int n = 0;
        for (int k = 0; k < ticks; k++) {
            s.clock++;
            for (int r = 0; r < s.bots.size(); r++) {
                n += tick(s.bots.get(r), r);
            }
        }
        return n;
    }

    int tick(Bot b, int r) {
        int a = b.actions.isEmpty() ? 0 : b.actions.get(0);
        if (a == 0) {
            b.waits++;
            if (s.kind[b.cell] == 2) {
                int more = Math.min(5, 100 - b.battery);
                b.gained += more;
                b.battery += more;
            }
        } else if (a < 5) {
            b.moves++;
            b.battery--;
            b.cell = step(b.cell, a);
        } else if (b.lift < 0) {
            b.rides++;
            b.battery -= 2;
            b.lift = a - 5;
            b.rideTicks = 2;
            b.rideTo = step(b.cell, a);
        } else {
            b.rideTicks--;
            if (b.rideTicks == 0) {
                b.cell = b.rideTo;
                b.lift = -1;
            }
        }
        if (b.lift < 0) {
            s.visits[b.cell]++;
            if (!b.actions.isEmpty()) {
                b.actions.remove(0);
            }
        }
        if (b.actions.isEmpty() && b.task >= 0) {
            Job j = s.jobs.get(b.task);
            j.state = 2;
            j.doneAt = s.clock;
            b.task = -1;
            b.done++;
            return 1;
        }
        return 0;
    }

    int statistic(int r, int what) {
        Bot b = bot(r);
        switch (what) {
            case 0: return b.moves;
            case 1: return b.rides;
            case 2: return b.waits;
            case 3: return b.done;
            case 4: return b.gained;
            default: throw new IllegalArgumentException();
        }
    }

    float activity(int r) {
        Bot b = bot(r);
        int all = s.clock - b.added;
        if (all == 0) {
            throw new ArithmeticException();
        }
        return (float) (all - b.waits) / (float) all;
    }

    double averageDelay() {
        double sum = 0;
        int n = 0;
        for (Job j : s.jobs) {
            if (j.state == 2) {
                sum += j.doneAt - Math.max(j.release, j.added);
                n++;
            }
        }
        if (n == 0) {
            throw new ArithmeticException();
        }
        return sum / n;
    }

    int visits(int cell) {
        cells(cell);
        return s.visits[cell];
    }

    int busiestCell() {
        int best = 39;
        for (int c = 39; c >= 0; c--) {
            best = s.visits[c] >= s.visits[best] ? c : best;
        }
        return best;
    }

    int sample(int f, int p, int r) {
        if (f < 0 || f > 1 || p < 0 || p > 2) {
            throw new IndexOutOfBoundsException();
        }
        Bot b = bot(r);
        if (f == 0 && ticksLeft(b) != 0) {
            throw new UnsupportedOperationException();
        }
        shelf[f][p] = new int[] {r, robot(r, 0), b.battery, s.clock};
        int n = 0;
        for (int[] k : shelf[f]) {
            n += k != null ? 1 : 0;
        }
        return n;
    }

    int sampled(int f, int p, int what) {
        if (f < 0 || f > 1 || p < 0 || p > 2) {
            throw new IndexOutOfBoundsException();
        }
        if (what < 0 || what > 3) {
            throw new IllegalArgumentException();
        }
        if (shelf[f][p] == null) {
            throw new NoSuchElementException();
        }
        return shelf[f][p][what];
    }

    int append(char c) {
        if (c < 32 || c > 126) {
            throw new IllegalArgumentException();
        }
        if (input.length() == 40) {
            throw new IllegalStateException();
        }
        input += c;
        return input.length();
    }

    static final String NUMBER = "(?:[0-3][0-9]|[0-9])";
    static final String ENTRY = "(?:[wcfr]" + NUMBER + "|l" + NUMBER + "-" + NUMBER + ");";
    static final String[] REST = {"", ";", "1;", "-1;", "1-1;", "w1;"};

    /** Whether some text starts so: with one of a few endings it must be one. */
    static boolean isStart(String t) {
        for (String end : REST) {
            if ((t + end).matches("(?:" + ENTRY + ")+")) {
                return true;
            }
        }
        return false;
    }

    int read() {
        String t = input;
        input = "";
        if (!t.matches("(?:" + ENTRY + ")+")) {
            error = t.length();
            for (int k = t.length() - 1; k >= 0; k--) {
                if (!isStart(t.substring(0, k + 1))) {
                    error = k;
                }
            }
            throw new IllegalArgumentException();
        }
        State kept = s.copy();
        String[] entries = t.split(";");
        for (String e : entries) {
            String[] n = e.substring(1).split("-");
            int a = Integer.parseInt(n[0]);
            try {
                switch (e.charAt(0)) {
                    case 'w': setCell(a, 1); break;
                    case 'c': setCell(a, 2); break;
                    case 'f': setCell(a, 0); break;
                    case 'l': addLift(a, Integer.parseInt(n[1])); break;
                    default: addRobot(a, 100);
                }
            } catch (RuntimeException x) {
                s = kept;
                throw new IllegalStateException();
            }
        }
        return entries.length;
    }

    int errorPosition() {
        if (error < 0) {
            throw new NoSuchElementException();
        }
        return error;
    }

    int save() {
        saved = s.copy();
        return s.clock;
    }

    int restore() {
        if (saved == null) {
            throw new IllegalStateException();
        }
        s = saved.copy();
        return s.clock;
    }

    // ---- comparing

    interface Call {
        double make();
    }

    static String answer(Call c) {
        try {
            return Double.toString(c.make());
        } catch (RuntimeException e) {
            return e.getClass().getSimpleName();
        }
    }

    static final String[] NAMES = {"clear", "setCell", "cell", "addLift", "addRobot", "robot", "count", "region",
        "ticksBetween", "plan", "arrival", "routeCost", "action", "cellAfter", "robotAt", "cancel", "blockers",
        "makeWay", "planToCharger", "addTask", "serve", "bestRobot", "task", "assignAll", "tasksIn", "advance",
        "statistic", "activity", "activityBits", "averageDelay", "visits", "busiestCell", "sample", "sampled",
        "append", "read", "errorPosition", "save", "restore"};

    static double real(Trial x, int n, int a, int b, int c, int d) {
        switch (n) {
            case 0: return x.clear();
            case 1: return x.setCell(a, b);
            case 2: return x.cell(a);
            case 3: return x.addLift(a, b);
            case 4: return x.addRobot(a, b);
            case 5: return x.robot(a, b);
            case 6: return x.count(a);
            case 7: return x.region(a);
            case 8: return x.ticksBetween(a, b);
            case 9: return x.plan(a, b);
            case 10: return x.arrival(a, b);
            case 11: return x.routeCost(a, b);
            case 12: return x.action(a, b);
            case 13: return x.cellAfter(a, b);
            case 14: return x.robotAt(a, b);
            case 15: return x.cancel(a);
            case 16: return x.blockers(a, b);
            case 17: return x.makeWay(a, b);
            case 18: return x.planToCharger(a);
            case 19: return x.addTask(a, b, c, d);
            case 20: return x.serve(a, b);
            case 21: return x.bestRobot(a);
            case 22: return x.task(a, b);
            case 23: return x.assignAll();
            case 24: return x.tasksIn(a);
            case 25: return x.advance(a);
            case 26: return x.statistic(a, b);
            case 27: return x.activity(a);
            case 28: return x.activityBits(a);
            case 29: return x.averageDelay();
            case 30: return x.visits(a);
            case 31: return x.busiestCell();
            case 32: return x.sample(a, b, c);
            case 33: return x.sampled(a, b, c);
            case 34: return x.append((char) a);
            case 35: return x.read();
            case 36: return x.errorPosition();
            case 37: return x.save();
            default: return x.restore();
        }
    }

    static double model(ModelTest m, int n, int a, int b, int c, int d) {
        switch (n) {
            case 0: return m.clear();
            case 1: return m.setCell(a, b);
            case 2: cells(a); return m.s.kind[a];
            case 3: return m.addLift(a, b);
            case 4: return m.addRobot(a, b);
            case 5: return m.robot(a, b);
            case 6: return m.count(a);
            case 7: return m.region(a);
            case 8: return m.ticksBetween(a, b);
            case 9: return m.plan(a, b);
            case 10: return m.demanded(a, b).ticks;
            case 11: return m.demanded(a, b).cost;
            case 12: return m.action(a, b);
            case 13: return m.cellAfter(a, b);
            case 14: return m.robotAt(a, b);
            case 15: return m.cancel(a);
            case 16: return m.blockers(a, b);
            case 17: return m.makeWay(a, b);
            case 18: return m.planToCharger(a);
            case 19: return m.addTask(a, b, c, d);
            case 20: return m.serve(a, b);
            case 21: return m.bestRobot(a);
            case 22: return m.task(a, b);
            case 23: return m.assignAll();
            case 24: return m.tasksIn(a);
            case 25: return m.advance(a);
            case 26: return m.statistic(a, b);
            case 27: return m.activity(a);
            case 28: return Float.floatToIntBits(m.activity(a));
            case 29: return m.averageDelay();
            case 30: return m.visits(a);
            case 31: return m.busiestCell();
            case 32: return m.sample(a, b, c);
            case 33: return m.sampled(a, b, c);
            case 34: return m.append((char) a);
            case 35: return m.read();
            case 36: return m.errorPosition();
            case 37: return m.save();
            default: return m.restore();
        }
    }

    /** A run ends here, as one step of it may make some 80 calls, and an object is used for at most 512. */
    static final int MOST_CALLS = 400;
    static int wrong = 0;
    static int[][] hits = new int[NAMES.length][2];
    static int[] reasons = new int[7];

    static boolean same(Trial x, ModelTest m, int run, int n, int... p) {
        int[] q = Arrays.copyOf(p, 4);
        String got = answer(() -> real(x, n, q[0], q[1], q[2], q[3]));
        String due = answer(() -> model(m, n, q[0], q[1], q[2], q[3]));
        hits[n][due.endsWith("Exception") ? 1 : 0]++;
        if (n == 20 && !due.endsWith("Exception")) {
            reasons[(int) Double.parseDouble(due)]++;
        }
        if (!got.equals(due)) {
            wrong++;
            System.out.println("run " + run + ": " + NAMES[n] + Arrays.toString(p) + " answered " + got
                    + ", due is " + due);
        }
        return got.equals(due);
    }

    static void sameState(Trial x, ModelTest m, int run) {
        x.look(() -> {
            sameSight(x, m, run);
            return null;
        });
    }

    /** Asks for everything that can be seen. */
    static void sameSight(Trial x, ModelTest m, int run) {
        for (int k = 0; k <= 5; k++) {
            same(x, m, run, 6, k);
        }
        for (int c = 0; c < 40; c++) {
            same(x, m, run, 2, c);
            same(x, m, run, 30, c);
        }
        for (int r = 0; r < m.s.bots.size(); r++) {
            for (int k = 0; k <= 5; k++) {
                same(x, m, run, 5, r, k);
                same(x, m, run, 26, r, k);
            }
            for (int t = 0; t <= 30; t++) {
                same(x, m, run, 13, r, t);
            }
            for (int i = -1; i <= m.s.bots.get(r).actions.size(); i++) {
                same(x, m, run, 12, r, i);
            }
            same(x, m, run, 28, r);
        }
        for (int t = 0; t < m.s.jobs.size(); t++) {
            for (int k = 0; k <= 7; k++) {
                same(x, m, run, 22, t, k);
            }
        }
        for (int k = 0; k < 24; k++) {
            same(x, m, run, 33, k / 12, k / 4 % 3, k % 4);
        }
        same(x, m, run, 29);
        same(x, m, run, 31);
        same(x, m, run, 36);
        noCollisions(m, run);
    }

    /** The plans that there are never collide. */
    static void noCollisions(ModelTest m, int run) {
        for (int r = 0; r < m.s.bots.size(); r++) {
            Track a = m.track(m.s.bots.get(r));
            for (int o = 0; o < r; o++) {
                Track b = m.track(m.s.bots.get(o));
                for (int t = 0; t <= 30; t++) {
                    boolean meet = a.cell[t] >= 0 && a.cell[t] == b.cell[t];
                    boolean swap = t < 30 && a.cell[t] >= 0 && a.cell[t + 1] >= 0 && a.cell[t] == b.cell[t + 1]
                            && a.cell[t + 1] == b.cell[t];
                    boolean ride = a.lift[t] >= 0 && a.lift[t] == b.lift[t];
                    if (meet || swap || ride) {
                        wrong++;
                        System.out.println("run " + run + ": robots " + o + " and " + r + " collide at " + t);
                    }
                }
            }
        }
    }

    /** Most cells of a run are among the first 8, 16 or 40: in little room robots meet more often. */
    static int span = 40;

    static int oddCell(Random g) {
        return g.nextInt(6) == 0 ? odd(g, 40) : g.nextInt(span);
    }

    static int odd(Random g, int bound) {
        int[] strange = {-1, bound, Integer.MIN_VALUE, Integer.MAX_VALUE, bound + 1};
        return g.nextInt(40) == 0 ? strange[g.nextInt(strange.length)] : g.nextInt(bound);
    }

    static void text(Trial x, ModelTest m, int run, Random g) {
        StringBuilder t = new StringBuilder();
        int n = g.nextInt(14) == 0 ? 14 : 1 + g.nextInt(4);
        for (int k = 0; k < n; k++) {
            String kind = "wcfrl";
            char c = kind.charAt(g.nextInt(5));
            t.append(c).append(n > 10 ? g.nextInt(10) : g.nextInt(40));
            if (c == 'l') {
                t.append('-').append(g.nextInt(3) == 0 ? "0" : "").append(g.nextInt(10));
            }
            t.append(';');
        }
        if (g.nextInt(2) == 0) {
            String signs = "wcfrl0123456789-;x ";
            int k = g.nextInt(t.length());
            int how = g.nextInt(3);
            if (how == 0) {
                t.setCharAt(k, signs.charAt(g.nextInt(signs.length())));
            } else if (how == 1) {
                t.deleteCharAt(k);
            } else {
                t.setLength(k);
            }
        }
        for (int k = 0; k < t.length(); k++) {
            same(x, m, run, 34, t.charAt(k));
        }
        same(x, m, run, 35);
        same(x, m, run, 36);
    }

    static void floor(Trial x, ModelTest m, int run, Random g) {
        span = 8 << g.nextInt(3);
        span = span == 32 ? 40 : span;
        for (int c = span; c < Math.min(40, span + 8); c++) {
            if (g.nextInt(4) != 0) {
                same(x, m, run, 1, c, 1);
            }
        }
        int walls = g.nextInt(4) * span / 8;
        for (int k = 0; k < walls; k++) {
            same(x, m, run, 1, g.nextInt(span), 1);
        }
        if (g.nextInt(4) == 0) {
            int row = 1 + g.nextInt(3);
            for (int c = 0; c < 8; c++) {
                same(x, m, run, 1, row * 8 + c, 1);
            }
        }
        for (int k = g.nextInt(3); k > 0; k--) {
            same(x, m, run, 3, oddCell(g), oddCell(g));
        }
        for (int k = g.nextInt(4); k > 0; k--) {
            same(x, m, run, 1, oddCell(g), 2);
        }
        for (int k = 1 + g.nextInt(5); k > 0; k--) {
            same(x, m, run, 4, oddCell(g), g.nextInt(3) == 0 ? g.nextInt(20) : g.nextInt(101));
        }
    }

    static void someCall(Trial x, ModelTest m, int run, Random g) {
        int[] often = {9, 9, 9, 9, 9, 25, 25, 25, 20, 20, 20, 19, 19, 17, 17, 16, 15, 18, 23};
        int n = g.nextInt(3) > 0 ? often[g.nextInt(often.length)] : g.nextInt(NAMES.length);
        if (n == 0 && g.nextInt(3) != 0) {
            n = 37;
        }
        int r = g.nextInt(8) == 0 ? odd(g, 5) : g.nextInt(Math.max(1, m.s.bots.size()));
        int t = g.nextInt(8) == 0 ? odd(g, 12) : g.nextInt(Math.max(1, m.s.jobs.size()));
        int cell = oddCell(g);
        switch (n) {
            case 0:
                same(x, m, run, n);
                floor(x, m, run, g);
                break;
            case 1: same(x, m, run, n, cell, odd(g, 3)); break;
            case 3: case 8: same(x, m, run, n, cell, oddCell(g)); break;
            case 4: same(x, m, run, n, cell, odd(g, 101)); break;
            case 5: case 26: same(x, m, run, n, r, odd(g, 6)); break;
            case 6: same(x, m, run, n, odd(g, 6)); break;
            case 2: case 7: case 30: same(x, m, run, n, cell); break;
            case 9: case 10: case 11: case 16: case 17: same(x, m, run, n, r, cell); break;
            case 12: case 13: same(x, m, run, n, r, odd(g, 31)); break;
            case 14: same(x, m, run, n, cell, odd(g, 31)); break;
            case 19:
                int soon = Math.max(0, Math.min(1000, m.s.clock - 10 + g.nextInt(50)));
                int release = g.nextInt(4) == 0 ? odd(g, 1001) : soon;
                int late = g.nextInt(2) == 0 ? release + g.nextInt(40) : (m.s.clock / 50 + 1) * 50;
                int deadline = g.nextInt(6) == 0 ? odd(g, 1001) : Math.min(1000, late);
                same(x, m, run, n, cell, oddCell(g), release, deadline);
                break;
            case 20: same(x, m, run, n, t, r); break;
            case 21: same(x, m, run, n, t); break;
            case 22: same(x, m, run, n, t, odd(g, 8)); break;
            case 24: same(x, m, run, n, odd(g, 4)); break;
            case 25: same(x, m, run, n, g.nextInt(3) > 0 ? 1 + g.nextInt(4) : odd(g, 32)); break;
            case 32: same(x, m, run, n, odd(g, 2), odd(g, 3), r); break;
            case 33: same(x, m, run, n, odd(g, 2), odd(g, 3), odd(g, 4)); break;
            case 34: same(x, m, run, n, g.nextInt(140)); break;
            case 35: text(x, m, run, g); break;
            default: same(x, m, run, n, r);
        }
    }

    public static void main(String[] args) {
        int runs = args.length > 0 ? Integer.parseInt(args[0]) : 250;
        long seed = args.length > 1 ? Long.parseLong(args[1]) : 0;
        for (int run = 0; run < runs && wrong == 0; run++) {
            Random g = new Random(run + seed);
            Trial x = new Trial();
            ModelTest m = new ModelTest();
            floor(x, m, run, g);
            int calls = 20 + g.nextInt(120);
            for (int k = 0; k < calls && x.callsMade() < MOST_CALLS && wrong == 0; k++) {
                someCall(x, m, run, g);
                sameState(x, m, run);
            }
        }
        for (int n = 0; n < NAMES.length && args.length > 0; n++) {
            System.out.println(NAMES[n] + " " + Arrays.toString(hits[n]));
        }
        if (args.length > 0) {
            System.out.println("reasons " + Arrays.toString(reasons));
        }
        System.out.println(wrong == 0 ? "all answers are as the model's" : wrong + " answers are not as the model's");
        if (wrong != 0) {
            System.exit(1);
        }
    }
}
