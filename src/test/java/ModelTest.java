import java.util.ArrayList;
import java.util.List;

/**
 * Compares the class with a model that never runs THE START: it sums the work asked for.
 * The calls are drawn by a fixed rule, so every run makes the same ones.
 */
public final class ModelTest {
    private static final int OBJECTS = 1000;
    private static final int MOST_CALLS = 512;
    private static int wrong = 0;
    private static long draw = 20261115L;

    private final ResponseDesk desk = new ResponseDesk();
    private final List<int[]> row = new ArrayList<>();
    private final StringBuilder story = new StringBuilder();
    private int calls = 0;

    private static int pick(int low, int high) {
        draw = draw * 6364136223846793005L + 1442695040888963407L;
        return low + (int) ((draw >>> 33) % (high - low + 1));
    }

    private void due(String call, int got, int want) {
        calls++;
        if (got != want) {
            wrong++;
            System.out.println(story + call + " answered " + got + ", due is " + want);
        }
    }

    private void due(String call, boolean got, boolean want) {
        due(call, got ? 1 : 0, want ? 1 : 0);
    }

    private int placeOf(int k) {
        for (int i = 0; i < row.size(); i++) {
            if (row.get(i)[0] == k) {
                return i;
            }
        }
        return -1;
    }

    private static int workBy(int units, List<int[]> tasks, int howMany) {
        int work = 0;
        for (int[] task : tasks.subList(0, howMany)) {
            work += (units + task[3] - 1) / task[3] * task[1];
        }
        return work;
    }

    private static int response(List<int[]> tasks, int place) {
        int[] own = tasks.get(place);
        for (int t = 1; t <= own[3]; t++) {
            if (own[1] + workBy(t, tasks, place) <= t) {
                return t;
            }
        }
        return -3;
    }

    private static int inTime(List<int[]> tasks) {
        int bits = 0;
        for (int i = 0; i < tasks.size(); i++) {
            int r = response(tasks, i);
            if (r != -3 && r <= tasks.get(i)[2]) {
                bits |= 1 << tasks.get(i)[0];
            }
        }
        return bits;
    }

    private static boolean good(List<int[]> tasks) {
        return Integer.bitCount(inTime(tasks)) == tasks.size();
    }

    private static void collectGood(List<int[]> front, List<int[]> rest, List<List<int[]>> found) {
        if (rest.isEmpty() && good(front)) {
            found.add(new ArrayList<>(front));
        }
        for (int[] task : rest) {
            List<int[]> others = new ArrayList<>(rest);
            others.remove(task);
            front.add(task);
            collectGood(front, others, found);
            front.remove(front.size() - 1);
        }
    }

    /** The good orders, the least in the dictionary order first. */
    private static List<List<int[]>> goodOrders(List<int[]> tasks) {
        List<int[]> sorted = new ArrayList<>(tasks);
        sorted.sort((a, b) -> a[0] - b[0]);
        List<List<int[]>> found = new ArrayList<>();
        collectGood(new ArrayList<>(), sorted, found);
        return found;
    }

    private static boolean fair(int c, int d, int p) {
        return 1 <= c && c <= d && d <= p && p <= 15;
    }

    private int freeNumber() {
        int k = 0;
        while (placeOf(k) >= 0) {
            k++;
        }
        return k;
    }

    /** The first of the values from one to the other that, as this number of task k, makes the order good. */
    private int firstGood(int k, int number, int from, int to) {
        int[] own = row.get(placeOf(k));
        int kept = own[number];
        int found = 0;
        for (int v = from; from > to ? v >= to : v <= to; v += from > to ? -1 : 1) {
            own[number] = v;
            if (found == 0 && good(row)) {
                found = v;
            }
        }
        own[number] = kept;
        return found;
    }

    private int idle(int n) {
        int most = 0;
        for (int s = 1; s <= Math.min(n, 60); s++) {
            most = Math.max(most, s - workBy(s, row, row.size()));
        }
        return most;
    }

    private int[] drawNumbers() {
        if (pick(0, 11) == 0) {
            return new int[] {pick(-1, 16), pick(-1, 16), pick(-1, 17)};
        }
        int p = pick(1, 4) == 1 ? pick(1, 15) : pick(6, 15);
        int d = pick(0, 1) == 0 ? p : pick((p + 1) / 2, p);
        int c = pick(0, 4) == 0 ? pick(1, d) : pick(1, Math.min(d, 3));
        return new int[] {c, d, p};
    }

    private void add() {
        int[] v = drawNumbers();
        int want = !fair(v[0], v[1], v[2]) ? -1 : row.size() == 5 ? -2 : freeNumber();
        String call = "add(" + v[0] + ", " + v[1] + ", " + v[2] + ") ";
        due(call, desk.add(v[0], v[1], v[2]), want);
        if (want >= 0) {
            row.add(new int[] {want, v[0], v[1], v[2]});
        }
        story.append(call);
    }

    private void remove() {
        int k = pick(-1, 5);
        boolean want = placeOf(k) >= 0;
        due("remove(" + k + ")", desk.remove(k), want);
        if (want) {
            row.remove(placeOf(k));
        }
        story.append("remove(" + k + ") ");
    }

    private void place() {
        int k = pick(-1, 5);
        int i = pick(-1, 5);
        boolean want = placeOf(k) >= 0 && i >= 0 && i < row.size();
        due("place(" + k + ", " + i + ")", desk.place(k, i), want);
        if (want) {
            row.add(i, row.remove(placeOf(k)));
        }
        story.append("place(" + k + ", " + i + ") ");
    }

    private void arrange() {
        List<List<int[]>> orders = goodOrders(row);
        due("arrange()", desk.arrange(), !orders.isEmpty());
        if (!orders.isEmpty()) {
            row.clear();
            row.addAll(orders.get(0));
        }
        story.append("arrange() ");
    }

    private void askOrder() {
        int bits = 0;
        for (int[] task : row) {
            bits |= 1 << task[0];
        }
        due("tasks()", desk.tasks(), bits);
        for (int i = -1; i <= 5; i++) {
            due("at(" + i + ")", desk.at(i), i >= 0 && i < row.size() ? row.get(i)[0] : -1);
        }
    }

    private void askTasks() {
        for (int k = -1; k <= 5; k++) {
            int i = placeOf(k);
            int[] own = i < 0 ? null : row.get(i);
            due("response(" + k + ")", desk.response(k), i < 0 ? -1 : response(row, i));
            due("greatestCost(" + k + ")", desk.greatestCost(k), i < 0 ? -1 : firstGood(k, 1, own[2], 1));
            due("leastPeriod(" + k + ")", desk.leastPeriod(k), i < 0 ? -1 : firstGood(k, 3, own[2], 15));
        }
    }

    private void askAll() {
        due("good()", desk.good(), good(row));
        due("inTime()", desk.inTime(), inTime(row));
        int n = pick(-2, 63);
        due("idle(" + n + ")", desk.idle(n), idle(n));
    }

    private void askOrders() {
        List<List<int[]>> orders = goodOrders(row);
        int last = 0;
        for (List<int[]> one : orders) {
            last |= one.isEmpty() ? 0 : 1 << one.get(one.size() - 1)[0];
        }
        due("goodOrders()", desk.goodOrders(), orders.size());
        due("canBeLast()", desk.canBeLast(), last);
        int[] v = drawNumbers();
        boolean fits = fair(v[0], v[1], v[2]) && row.size() < 5;
        if (fits) {
            List<int[]> more = new ArrayList<>(row);
            more.add(new int[] {freeNumber(), v[0], v[1], v[2]});
            fits = !goodOrders(more).isEmpty();
        }
        due("fits(" + v[0] + ", " + v[1] + ", " + v[2] + ")", desk.fits(v[0], v[1], v[2]), fits);
    }

    private void change() {
        int what = pick(0, 9);
        if (what < 5) {
            add();
        } else if (what < 6) {
            remove();
        } else if (what < 9) {
            place();
        } else {
            arrange();
        }
    }

    private void run() {
        // A round is at most 40 calls.
        while (calls + 40 <= MOST_CALLS) {
            change();
            askOrder();
            askTasks();
            askAll();
            askOrders();
        }
    }

    public static void main(String[] args) {
        for (int o = 0; o < OBJECTS && wrong < 20; o++) {
            new ModelTest().run();
        }
        System.out.println(wrong == 0 ? "all answers are as due" : wrong + " answers are not as due");
        if (wrong != 0) {
            System.exit(1);
        }
    }
}
