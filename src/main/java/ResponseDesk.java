/** Says how late jobs of periodic tasks can be finished, and finds orders in which all are in time. */
public final class ResponseDesk {
    public static final int BAD = -1;
    public static final int FULL = -2;
    public static final int LATE = -3;

    private static final int MOST_TASKS = 5;
    private static final int LONGEST_PERIOD = 15;
    private static final int MOST_UNITS = 60;
    private static final int NONE = -1;

    private final int[] cost = new int[MOST_TASKS];
    private final int[] limit = new int[MOST_TASKS];
    private final int[] period = new int[MOST_TASKS];
    private int there;

    private final int[] order = new int[MOST_TASKS];
    private int count;

    // An order under test, kept apart so that a search leaves the real one alone.
    private final int[] trial = new int[MOST_TASKS];

    // One run of THE START, by task number.
    private final int[] nextReady = new int[MOST_TASKS];
    private final int[] workLeft = new int[MOST_TASKS];
    private final int[] unitsHad = new int[MOST_TASKS];
    private final int[] firstDone = new int[MOST_TASKS];

    public ResponseDesk() {
        there = 0;
        count = 0;
    }

    public int add(int c, int d, int p) {
        if (!(1 <= c && c <= d && d <= p && p <= LONGEST_PERIOD)) {
            return BAD;
        }
        if (count >= MOST_TASKS) {
            return FULL;
        }
        int k = leastFreeNumber();
        cost[k] = c;
        limit[k] = d;
        period[k] = p;
        there = there | (1 << k);
        putIn(k, count);
        return k;
    }

    public boolean remove(int k) {
        if (!isTask(k)) {
            return false;
        }
        takeOut(k);
        there = there & ~(1 << k);
        return true;
    }

    public boolean place(int k, int i) {
        if (!isTask(k) || !isPlace(i)) {
            return false;
        }
        takeOut(k);
        putIn(k, i);
        return true;
    }

    public int tasks() {
        return there;
    }

    public int at(int i) {
        return isPlace(i) ? order[i] : BAD;
    }

    public int response(int k) {
        if (!isTask(k)) {
            return BAD;
        }
        runStart(order, LONGEST_PERIOD);
        return responseInRun(k);
    }

    public boolean good() {
        return timelyTasks(order) == there;
    }

    public int inTime() {
        return timelyTasks(order);
    }

    public int goodOrders() {
        int orders = numberOfOrders();
        int found = 0;
        firstTrial();
        for (int o = 0; o < orders; o++) {
            if (timelyTasks(trial) == there) {
                found++;
            }
            nextTrial();
        }
        return found;
    }

    public boolean arrange() {
        int orders = numberOfOrders();
        firstTrial();
        for (int o = 0; o < orders; o++) {
            // Trials come in dictionary order, so the first good one is the least.
            if (timelyTasks(trial) == there) {
                takeTrialAsOrder();
                return true;
            }
            nextTrial();
        }
        return false;
    }

    public int canBeLast() {
        // The empty order is good, but has no last task.
        if (count == 0) {
            return 0;
        }
        int orders = numberOfOrders();
        int last = 0;
        firstTrial();
        for (int o = 0; o < orders; o++) {
            if (timelyTasks(trial) == there) {
                last = last | (1 << trial[count - 1]);
            }
            nextTrial();
        }
        return last;
    }

    public int greatestCost(int k) {
        if (!isTask(k)) {
            return BAD;
        }
        int kept = cost[k];
        int found = 0;
        for (int c = limit[k]; c >= 1 && found == 0; c--) {
            cost[k] = c;
            if (timelyTasks(order) == there) {
                found = c;
            }
        }
        cost[k] = kept;
        return found;
    }

    public int leastPeriod(int k) {
        if (!isTask(k)) {
            return BAD;
        }
        int kept = period[k];
        int found = 0;
        for (int p = limit[k]; p <= LONGEST_PERIOD && found == 0; p++) {
            period[k] = p;
            if (timelyTasks(order) == there) {
                found = p;
            }
        }
        period[k] = kept;
        return found;
    }

    public int idle(int n) {
        return runStart(order, n > MOST_UNITS ? MOST_UNITS : n);
    }

    public boolean fits(int c, int d, int p) {
        int k = add(c, d, p);
        if (k < 0) {
            return false;
        }
        boolean found = goodOrders() > 0;
        // The task stands last in the order, so taking it away leaves all as it was.
        remove(k);
        return found;
    }

    private boolean isTask(int k) {
        return k >= 0 && k < MOST_TASKS && (there & (1 << k)) != 0;
    }

    private boolean isPlace(int i) {
        return i >= 0 && i < count;
    }

    private int leastFreeNumber() {
        int k = 0;
        while (k < MOST_TASKS - 1 && (there & (1 << k)) != 0) {
            k++;
        }
        return k;
    }

    private void takeOut(int k) {
        int kept = 0;
        for (int i = 0; i < count; i++) {
            if (order[i] != k) {
                order[kept] = order[i];
                kept++;
            }
        }
        count = kept;
    }

    private void putIn(int k, int place) {
        for (int i = count; i > place; i--) {
            order[i] = order[i - 1];
        }
        order[place] = k;
        count++;
    }

    private int numberOfOrders() {
        int orders = 1;
        for (int i = 2; i <= count; i++) {
            orders = orders * i;
        }
        return orders;
    }

    private void firstTrial() {
        int placed = 0;
        for (int k = 0; k < MOST_TASKS; k++) {
            if ((there & (1 << k)) != 0) {
                trial[placed] = k;
                placed++;
            }
        }
    }

    // A search steps once more after its last order, so that one must stay as it is.
    private void nextTrial() {
        int i = count - 2;
        while (i >= 0 && trial[i] > trial[i + 1]) {
            i--;
        }
        if (i < 0) {
            return;
        }
        int j = count - 1;
        while (j > i && trial[j] < trial[i]) {
            j--;
        }
        swapTrial(i, j);
        // What follows place i still falls; turned round, it is the least that can follow.
        int low = i + 1;
        int high = count - 1;
        while (low < high) {
            swapTrial(low, high);
            low++;
            high--;
        }
    }

    private void swapTrial(int i, int j) {
        int kept = trial[i];
        trial[i] = trial[j];
        trial[j] = kept;
    }

    private void takeTrialAsOrder() {
        for (int i = 0; i < count; i++) {
            order[i] = trial[i];
        }
    }

    private int timelyTasks(int[] row) {
        // No response is above the longest period, so later units can't matter.
        runStart(row, LONGEST_PERIOD);
        int timely = 0;
        for (int i = 0; i < count; i++) {
            int k = row[i];
            int units = responseInRun(k);
            if (units != LATE && units <= limit[k]) {
                timely = timely | (1 << k);
            }
        }
        return timely;
    }

    private int responseInRun(int k) {
        boolean late = firstDone[k] == 0 || firstDone[k] > period[k];
        return late ? LATE : firstDone[k];
    }

    // One run serves both questions: it notes when the first jobs are done, and answers the idle units.
    private int runStart(int[] row, int units) {
        clearRun();
        int unused = 0;
        for (int t = 0; t < units; t++) {
            makeJobsReady(t);
            int k = mostUrgentWithWork(row);
            if (k == NONE) {
                unused++;
            } else {
                giveUnit(k, t);
            }
        }
        return unused;
    }

    private void clearRun() {
        for (int k = 0; k < MOST_TASKS; k++) {
            nextReady[k] = 0;
            workLeft[k] = 0;
            unitsHad[k] = 0;
            firstDone[k] = 0;
        }
    }

    private void makeJobsReady(int t) {
        for (int k = 0; k < MOST_TASKS; k++) {
            if ((there & (1 << k)) != 0 && nextReady[k] == t) {
                // Added, not set: a late job's work stays beside the new job's.
                workLeft[k] = workLeft[k] + cost[k];
                nextReady[k] = t + period[k];
            }
        }
    }

    private int mostUrgentWithWork(int[] row) {
        for (int i = 0; i < count; i++) {
            if (workLeft[row[i]] > 0) {
                return row[i];
            }
        }
        return NONE;
    }

    private void giveUnit(int k, int t) {
        workLeft[k]--;
        unitsHad[k]++;
        // The units had only grow, so this holds once: at the first job's last unit.
        if (unitsHad[k] == cost[k]) {
            firstDone[k] = t + 1;
        }
    }
}
