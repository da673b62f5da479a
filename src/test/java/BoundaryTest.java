import java.util.function.Supplier;
import java.util.function.ToIntFunction;

/**
 * One test for each sentence of the document that names a boundary case. A test begins with the sentence's own
 * words, which are printed with every answer that is not as due.
 */
public final class BoundaryTest {
    private static final int BAD = -1;
    private static final int FULL = -2;
    private static final int LATE = -3;
    private static final int MIN = Integer.MIN_VALUE;
    private static final int MAX = Integer.MAX_VALUE;

    // 32 to 36 and the like would be 0 to 4 to a shift, 2 to the 31st and its neighbours wrap round.
    private static final int[] NO_TASK_EVER = {
        -1, -2, -5, -27, -28, -31, -32, 5, 6, 15, 31, 32, 33, 36, 64, 256, 65536, MIN, MIN + 1, MIN + 4, MAX, MAX - 1
    };
    private static final int[][] UNFAIR = {
        {0, 1, 1}, {0, 15, 15}, {-1, 1, 1}, {2, 1, 2}, {15, 14, 15}, {1, 2, 1}, {1, 15, 14}, {1, 1, 16},
        {16, 16, 16}, {0, 0, 0}, {MIN, 1, 1}, {1, MIN, 1}, {1, 1, MIN}, {MAX, 1, 1}, {1, MAX, 1}, {1, 1, MAX},
        {MAX, MAX, MAX}, {MIN, MIN, MIN}, {1, MAX, MAX}, {MIN, MAX, 15}
    };

    private static String sentence = "";
    private static int sentences = 0;
    private static int wrong = 0;

    private static void sentence(String promise, String words) {
        sentence = promise + ", \"" + words + "\"";
        sentences++;
    }

    private static void tell(String what) {
        wrong++;
        System.out.println(sentence + ": " + what);
    }

    private static void due(String call, int got, int want) {
        if (got != want) {
            tell(call + " answered " + got + ", due is " + want);
        }
    }

    private static void due(String call, boolean got, boolean want) {
        due(call, got ? 1 : 0, want ? 1 : 0);
    }

    private static void dueOrder(ResponseDesk x, int... tasks) {
        for (int i = 0; i < 5; i++) {
            due("at(" + i + ")", x.at(i), i < tasks.length ? tasks[i] : BAD);
        }
    }

    private static ResponseDesk desk(int... numbers) {
        ResponseDesk x = new ResponseDesk();
        for (int i = 0; i < numbers.length; i += 3) {
            x.add(numbers[i], numbers[i + 1], numbers[i + 2]);
        }
        return x;
    }

    /** As many as wanted, all in time in every order. */
    private static ResponseDesk easy(int howMany) {
        ResponseDesk x = new ResponseDesk();
        for (int k = 0; k < howMany; k++) {
            x.add(1, 15, 15);
        }
        return x;
    }

    /** Tasks 0, 2 and 3 in the order 3, 0, 2, so that numbers, places and the count all differ. */
    private static ResponseDesk mixed() {
        ResponseDesk x = desk(2, 9, 12, 1, 1, 1, 3, 14, 15, 1, 4, 5);
        x.remove(1);
        x.place(3, 0);
        return x;
    }

    /** Tasks 0 and 1 can't both be in time. */
    private static ResponseDesk hopeless() {
        ResponseDesk x = desk(1, 1, 2, 1, 1, 2, 1, 15, 15);
        x.place(2, 0);
        return x;
    }

    /** Five tasks whose only good order is the last one in the dictionary order. */
    private static ResponseDesk reversed() {
        return desk(1, 5, 15, 1, 4, 15, 1, 3, 15, 1, 2, 15, 1, 1, 15);
    }

    /** All that can be asked of an object without changing it. */
    private static String seen(ResponseDesk x) {
        StringBuilder all = new StringBuilder();
        for (int k = 0; k < 5; k++) {
            all.append(x.at(k)).append(' ').append(x.response(k)).append(' ');
            all.append(x.greatestCost(k)).append(' ').append(x.leastPeriod(k)).append(' ');
        }
        all.append(x.tasks()).append(' ').append(x.good()).append(' ').append(x.inTime()).append(' ');
        all.append(x.goodOrders()).append(' ').append(x.canBeLast()).append(' ');
        for (int n = 1; n <= 60; n++) {
            all.append(x.idle(n)).append(' ');
        }
        return all.toString();
    }

    private static void dueUnchanged(
            String call, Supplier<ResponseDesk> made, ToIntFunction<ResponseDesk> ask, int want) {
        ResponseDesk x = made.get();
        String before = seen(x);
        int got = ask.applyAsInt(x);
        due(call, got, want);
        // A call that was wrongly taken may leave an object that can't be asked any more.
        String after = got == want ? seen(x) : before;
        if (!before.equals(after)) {
            tell(call + " changed " + before + "to " + after);
        }
    }

    private static boolean fair(int c, int d, int p) {
        return 1 <= c && c <= d && d <= p && p <= 15;
    }

    // ---- What it is

    private static void usedFor512Calls() {
        sentence("What it is", "used for at most 512 calls");
        ResponseDesk x = new ResponseDesk();
        for (int call = 1; call <= 510; call += 2) {
            due("add, call " + call, x.add(15, 15, 15), 0);
            due("remove, call " + (call + 1), x.remove(0), true);
        }
        due("add, call 511", x.add(4, 15, 15), 0);
        due("idle, call 512", x.idle(60), 44);
    }

    // ---- Terms

    private static void atMostFiveTasks() {
        sentence("Terms", "at most five TASKS, with numbers 0 .. 4");
        ResponseDesk x = new ResponseDesk();
        for (int k = 0; k < 5; k++) {
            due("add number " + k, x.add(1, 15, 15), k);
        }
        due("sixth add", x.add(1, 15, 15), FULL);
        due("tasks()", x.tasks(), 31);
        due("place(4, 4)", x.place(4, 4), true);
        due("response(4)", x.response(4), 5);
        due("response(5)", x.response(5), BAD);
    }

    private static void orderFromTheMostUrgent() {
        sentence("Terms", "from the most urgent to the least urgent one");
        ResponseDesk x = desk(1, 15, 15, 2, 15, 15, 4, 15, 15);
        due("response at place 0", x.response(x.at(0)), 1);
        due("response at place 1", x.response(x.at(1)), 3);
        due("response at place 2", x.response(x.at(2)), 7);
        x.place(2, 0);
        due("response at place 0, moved", x.response(2), 4);
        due("response at place 2, moved", x.response(1), 7);
    }

    private static void jobsReadyAtEachPeriod() {
        sentence("Terms", "a JOB ready at the units 0, p, 2 * p, ..");
        for (int p = 1; p <= 15; p++) {
            ResponseDesk x = desk(1, 1, p);
            for (int n = 1; n <= 60; n++) {
                int jobs = 0;
                for (int ready = 0; ready < n; ready += p) {
                    jobs++;
                }
                due("idle(" + n + ") of one with period " + p, x.idle(n), n - jobs);
            }
        }
    }

    private static void needsItsCost() {
        sentence("Terms", "that needs c units");
        for (int c = 1; c <= 15; c++) {
            due("response with cost " + c, desk(c, 15, 15).response(0), c);
            due("idle(60) with cost " + c, desk(c, 15, 15).idle(60), 60 - 4 * c);
        }
    }

    private static void mostUrgentHasTheUnit() {
        sentence("Terms", "each unit goes to the most urgent task that has work left");
        // Task 0 has units 0, 1, 4 and 5: task 1 is held up in the middle of its job.
        due("response(1)", desk(2, 2, 4, 3, 8, 8).response(1), 7);
    }

    private static void oldJobsKeepTheirWork() {
        sentence("Terms", "of jobs ready at that unit or before");
        // Task 0 has 0-3 and 8-11; task 1 has 4 and 5 for its first job, 6, 7, 12 and 13 for the next two.
        ResponseDesk x = desk(4, 4, 8, 2, 5, 5, 1, 15, 15);
        due("response(1)", x.response(1), LATE);
        due("response(2)", x.response(2), 15);
        due("idle(15) without task 2", desk(4, 4, 8, 2, 5, 5).idle(15), 1);
    }

    private static void unitOfGettingReadyCounts() {
        sentence("Terms", "the unit in which a job gets ready counts");
        due("response of the first unit", desk(1, 1, 15).response(0), 1);
        // Task 0 has units 0 and 3, so task 1 has 1, 2 and 4.
        ResponseDesk x = desk(1, 1, 3, 3, 5, 5);
        due("response(1)", x.response(1), 5);
        due("idle(5)", x.idle(5), 0);
    }

    private static void unitToNone() {
        sentence("Terms", "to none if there is none");
        ResponseDesk x = desk(1, 15, 15, 2, 15, 15);
        due("idle(3), work in all", x.idle(3), 0);
        due("idle(4), none in the last", x.idle(4), 1);
        due("idle(15)", x.idle(15), 12);
        due("idle(16), work again", x.idle(16), 12);
    }

    private static void upToAndIncluding() {
        sentence("Terms", "up to and including the one in which its first job gets its last unit");
        due("one unit", desk(1, 1, 1).response(0), 1);
        due("fifteen units", desk(15, 15, 15).response(0), 15);
        // Task 0 has 0, 2, 4, .. 12: task 1 gets its seventh unit in 13, its last chance.
        due("between another's units", desk(1, 1, 2, 7, 15, 15).response(1), 14);
    }

    private static void responseAtMostItsPeriod() {
        sentence("Terms", "when that is at most p; LATE otherwise");
        for (int p = 2; p <= 15; p++) {
            due("response at p = " + p, desk(p - 1, p - 1, 15, 1, p, p).response(1), p);
        }
        for (int p = 1; p <= 15; p++) {
            due("response one over p = " + p, desk(p, p, 15, 1, p, p).response(1), LATE);
        }
        due("never done", desk(1, 1, 1, 1, 15, 15).response(1), LATE);
    }

    private static void inTimeAtMostItsLimit() {
        sentence("Terms", "IN TIME when its response is .. at most d");
        for (int d = 2; d <= 14; d++) {
            due("inTime() at d = " + d, desk(d - 1, d - 1, 15, 1, d, 15).inTime(), 3);
            ResponseDesk over = desk(d, d, 15, 1, d, 15);
            due("response one over d = " + d, over.response(1), d + 1);
            due("inTime() one over d = " + d, over.inTime(), 1);
        }
    }

    private static void notInTimeWhenLate() {
        sentence("Terms", "IN TIME when its response is not LATE");
        due("inTime(), never done", desk(1, 1, 1, 1, 15, 15).inTime(), 1);
        due("inTime(), one over d = p", desk(4, 4, 15, 1, 4, 4).inTime(), 1);
        due("good(), one over d = p", desk(4, 4, 15, 1, 4, 4).good(), false);
    }

    private static void goodWhenAllAreInTime() {
        sentence("Terms", "GOOD when all tasks are in time");
        due("all of three", desk(1, 1, 15, 1, 2, 15, 1, 3, 15).good(), true);
        due("all but the last", desk(1, 1, 15, 1, 2, 15, 1, 2, 15).good(), false);
        due("all but the middle one", desk(1, 1, 15, 1, 1, 15, 1, 3, 15).good(), false);
        due("the first alone", desk(1, 1, 15, 1, 1, 15, 1, 2, 15).good(), false);
    }

    // ---- Promise 1

    private static void newObjectHasNoTasks() {
        sentence("Promise 1", "No tasks.");
        ResponseDesk x = new ResponseDesk();
        due("tasks()", x.tasks(), 0);
        dueOrder(x);
        for (int k = 0; k < 5; k++) {
            due("remove(" + k + ")", x.remove(k), false);
            due("place(" + k + ", 0)", x.place(k, 0), false);
            due("response(" + k + ")", x.response(k), BAD);
            due("greatestCost(" + k + ")", x.greatestCost(k), BAD);
            due("leastPeriod(" + k + ")", x.leastPeriod(k), BAD);
        }
        due("inTime()", x.inTime(), 0);
        due("canBeLast()", x.canBeLast(), 0);
        due("idle(60)", x.idle(60), 60);
        due("first add", x.add(1, 1, 1), 0);
        due("tasks() of another new object", new ResponseDesk().tasks(), 0);
        due("tasks() of this one", x.tasks(), 1);
    }

    // ---- Promise 2

    private static void addsAsTheLeastUrgent() {
        sentence("Promise 2", "Adds a task as the least urgent one");
        ResponseDesk x = desk(3, 9, 9);
        dueOrder(x, 0);
        x.add(1, 1, 1);
        dueOrder(x, 0, 1);
        x.remove(0);
        x.add(1, 2, 3);
        dueOrder(x, 1, 0);
        x.place(0, 0);
        x.add(1, 2, 3);
        dueOrder(x, 0, 1, 2);
    }

    private static void leastNumberThatNoneHas() {
        sentence("Promise 2", "answers the least number that none has");
        for (int gone = 0; gone < 5; gone++) {
            for (int more = 0; more < 5; more++) {
                ResponseDesk x = easy(5);
                x.remove(more);
                x.remove(gone);
                int least = gone < more ? gone : more;
                due("add with " + gone + " and " + more + " free", x.add(1, 15, 15), least);
                due("next add", x.add(1, 15, 15), gone == more ? FULL : gone + more - least);
            }
        }
        ResponseDesk y = easy(5);
        for (int k = 0; k < 5; k++) {
            y.remove(k);
        }
        due("add after all are gone", y.add(1, 15, 15), 0);
    }

    private static void dueFairness(int c, int d, int p) {
        ResponseDesk x = new ResponseDesk();
        boolean fair = fair(c, d, p);
        String numbers = "(" + c + ", " + d + ", " + p + ")";
        due("add" + numbers, x.add(c, d, p), fair ? 0 : BAD);
        due("tasks() after add" + numbers, x.tasks(), fair ? 1 : 0);
    }

    private static void addBad() {
        sentence("Promise 2", "BAD when not 1 <= c <= d <= p <= 15");
        for (int c = -2; c <= 18; c++) {
            for (int d = -2; d <= 18; d++) {
                for (int p = -2; p <= 18; p++) {
                    dueFairness(c, d, p);
                }
            }
        }
        for (int[] v : UNFAIR) {
            String call = "add(" + v[0] + ", " + v[1] + ", " + v[2] + ")";
            dueUnchanged(call, BoundaryTest::mixed, x -> x.add(v[0], v[1], v[2]), BAD);
            due(call + " of none", new ResponseDesk().add(v[0], v[1], v[2]), BAD);
        }
    }

    private static void addFull() {
        sentence("Promise 2", "FULL when five are there");
        dueUnchanged("add to five", BoundaryTest::reversed, x -> x.add(1, 1, 1), FULL);
        dueUnchanged("add to five", () -> easy(5), x -> x.add(15, 15, 15), FULL);
        due("add to four", easy(4).add(15, 15, 15), 4);
        for (int k = 0; k < 5; k++) {
            ResponseDesk x = easy(5);
            x.remove(k);
            due("add after remove(" + k + ")", x.add(1, 1, 1), k);
            due("add to five again", x.add(1, 1, 1), FULL);
        }
    }

    // ---- Promise 3

    private static void removeKeepsTheOthersOrder() {
        sentence("Promise 3", "Takes task k away (the others keep their order) and answers true");
        for (int gone = 0; gone < 5; gone++) {
            ResponseDesk x = reversed();
            x.arrange();
            due("remove(" + gone + ")", x.remove(gone), true);
            due("tasks()", x.tasks(), 31 - (1 << gone));
            for (int i = 0; i < 4; i++) {
                int straight = 4 - i;
                due("at(" + i + ") without " + gone, x.at(i), straight > gone ? straight : straight - 1);
            }
            due("at(4) without " + gone, x.at(4), BAD);
        }
        ResponseDesk one = easy(1);
        due("remove of the only one", one.remove(0), true);
        due("tasks()", one.tasks(), 0);
        dueOrder(one);
        due("idle(60)", one.idle(60), 60);
    }

    private static void removeOfNone() {
        sentence("Promise 3", "false, changing nothing, when there is none");
        for (int k : NO_TASK_EVER) {
            dueUnchanged("remove(" + k + ")", BoundaryTest::mixed, x -> x.remove(k) ? 1 : 0, 0);
            dueUnchanged("remove(" + k + ") of five", BoundaryTest::reversed, x -> x.remove(k) ? 1 : 0, 0);
        }
        dueUnchanged("remove of one removed", BoundaryTest::mixed, x -> x.remove(1) ? 1 : 0, 0);
        dueUnchanged("remove of one never added", BoundaryTest::mixed, x -> x.remove(4) ? 1 : 0, 0);
        dueUnchanged("remove of none", ResponseDesk::new, x -> x.remove(0) ? 1 : 0, 0);
        ResponseDesk twice = easy(2);
        due("remove(0)", twice.remove(0), true);
        due("remove(0) again", twice.remove(0), false);
        dueOrder(twice, 1);
    }

    // ---- Promise 4

    private static void placeKeepsTheOthersOrder() {
        sentence("Promise 4", "Puts task k at place i of the order (0 the most urgent), the others keeping theirs");
        for (int k = 0; k < 5; k++) {
            for (int i = 0; i < 5; i++) {
                ResponseDesk x = easy(5);
                due("place(" + k + ", " + i + ")", x.place(k, i), true);
                due("tasks()", x.tasks(), 31);
                due("at(" + i + ")", x.at(i), k);
                due("response(" + k + ")", x.response(k), i + 1);
                int other = 0;
                for (int at = 0; at < 5; at++) {
                    other += other == k ? 1 : 0;
                    if (at != i) {
                        due("at(" + at + ") after place(" + k + ", " + i + ")", x.at(at), other);
                        other++;
                    }
                }
            }
        }
    }

    private static void placeOfNoTask() {
        sentence("Promise 4", "false, changing nothing, when there is no task k");
        for (int k : NO_TASK_EVER) {
            dueUnchanged("place(" + k + ", 0)", BoundaryTest::mixed, x -> x.place(k, 0) ? 1 : 0, 0);
            dueUnchanged("place(" + k + ", 4) of five", BoundaryTest::reversed, x -> x.place(k, 4) ? 1 : 0, 0);
        }
        for (int i = 0; i < 3; i++) {
            int place = i;
            dueUnchanged("place of one removed", BoundaryTest::mixed, x -> x.place(1, place) ? 1 : 0, 0);
            dueUnchanged("place of one never added", BoundaryTest::mixed, x -> x.place(4, place) ? 1 : 0, 0);
        }
        dueUnchanged("place of none", ResponseDesk::new, x -> x.place(0, 0) ? 1 : 0, 0);
    }

    private static void placeAtNoPlace() {
        sentence("Promise 4", "or i is no place (0 to the number of tasks minus 1)");
        for (int howMany = 1; howMany <= 5; howMany++) {
            int most = howMany;
            ResponseDesk x = easy(howMany);
            due("place(0, 0) of " + howMany, x.place(0, 0), true);
            due("place(0, " + (howMany - 1) + ") of " + howMany, x.place(0, howMany - 1), true);
            due("then at(" + (howMany - 1) + ")", x.at(howMany - 1), 0);
            for (int i = howMany; i <= 6; i++) {
                int place = i;
                dueUnchanged("place(0, " + i + ") of " + most, () -> easy(most), y -> y.place(0, place) ? 1 : 0, 0);
            }
        }
        for (int i : NO_TASK_EVER) {
            dueUnchanged("place(3, " + i + ")", BoundaryTest::mixed, x -> x.place(3, i) ? 1 : 0, 0);
            dueUnchanged("place(4, " + i + ") of five", BoundaryTest::reversed, x -> x.place(4, i) ? 1 : 0, 0);
            dueUnchanged("place(" + i + ", " + i + ")", BoundaryTest::mixed, x -> x.place(i, i) ? 1 : 0, 0);
        }
        dueUnchanged("place(3, 3) of three", BoundaryTest::mixed, x -> x.place(3, 3) ? 1 : 0, 0);
    }

    // ---- Promises 5 and 6

    private static void tasksByBits() {
        sentence("Promise 5", "bit k for task k");
        due("tasks() of none", new ResponseDesk().tasks(), 0);
        due("tasks() of five", easy(5).tasks(), 31);
        for (int kept = 0; kept < 32; kept++) {
            ResponseDesk x = easy(5);
            for (int k = 0; k < 5; k++) {
                if ((kept >> k & 1) == 0) {
                    x.remove(k);
                }
            }
            due("tasks()", x.tasks(), kept);
        }
    }

    private static void atNoPlace() {
        sentence("Promise 6", "BAD when there is none");
        for (int howMany = 0; howMany <= 5; howMany++) {
            ResponseDesk x = easy(howMany);
            for (int i = 0; i <= 6; i++) {
                due("at(" + i + ") of " + howMany, x.at(i), i < howMany ? i : BAD);
            }
            for (int i : NO_TASK_EVER) {
                due("at(" + i + ") of " + howMany, x.at(i), BAD);
            }
        }
        dueOrder(mixed(), 3, 0, 2);
        ResponseDesk shrunk = easy(5);
        shrunk.remove(4);
        due("at(4) after remove", shrunk.at(4), BAD);
        shrunk.fits(1, 15, 15);
        due("at(4) after fits", shrunk.at(4), BAD);
    }

    // ---- Promises 7 to 9

    private static void responseOfNone() {
        sentence("Promise 7", "BAD when there is none");
        for (int k : NO_TASK_EVER) {
            due("response(" + k + ")", mixed().response(k), BAD);
            due("response(" + k + ") of five", easy(5).response(k), BAD);
            due("response(" + k + ") of none", new ResponseDesk().response(k), BAD);
        }
        ResponseDesk x = mixed();
        due("response of one removed", x.response(1), BAD);
        due("response of one never added", x.response(4), BAD);
        due("response of one that is there", x.response(3), 1);
        due("response of the last one", x.response(2), 7);
    }

    private static void goodOfNone() {
        sentence("Promise 8", "Whether the order is good");
        due("good() of none", new ResponseDesk().good(), true);
        due("good() of the least one", desk(1, 1, 1).good(), true);
        due("good() of the greatest one", desk(15, 15, 15).good(), true);
        due("good() of 120 good orders", easy(5).good(), true);
        ResponseDesk x = reversed();
        due("good() of a wrong order", x.good(), false);
        x.arrange();
        due("good() of the only order", x.good(), true);
        due("good() of no good order", hopeless().good(), false);
    }

    private static void inTimeByBits() {
        sentence("Promise 9", "bit k for task k");
        due("inTime() of none", new ResponseDesk().inTime(), 0);
        due("inTime() of five", easy(5).inTime(), 31);
        // In this order task k is done after k + 1 units, its limit is 5 - k.
        due("inTime() of a wrong order", reversed().inTime(), 7);
        due("inTime() by numbers, not places", mixed().inTime(), 13);
        due("inTime() behind a late one", desk(2, 5, 5, 2, 3, 10, 1, 5, 10).inTime(), 5);
    }

    // ---- Promises 10 to 12

    private static void goodOrdersOfNone() {
        sentence("Promise 10", "1 when there are none");
        due("goodOrders() of none", new ResponseDesk().goodOrders(), 1);
        ResponseDesk x = hopeless();
        x.remove(0);
        x.remove(1);
        x.remove(2);
        due("goodOrders() after all are gone", x.goodOrders(), 1);
    }

    private static void goodOrdersCounted() {
        sentence("Promise 10", "The number of good orders of the tasks that are there");
        int all = 1;
        for (int howMany = 1; howMany <= 5; howMany++) {
            all = all * howMany;
            due("goodOrders() of " + howMany, easy(howMany).goodOrders(), all);
        }
        due("goodOrders(), the last one alone", reversed().goodOrders(), 1);
        due("goodOrders(), the first one alone",
            desk(1, 1, 15, 1, 2, 15, 1, 3, 15, 1, 4, 15, 1, 5, 15).goodOrders(), 1);
        due("goodOrders(), no good one", hopeless().goodOrders(), 0);
        dueUnchanged("goodOrders()", BoundaryTest::reversed, x -> x.goodOrders(), 1);
    }

    private static void arrangeTheLeast() {
        sentence("Promise 11", "whose tasks, from the most urgent one on, are least in the dictionary order");
        ResponseDesk x = easy(5);
        for (int k = 1; k < 5; k++) {
            x.place(k, 0);
        }
        dueOrder(x, 4, 3, 2, 1, 0);
        due("arrange() of a good order", x.arrange(), true);
        dueOrder(x, 0, 1, 2, 3, 4);
        due("arrange() of the least", x.arrange(), true);
        dueOrder(x, 0, 1, 2, 3, 4);

        ResponseDesk last = reversed();
        due("arrange(), the last order alone", last.arrange(), true);
        dueOrder(last, 4, 3, 2, 1, 0);

        // Task 4 must be first, task 1 first or second.
        ResponseDesk tied = desk(1, 15, 15, 1, 2, 15, 1, 15, 15, 1, 15, 15, 1, 1, 15);
        due("arrange(), some places fixed", tied.arrange(), true);
        dueOrder(tied, 4, 1, 0, 2, 3);

        // The order of adding, 1, 2, 0, is not the one of the numbers.
        ResponseDesk again = easy(3);
        again.remove(0);
        again.add(1, 15, 15);
        due("arrange(), a number used again", again.arrange(), true);
        dueOrder(again, 0, 1, 2);
    }

    private static void arrangeNone() {
        sentence("Promise 11", "false, changing nothing, when there is none");
        dueUnchanged("arrange()", BoundaryTest::hopeless, x -> x.arrange() ? 1 : 0, 0);
        dueUnchanged("arrange() of five, all too much",
            () -> desk(9, 9, 9, 1, 1, 1, 8, 9, 10, 15, 15, 15, 2, 2, 2), x -> x.arrange() ? 1 : 0, 0);
        ResponseDesk x = hopeless();
        x.arrange();
        dueOrder(x, 2, 0, 1);
        // With no task at all the empty order is good, and is there.
        dueUnchanged("arrange() of none", ResponseDesk::new, y -> y.arrange() ? 1 : 0, 1);
    }

    private static void lastInSomeGoodOrder() {
        sentence("Promise 12", "the least urgent one in some good order: bit k for task k");
        due("canBeLast() of none", new ResponseDesk().canBeLast(), 0);
        due("canBeLast(), no good order", hopeless().canBeLast(), 0);
        due("canBeLast() of five", easy(5).canBeLast(), 31);
        due("canBeLast(), the last order alone", reversed().canBeLast(), 1);
        due("canBeLast(), the first order alone",
            desk(1, 1, 15, 1, 2, 15, 1, 3, 15, 1, 4, 15, 1, 5, 15).canBeLast(), 16);
        // Task 2 would be in time as the last one, but tasks 0 and 1 never both are.
        due("canBeLast(), in time in no good order", desk(1, 1, 15, 1, 1, 15, 1, 15, 15).canBeLast(), 0);
        ResponseDesk gap = easy(5);
        gap.remove(0);
        gap.remove(2);
        due("canBeLast() with gaps", gap.canBeLast(), 26);
        dueUnchanged("canBeLast()", BoundaryTest::reversed, x -> x.canBeLast(), 1);
    }

    // ---- Promise 13

    private static void greatestCostUpToItsLimit() {
        sentence("Promise 13", "The greatest cost that task k could have (up to its limit)");
        for (int d = 1; d <= 15; d++) {
            due("greatestCost(0), limit " + d, desk(1, d, 15).greatestCost(0), d);
            due("greatestCost(0), cost and limit " + d, desk(d, d, d).greatestCost(0), d);
        }
        // Two of its jobs come before task 1's limit: 2 * 3 + 4 is 10.
        due("greatestCost(0), twice before the other's limit", desk(1, 5, 5, 4, 10, 10).greatestCost(0), 3);
        due("greatestCost(0), one below its cost", desk(3, 5, 10, 2, 4, 10).greatestCost(0), 2);
        due("greatestCost(0), the least there is", desk(5, 5, 10, 5, 6, 10).greatestCost(0), 1);
        due("greatestCost of the last one, up to 15", desk(1, 1, 15, 1, 15, 15).greatestCost(1), 14);
    }

    private static void greatestCostElseAsItIs() {
        sentence("Promise 13", "all else as it is, so that the order would be good");
        due("greatestCost(0), good in another order only", desk(1, 15, 15, 1, 1, 15).greatestCost(0), 0);
        due("greatestCost(2), another task is out of time", hopeless().greatestCost(2), 0);
        // With 2, task 2 has 2 * 2 + 2 + 3 units done by 9; with 3 it would need 3 * 3 + 2 * 2 + 3 by 14.
        dueUnchanged("greatestCost(3)", BoundaryTest::mixed, x -> x.greatestCost(3), 2);
        dueUnchanged("greatestCost(0) of none found", BoundaryTest::hopeless, x -> x.greatestCost(0), 0);
    }

    private static void greatestCostZero() {
        sentence("Promise 13", "0 when there is none");
        due("greatestCost(1), no unit left", desk(1, 1, 1, 1, 15, 15).greatestCost(1), 0);
        due("greatestCost(1), limit 1 behind another", desk(1, 1, 15, 1, 1, 15).greatestCost(1), 0);
        due("greatestCost(0), 1 is too much", desk(15, 15, 15, 15, 15, 15).greatestCost(0), 0);
        due("greatestCost(0), 1 is not too much", desk(15, 15, 15, 14, 15, 15).greatestCost(0), 1);
    }

    private static void greatestCostOfNone() {
        sentence("Promise 13", "BAD when there is no task k");
        for (int k : NO_TASK_EVER) {
            dueUnchanged("greatestCost(" + k + ")", BoundaryTest::mixed, x -> x.greatestCost(k), BAD);
            due("greatestCost(" + k + ") of five", easy(5).greatestCost(k), BAD);
            due("greatestCost(" + k + ") of none", new ResponseDesk().greatestCost(k), BAD);
        }
        due("greatestCost of one removed", mixed().greatestCost(1), BAD);
        due("greatestCost of one never added", mixed().greatestCost(4), BAD);
    }

    // ---- Promise 14

    private static void leastPeriodFromItsLimit() {
        sentence("Promise 14", "The least period that task k could have (from its limit ..)");
        for (int d = 1; d <= 15; d++) {
            due("leastPeriod(0), limit " + d, desk(1, d, 15).leastPeriod(0), d);
            due("leastPeriod(0), limit and period " + d, desk(1, d, d).leastPeriod(0), d);
        }
        // With period 5 task 0 has units 0-2 and 5-7, task 1 has 3, 4 and 8; with 4 it would have 3, 7 and 11.
        due("leastPeriod(0), for the other's sake", desk(3, 3, 9, 3, 9, 9).leastPeriod(0), 5);
        due("leastPeriod(0), above its period", desk(2, 2, 2, 1, 3, 3).leastPeriod(0), 3);
    }

    private static void leastPeriodUpTo15() {
        sentence("Promise 14", "(.. up to 15)");
        // Task 1 has 1-14 if task 0 comes once in 15 units.
        due("leastPeriod(0), 15", desk(1, 1, 2, 14, 15, 15).leastPeriod(0), 15);
        due("leastPeriod(0), 14", desk(1, 1, 2, 13, 14, 14).leastPeriod(0), 14);
    }

    private static void leastPeriodElseAsItIs() {
        sentence("Promise 14", "all else as it is, so that the order would be good");
        due("leastPeriod(0), good in another order only", desk(1, 15, 15, 1, 1, 15).leastPeriod(0), 0);
        due("leastPeriod(2), another task is out of time", hopeless().leastPeriod(2), 0);
        dueUnchanged("leastPeriod(3)", BoundaryTest::mixed, x -> x.leastPeriod(3), 4);
        dueUnchanged("leastPeriod(0) of none found", BoundaryTest::hopeless, x -> x.leastPeriod(0), 0);
    }

    private static void leastPeriodZero() {
        sentence("Promise 14", "0 when there is none");
        due("leastPeriod(0), 15 is too short", desk(1, 1, 2, 15, 15, 15).leastPeriod(0), 0);
        due("leastPeriod(1), its own limit missed", desk(1, 1, 2, 1, 1, 2).leastPeriod(1), 0);
        due("leastPeriod(1), no unit left", desk(1, 1, 1, 1, 15, 15).leastPeriod(1), 0);
    }

    private static void leastPeriodOfNone() {
        sentence("Promise 14", "BAD when there is no task k");
        for (int k : NO_TASK_EVER) {
            dueUnchanged("leastPeriod(" + k + ")", BoundaryTest::mixed, x -> x.leastPeriod(k), BAD);
            due("leastPeriod(" + k + ") of five", easy(5).leastPeriod(k), BAD);
            due("leastPeriod(" + k + ") of none", new ResponseDesk().leastPeriod(k), BAD);
        }
        due("leastPeriod of one removed", mixed().leastPeriod(1), BAD);
        due("leastPeriod of one never added", mixed().leastPeriod(4), BAD);
    }

    // ---- Promise 15

    private static void idleUnits() {
        sentence("Promise 15", "The number of the units 0 .. n - 1 .. that go to no task");
        for (int n = 0; n <= 60; n++) {
            due("idle(" + n + ") of none", new ResponseDesk().idle(n), n);
            due("idle(" + n + ") without a free unit", desk(1, 1, 1).idle(n), 0);
        }
        // Unit 1 is the last free one before 15.
        due("idle(1)", desk(1, 1, 15).idle(1), 0);
        due("idle(2)", desk(1, 1, 15).idle(2), 1);
        due("idle(60), all late", desk(2, 2, 3, 5, 14, 14).idle(60), 0);
    }

    private static void idleBelow0() {
        sentence("Promise 15", "n below 0 counts as 0");
        int[] below = {-1, -2, -15, -60, -61, MIN + 60, MIN + 1, MIN};
        for (int n : below) {
            due("idle(" + n + ") of none", new ResponseDesk().idle(n), 0);
            due("idle(" + n + ")", mixed().idle(n), 0);
        }
        due("idle(0) of none", new ResponseDesk().idle(0), 0);
    }

    private static void idleAbove60() {
        sentence("Promise 15", "above 60 as 60");
        // Its jobs come at 0, 7, .. 56, so units 57 to 62 are free.
        ResponseDesk x = desk(1, 1, 7);
        due("idle(59)", x.idle(59), 50);
        due("idle(60)", x.idle(60), 51);
        int[] above = {61, 62, 64, 75, 120, 256, 65536, MAX - 1, MAX};
        for (int n : above) {
            due("idle(" + n + ")", x.idle(n), 51);
            due("idle(" + n + ") of none", new ResponseDesk().idle(n), 60);
        }
    }

    // ---- Promise 16

    private static void fitsSomeOrder() {
        sentence("Promise 16", "could be added so that there would be a good order of all");
        // The only good order is the last of 120 in the dictionary order.
        ResponseDesk x = reversed();
        x.remove(4);
        due("fits(1, 1, 15)", x.fits(1, 1, 15), true);
        due("fits(2, 2, 15), one unit too much", x.fits(2, 2, 15), false);
        ResponseDesk y = easy(4);
        due("fits(11, 15, 15), all 15 units", y.fits(11, 15, 15), true);
        due("fits(12, 15, 15), one more", y.fits(12, 15, 15), false);
        due("fits(1, 15, 15), no good order before", hopeless().fits(1, 15, 15), false);
        dueUnchanged("fits that answers true", BoundaryTest::mixed, z -> z.fits(1, 15, 15) ? 1 : 0, 1);
        dueUnchanged("fits that answers false", BoundaryTest::mixed, z -> z.fits(15, 15, 15) ? 1 : 0, 0);
        ResponseDesk number = mixed();
        number.fits(1, 15, 15);
        due("add after fits", number.add(1, 15, 15), 1);
    }

    private static void fitsBad() {
        sentence("Promise 16", "false when add would answer BAD");
        for (int c = -2; c <= 18; c++) {
            for (int d = -2; d <= 18; d++) {
                for (int p = -2; p <= 18; p++) {
                    // Alone, every task that add takes is in time.
                    due("fits(" + c + ", " + d + ", " + p + ")", new ResponseDesk().fits(c, d, p), fair(c, d, p));
                }
            }
        }
        for (int[] v : UNFAIR) {
            String call = "fits(" + v[0] + ", " + v[1] + ", " + v[2] + ")";
            dueUnchanged(call, BoundaryTest::mixed, x -> x.fits(v[0], v[1], v[2]) ? 1 : 0, 0);
            dueUnchanged(call + " of five", BoundaryTest::reversed, x -> x.fits(v[0], v[1], v[2]) ? 1 : 0, 0);
        }
    }

    private static void fitsFull() {
        sentence("Promise 16", "false when add would answer .. FULL");
        dueUnchanged("fits of five", () -> easy(5), x -> x.fits(1, 15, 15) ? 1 : 0, 0);
        due("fits of four", easy(4).fits(1, 15, 15), true);
        ResponseDesk x = easy(5);
        x.remove(0);
        due("fits after remove", x.fits(1, 15, 15), true);
    }

    // ---- Promise 17

    private static void badBeforeFull() {
        sentence("Promise 17", "add: BAD is tested before FULL.");
        for (int[] v : UNFAIR) {
            String call = "add(" + v[0] + ", " + v[1] + ", " + v[2] + ") to five";
            dueUnchanged(call, () -> easy(5), x -> x.add(v[0], v[1], v[2]), BAD);
        }
        due("add(1, 1, 1) to five", easy(5).add(1, 1, 1), FULL);
    }

    private static final Runnable[] TESTS = {
        BoundaryTest::usedFor512Calls, BoundaryTest::atMostFiveTasks, BoundaryTest::orderFromTheMostUrgent,
        BoundaryTest::jobsReadyAtEachPeriod, BoundaryTest::needsItsCost, BoundaryTest::mostUrgentHasTheUnit,
        BoundaryTest::oldJobsKeepTheirWork, BoundaryTest::unitOfGettingReadyCounts, BoundaryTest::unitToNone,
        BoundaryTest::upToAndIncluding, BoundaryTest::responseAtMostItsPeriod, BoundaryTest::inTimeAtMostItsLimit,
        BoundaryTest::notInTimeWhenLate, BoundaryTest::goodWhenAllAreInTime, BoundaryTest::newObjectHasNoTasks,
        BoundaryTest::addsAsTheLeastUrgent, BoundaryTest::leastNumberThatNoneHas, BoundaryTest::addBad,
        BoundaryTest::addFull, BoundaryTest::removeKeepsTheOthersOrder, BoundaryTest::removeOfNone,
        BoundaryTest::placeKeepsTheOthersOrder, BoundaryTest::placeOfNoTask, BoundaryTest::placeAtNoPlace,
        BoundaryTest::tasksByBits, BoundaryTest::atNoPlace, BoundaryTest::responseOfNone, BoundaryTest::goodOfNone,
        BoundaryTest::inTimeByBits, BoundaryTest::goodOrdersOfNone, BoundaryTest::goodOrdersCounted,
        BoundaryTest::arrangeTheLeast, BoundaryTest::arrangeNone, BoundaryTest::lastInSomeGoodOrder,
        BoundaryTest::greatestCostUpToItsLimit, BoundaryTest::greatestCostElseAsItIs,
        BoundaryTest::greatestCostZero, BoundaryTest::greatestCostOfNone, BoundaryTest::leastPeriodFromItsLimit,
        BoundaryTest::leastPeriodUpTo15, BoundaryTest::leastPeriodElseAsItIs, BoundaryTest::leastPeriodZero,
        BoundaryTest::leastPeriodOfNone, BoundaryTest::idleUnits, BoundaryTest::idleBelow0,
        BoundaryTest::idleAbove60, BoundaryTest::fitsSomeOrder, BoundaryTest::fitsBad, BoundaryTest::fitsFull,
        BoundaryTest::badBeforeFull
    };

    private static void run(Runnable test) {
        try {
            test.run();
        } catch (RuntimeException thrown) {
            tell("threw " + thrown);
        }
    }

    public static void main(String[] args) {
        for (Runnable test : TESTS) {
            run(test);
        }
        System.out.println(sentences + " sentences, " + wrong + " answers that are not as due");
        if (wrong != 0) {
            System.exit(1);
        }
    }
}
