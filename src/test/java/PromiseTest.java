/** For each promise: ordinary inputs, the document's edges, and wrong inputs; answers worked out by hand. */
public final class PromiseTest {
    private static final int MIN = Integer.MIN_VALUE;
    private static final int MAX = Integer.MAX_VALUE;
    private static final int[] NO_NUMBERS = {-1, 5, 6, 31, 32, 33, 64, MIN, MAX};
    private static int wrong = 0;

    private static void due(String call, int got, int want) {
        if (got != want) {
            wrong++;
            System.out.println(call + " answered " + got + ", due is " + want);
        }
    }

    private static void due(String call, boolean got, boolean want) {
        due(call, got ? 1 : 0, want ? 1 : 0);
    }

    private static void dueOrder(String where, ResponseDesk x, int... tasks) {
        int bits = 0;
        for (int i = 0; i < tasks.length; i++) {
            due(where + ": at(" + i + ")", x.at(i), tasks[i]);
            bits |= 1 << tasks[i];
        }
        due(where + ": at past the end", x.at(tasks.length), ResponseDesk.BAD);
        due(where + ": tasks()", x.tasks(), bits);
    }

    private static ResponseDesk desk(int... numbers) {
        ResponseDesk x = new ResponseDesk();
        for (int i = 0; i < numbers.length; i += 3) {
            due("add for a desk", x.add(numbers[i], numbers[i + 1], numbers[i + 2]), i / 3);
        }
        return x;
    }

    private static ResponseDesk fullDesk() {
        return desk(1, 15, 15, 1, 15, 15, 1, 15, 15, 1, 15, 15, 1, 15, 15);
    }

    private static void promise1NewObject() {
        due("BAD", ResponseDesk.BAD, -1);
        due("FULL", ResponseDesk.FULL, -2);
        due("LATE", ResponseDesk.LATE, -3);
        dueOrder("new", new ResponseDesk());
        ResponseDesk used = desk(1, 2, 3);
        dueOrder("new beside a used one", new ResponseDesk());
        dueOrder("used", used, 0);
    }

    private static void promise2Add() {
        ResponseDesk x = new ResponseDesk();
        int[][] bad = {
            {0, 1, 1}, {-1, 1, 1}, {MIN, 1, 1}, {2, 1, 2}, {1, 2, 1}, {1, 1, 16}, {1, 16, 16}, {16, 16, 16},
            {1, 0, 1}, {1, 1, 0}, {1, 1, MAX}, {MAX, MAX, MAX}, {MIN, MIN, MIN}, {0, 0, 0}, {15, 14, 15}, {3, 15, 14}
        };
        for (int[] b : bad) {
            due("add(" + b[0] + ", " + b[1] + ", " + b[2] + ")", x.add(b[0], b[1], b[2]), ResponseDesk.BAD);
        }
        dueOrder("after bad adds", x);
        due("add(1, 1, 1)", x.add(1, 1, 1), 0);
        due("add(15, 15, 15)", x.add(15, 15, 15), 1);
        due("add(1, 1, 15)", x.add(1, 1, 15), 2);
        due("add(1, 15, 15)", x.add(1, 15, 15), 3);
        due("add(2, 3, 4)", x.add(2, 3, 4), 4);
        dueOrder("five added", x, 0, 1, 2, 3, 4);
        due("sixth add", x.add(1, 1, 1), ResponseDesk.FULL);
        dueOrder("after FULL", x, 0, 1, 2, 3, 4);
        x.remove(3);
        x.remove(1);
        due("add with 1 and 3 free", x.add(1, 1, 1), 1);
        dueOrder("least number, least urgent", x, 0, 2, 4, 1);
        due("add with 3 free", x.add(1, 1, 1), 3);
        dueOrder("full again", x, 0, 2, 4, 1, 3);
    }

    private static void promise3Remove() {
        ResponseDesk x = fullDesk();
        x.place(4, 0);
        for (int k : NO_NUMBERS) {
            due("remove(" + k + ")", x.remove(k), false);
        }
        dueOrder("after wrong removes", x, 4, 0, 1, 2, 3);
        due("remove(1)", x.remove(1), true);
        dueOrder("middle gone", x, 4, 0, 2, 3);
        due("remove(1) again", x.remove(1), false);
        dueOrder("nothing changed", x, 4, 0, 2, 3);
        due("remove(4)", x.remove(4), true);
        dueOrder("first gone", x, 0, 2, 3);
        due("remove(3)", x.remove(3), true);
        dueOrder("last gone", x, 0, 2);
        due("remove(0)", x.remove(0), true);
        due("remove(2)", x.remove(2), true);
        dueOrder("all gone", x);

        ResponseDesk y = desk(2, 4, 4, 2, 4, 8);
        y.remove(0);
        due("response without the other", y.response(1), 2);
        due("idle without the other", y.idle(8), 6);
        y.add(1, 1, 8);
        due("response of the new task 0", y.response(0), 3);
    }

    private static void promise4Place() {
        ResponseDesk x = fullDesk();
        for (int k : NO_NUMBERS) {
            due("place(" + k + ", 0)", x.place(k, 0), false);
            due("place(0, " + k + ")", x.place(0, k), false);
        }
        dueOrder("after wrong places", x, 0, 1, 2, 3, 4);
        due("place(0, 4)", x.place(0, 4), true);
        dueOrder("to the end", x, 1, 2, 3, 4, 0);
        due("place(4, 0)", x.place(4, 0), true);
        dueOrder("to the front", x, 4, 1, 2, 3, 0);
        due("place(1, 3)", x.place(1, 3), true);
        dueOrder("down", x, 4, 2, 3, 1, 0);
        due("place(1, 1)", x.place(1, 1), true);
        dueOrder("up", x, 4, 1, 2, 3, 0);
        due("place(2, 2)", x.place(2, 2), true);
        dueOrder("where it is", x, 4, 1, 2, 3, 0);
        x.remove(1);
        due("place of a removed task", x.place(1, 0), false);
        due("place past the last", x.place(0, 4), false);
        dueOrder("nothing changed", x, 4, 2, 3, 0);
        due("place(4, 3)", x.place(4, 3), true);
        dueOrder("last place of four", x, 2, 3, 0, 4);
    }

    private static void promise5Tasks() {
        ResponseDesk x = new ResponseDesk();
        due("tasks() of none", x.tasks(), 0);
        for (int k = 0; k < 5; k++) {
            x.add(1, 1, 1);
            due("tasks() of " + (k + 1), x.tasks(), (2 << k) - 1);
        }
        x.place(4, 0);
        due("tasks() in another order", x.tasks(), 31);
        x.remove(2);
        due("tasks() without 2", x.tasks(), 27);
        x.remove(0);
        due("tasks() without 0 and 2", x.tasks(), 26);
    }

    private static void promise6At() {
        ResponseDesk x = fullDesk();
        for (int i : NO_NUMBERS) {
            due("at(" + i + ")", x.at(i), ResponseDesk.BAD);
        }
        due("at(4)", x.at(4), 4);
        x.remove(0);
        due("at(0) without 0", x.at(0), 1);
        due("at(4) without 0", x.at(4), ResponseDesk.BAD);
        due("at(3) without 0", x.at(3), 4);
    }

    private static void promise7Response() {
        ResponseDesk x = desk(1, 4, 4, 2, 6, 6, 3, 10, 12);
        due("most urgent", x.response(0), 1);
        due("second", x.response(1), 3);
        due("hindered again and again", x.response(2), 10);
        for (int k : NO_NUMBERS) {
            due("response(" + k + ")", x.response(k), ResponseDesk.BAD);
        }
        due("response(3)", x.response(3), ResponseDesk.BAD);

        ResponseDesk y = desk(2, 2, 4, 2, 2, 4, 1, 1, 15);
        due("over the limit, at the period", y.response(1), 4);
        due("never", y.response(2), ResponseDesk.LATE);

        // Task 1 gets units 3 and 4, but its period ends with unit 3.
        ResponseDesk z = desk(3, 5, 5, 2, 4, 4);
        due("one over the period", z.response(1), ResponseDesk.LATE);
        // Task 1 has units 0, 1, 4 and 5 now, so task 0 has 2, 3 and 6.
        z.place(1, 0);
        due("the other way round", z.response(0), ResponseDesk.LATE);

        // Task 0 has 0-3 and 8-11; task 1 has 4 and 5, too late, then 6, 7, 12 and 13; task 2 gets 14.
        ResponseDesk w = desk(4, 4, 8, 2, 5, 5, 1, 15, 15);
        due("done in the unit after the period", w.response(1), ResponseDesk.LATE);
        due("behind a late one, whose work stays", w.response(2), 15);

        // Task 0 has 0-2, 5-7 and 10-12, task 1 all else.
        ResponseDesk v = desk(3, 3, 5, 2, 4, 4, 1, 15, 15);
        due("behind a late one, without end", v.response(2), ResponseDesk.LATE);

        due("whole period alone", desk(15, 15, 15).response(0), 15);
        // Task 0 has units 0-6, task 1 has 7-13, task 2 has 14.
        ResponseDesk s = desk(7, 15, 15, 7, 15, 15, 1, 15, 15);
        due("the last unit that counts", s.response(2), 15);
        s.add(1, 15, 15);
        due("past the last unit", s.response(3), ResponseDesk.LATE);
    }

    private static void promise8Good() {
        due("good() of none", new ResponseDesk().good(), true);
        ResponseDesk x = desk(3, 3, 9, 3, 6, 9, 3, 9, 9);
        due("all at their limits", x.good(), true);
        x.place(2, 1);
        due("one over its limit", x.good(), false);
        x.remove(1);
        due("without that one", x.good(), true);
        x.place(2, 0);
        due("least urgent over its limit", x.good(), false);
        due("one that is LATE", desk(1, 1, 1, 1, 15, 15).good(), false);
    }

    private static void promise9InTime() {
        due("inTime() of none", new ResponseDesk().inTime(), 0);
        ResponseDesk x = desk(3, 3, 9, 3, 6, 9, 3, 9, 9);
        due("all", x.inTime(), 7);
        x.place(2, 0);
        due("response at most p, over d", x.inTime(), 4);
        x.place(0, 0);
        due("0, 2, 1", x.inTime(), 5);
        due("a LATE one", desk(1, 1, 1, 1, 15, 15).inTime(), 1);
        due("a later one in time", desk(2, 5, 5, 2, 3, 10, 1, 5, 10).inTime(), 5);
    }

    private static void promise10GoodOrders() {
        due("goodOrders() of none", new ResponseDesk().goodOrders(), 1);
        due("one task", desk(1, 1, 1).goodOrders(), 1);
        due("five easy tasks", fullDesk().goodOrders(), 120);
        due("one only", desk(3, 9, 9, 3, 6, 9, 3, 3, 9).goodOrders(), 1);
        due("none", desk(1, 1, 2, 1, 1, 2).goodOrders(), 0);
        // Task 0 must be first, the others are free.
        ResponseDesk x = desk(1, 1, 15, 1, 15, 15, 1, 15, 15, 1, 15, 15, 1, 15, 15);
        due("first one fixed", x.goodOrders(), 24);
        x.place(0, 4);
        due("whatever the order is", x.goodOrders(), 24);
        dueOrder("goodOrders changes nothing", x, 1, 2, 3, 4, 0);
        x.remove(0);
        due("numbers with a gap", x.goodOrders(), 24);
        x.remove(3);
        due("three tasks", x.goodOrders(), 6);
    }

    private static void promise11Arrange() {
        ResponseDesk none = new ResponseDesk();
        due("arrange() of none", none.arrange(), true);
        dueOrder("none arranged", none);

        ResponseDesk x = desk(3, 9, 9, 3, 6, 9, 3, 3, 9);
        due("arrange()", x.arrange(), true);
        dueOrder("the only one", x, 2, 1, 0);

        ResponseDesk y = fullDesk();
        y.place(0, 4);
        y.place(3, 0);
        due("arrange() a good order", y.arrange(), true);
        dueOrder("a good order gives way to the least", y, 0, 1, 2, 3, 4);

        ResponseDesk z = desk(1, 15, 15, 1, 15, 15, 1, 15, 15, 1, 1, 15, 1, 3, 15);
        z.remove(1);
        due("arrange() with a gap", z.arrange(), true);
        dueOrder("least in the dictionary order", z, 3, 0, 4, 2);

        ResponseDesk w = desk(1, 15, 15, 1, 1, 2, 1, 1, 2);
        w.place(2, 0);
        due("arrange() without a good order", w.arrange(), false);
        dueOrder("nothing changed", w, 2, 0, 1);
    }

    private static void promise12CanBeLast() {
        due("canBeLast() of none", new ResponseDesk().canBeLast(), 0);
        due("one task", desk(1, 1, 1).canBeLast(), 1);
        due("five easy tasks", fullDesk().canBeLast(), 31);
        due("no good order", desk(1, 1, 2, 1, 1, 2).canBeLast(), 0);
        ResponseDesk x = desk(1, 15, 15, 1, 2, 15, 1, 15, 15, 1, 1, 15);
        due("two of four", x.canBeLast(), 5);
        dueOrder("canBeLast changes nothing", x, 0, 1, 2, 3);
        // Task 2 would be in time as the last one, but no order of 0 and 1 is good.
        due("in time, but in no good order", desk(1, 1, 15, 1, 1, 15, 1, 15, 15).canBeLast(), 0);
    }

    private static void promise13GreatestCost() {
        ResponseDesk x = desk(1, 3, 9, 3, 6, 9, 1, 9, 9);
        due("up to its limit", x.greatestCost(0), 3);
        due("held by its own limit", x.greatestCost(1), 5);
        due("the last one", x.greatestCost(2), 5);
        due("cost stays: response", x.response(2), 5);
        due("cost stays: idle", x.idle(9), 4);
        for (int k : NO_NUMBERS) {
            due("greatestCost(" + k + ")", x.greatestCost(k), ResponseDesk.BAD);
        }
        due("greatestCost(3)", x.greatestCost(3), ResponseDesk.BAD);

        due("alone", desk(1, 15, 15).greatestCost(0), 15);
        due("below its cost", desk(5, 5, 10, 5, 6, 10).greatestCost(0), 1);
        due("another one is never in time", desk(1, 1, 10, 1, 1, 10).greatestCost(0), 0);
        ResponseDesk y = desk(1, 1, 1, 1, 15, 15);
        due("no room at all", y.greatestCost(1), 0);
        due("not even with 1", y.greatestCost(0), 0);
        due("this order alone counts", desk(1, 15, 15, 1, 1, 15).greatestCost(0), 0);
    }

    private static void promise14LeastPeriod() {
        ResponseDesk x = desk(3, 3, 9, 3, 9, 9);
        // With period 5 task 0 has units 0-2 and 5-7, task 1 has 3, 4 and 8.
        due("least for the other one", x.leastPeriod(0), 5);
        due("down to its limit", x.leastPeriod(1), 9);
        due("period stays: idle", x.idle(9), 3);
        due("period stays: response", x.response(1), 6);
        for (int k : NO_NUMBERS) {
            due("leastPeriod(" + k + ")", x.leastPeriod(k), ResponseDesk.BAD);
        }
        due("leastPeriod(2)", x.leastPeriod(2), ResponseDesk.BAD);

        due("alone", desk(1, 1, 15).leastPeriod(0), 1);
        due("alone, at 15", desk(1, 15, 15).leastPeriod(0), 15);
        // Task 1 fills what is left of 15 units, so task 0 can come once only.
        due("15 is the least", desk(1, 1, 2, 14, 15, 15).leastPeriod(0), 15);
        due("above its period", desk(2, 2, 2, 1, 3, 3).leastPeriod(0), 3);
        due("none up to 15", desk(1, 1, 2, 15, 15, 15).leastPeriod(0), 0);
        due("its own limit missed", desk(1, 1, 2, 1, 1, 2).leastPeriod(1), 0);
    }

    private static void promise15Idle() {
        ResponseDesk none = new ResponseDesk();
        due("idle(0) of none", none.idle(0), 0);
        due("idle(1) of none", none.idle(1), 1);
        due("idle(59) of none", none.idle(59), 59);
        due("idle(60) of none", none.idle(60), 60);
        due("idle(61) of none", none.idle(61), 60);
        due("idle(MAX) of none", none.idle(MAX), 60);
        due("idle(-1) of none", none.idle(-1), 0);
        due("idle(MIN) of none", none.idle(MIN), 0);

        ResponseDesk x = desk(1, 4, 4, 2, 6, 6);
        // Units 0-2, 4, 6, 7, 8 are used; 3, 5, 9, 10, 11 aren't.
        due("idle(3)", x.idle(3), 0);
        due("idle(4)", x.idle(4), 1);
        due("idle(9)", x.idle(9), 2);
        due("idle(12)", x.idle(12), 5);
        due("idle(60)", x.idle(60), 25);
        due("idle(100)", x.idle(100), 25);
        x.place(1, 0);
        due("idle(12) in another order", x.idle(12), 5);
        x.remove(0);
        due("idle(6) of one", x.idle(6), 4);

        due("too much work", desk(1, 1, 1, 15, 15, 15).idle(60), 0);
        // Task 0 has 0-3 and 8-11, task 1 4-7, 12 and 13, though its first job is done after unit 5 began.
        due("late work is not lost", desk(4, 4, 8, 2, 5, 5).idle(15), 1);
        due("work that is never caught up", desk(2, 2, 3, 5, 14, 14).idle(60), 0);
    }

    private static void promise16Fits() {
        ResponseDesk x = desk(3, 9, 9, 3, 3, 9);
        due("in the middle", x.fits(3, 6, 9), true);
        dueOrder("fits changes nothing", x, 0, 1);
        due("as fits, so add", x.add(3, 6, 9), 2);
        due("then good", x.goodOrders(), 1);
        due("no room left", x.fits(1, 15, 15), false);
        dueOrder("nor when it answers false", x, 0, 1, 2);

        ResponseDesk none = new ResponseDesk();
        due("alone, greatest", none.fits(15, 15, 15), true);
        due("alone, least", none.fits(1, 1, 1), true);
        due("c is 0", none.fits(0, 1, 1), false);
        due("c over d", none.fits(2, 1, 2), false);
        due("d over p", none.fits(1, 2, 1), false);
        due("p over 15", none.fits(1, 1, 16), false);
        due("far too much", none.fits(MAX, MAX, MAX), false);
        due("far too little", none.fits(MIN, MIN, MIN), false);
        dueOrder("still none", none);

        ResponseDesk y = fullDesk();
        due("full", y.fits(1, 15, 15), false);
        y.remove(2);
        due("a fifth", y.fits(11, 15, 15), true);
        due("a fifth too great", y.fits(12, 15, 15), false);
        due("most urgent of all", y.fits(1, 1, 15), true);
        dueOrder("four of them", y, 0, 1, 3, 4);
        due("add after fits", y.add(1, 1, 1), 2);

        ResponseDesk z = desk(1, 1, 2, 1, 1, 2);
        due("no good order before", z.fits(1, 15, 15), false);
    }

    private static void promise17OrderAndLimits() {
        ResponseDesk x = fullDesk();
        due("BAD before FULL: c", x.add(0, 1, 1), ResponseDesk.BAD);
        due("BAD before FULL: d", x.add(3, 2, 5), ResponseDesk.BAD);
        due("BAD before FULL: p", x.add(1, 3, 2), ResponseDesk.BAD);
        due("BAD before FULL: p over 15", x.add(1, 1, 16), ResponseDesk.BAD);
        due("FULL", x.add(1, 1, 15), ResponseDesk.FULL);
        dueOrder("nothing added", x, 0, 1, 2, 3, 4);
    }

    public static void main(String[] args) {
        promise1NewObject();
        promise2Add();
        promise3Remove();
        promise4Place();
        promise5Tasks();
        promise6At();
        promise7Response();
        promise8Good();
        promise9InTime();
        promise10GoodOrders();
        promise11Arrange();
        promise12CanBeLast();
        promise13GreatestCost();
        promise14LeastPeriod();
        promise15Idle();
        promise16Fits();
        promise17OrderAndLimits();
        System.out.println(wrong == 0 ? "all answers are as due" : wrong + " answers are not as due");
        if (wrong != 0) {
            System.exit(1);
        }
    }
}
