/**
 * No call throws or fails to end, for any arguments in any state, and the same calls give the same answers
 * (rules 7 and 11 of LANGUAGE.md). Which answers are due is told by the other tests.
 */
public final class AnyCallTest {
    private static final int OBJECTS = 4000;
    private static final int MOST_CALLS = 512;
    private static final int KINDS = 15;
    private static final int MIN = Integer.MIN_VALUE;
    private static final int MAX = Integer.MAX_VALUE;
    private static final int[] FAR = {
        MIN, MIN + 1, MIN + 4, -65536, -61, -60, -33, -32, -16, -5, -2, -1, 5, 6, 16, 17, 31, 32, 33, 59, 60, 61, 64,
        255, 256, 65536, MAX - 15, MAX - 1, MAX
    };
    private static long draw = 20261116L;

    private static int pick(int howMany) {
        draw = draw * 6364136223846793005L + 1442695040888963407L;
        return (int) ((draw >>> 33) % howMany);
    }

    /** Mostly numbers that are taken, so that the states differ; the others are as far off as can be. */
    private static int argument(int below) {
        return pick(4) == 0 ? FAR[pick(FAR.length)] : pick(below);
    }

    /** The kind of call, then its arguments; numbers for a task come in the order that add takes. */
    private static int[] drawCall() {
        int kind = pick(KINDS);
        if (kind < 2 && pick(3) > 0) {
            int p = 1 + pick(15);
            int d = 1 + pick(p);
            return new int[] {kind, 1 + pick(d), d, p};
        }
        int below = kind < 2 ? 16 : 5;
        return new int[] {kind, argument(below), argument(below), argument(below)};
    }

    private static int number(boolean answer) {
        return answer ? 1 : 0;
    }

    private static int answer(ResponseDesk x, int[] call) {
        switch (call[0]) {
            case 0: return x.add(call[1], call[2], call[3]);
            case 1: return number(x.fits(call[1], call[2], call[3]));
            case 2: return number(x.remove(call[1]));
            case 3: return number(x.place(call[1], call[2]));
            case 4: return x.tasks();
            case 5: return x.at(call[1]);
            case 6: return x.response(call[1]);
            case 7: return number(x.good());
            case 8: return x.inTime();
            case 9: return x.goodOrders();
            case 10: return number(x.arrange());
            case 11: return x.canBeLast();
            case 12: return x.greatestCost(call[1]);
            case 13: return x.leastPeriod(call[1]);
            default: return x.idle(call[1]);
        }
    }

    private static String told(int[] call) {
        return "kind " + call[0] + " (" + call[1] + ", " + call[2] + ", " + call[3] + ")";
    }

    /** Two objects are asked the same, one call after the other, and a third one is used in between. */
    private static boolean run(ResponseDesk between) {
        ResponseDesk one = new ResponseDesk();
        ResponseDesk other = new ResponseDesk();
        for (int n = 1; n <= MOST_CALLS; n++) {
            int[] call = drawCall();
            try {
                int first = answer(one, call);
                answer(between, drawCall());
                int second = answer(other, call);
                if (first != second) {
                    System.out.println(told(call) + " answered " + first + " and " + second + ", call " + n);
                    return false;
                }
            } catch (RuntimeException thrown) {
                System.out.println(told(call) + " threw " + thrown + ", call " + n);
                return false;
            }
        }
        return true;
    }

    public static void main(String[] args) {
        for (int o = 0; o < OBJECTS; o++) {
            if (!run(new ResponseDesk())) {
                System.exit(1);
            }
        }
        System.out.println("no call threw, and the same calls gave the same answers");
    }
}
