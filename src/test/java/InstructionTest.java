/** Promise 10: what runs come to, operation by operation, where nothing goes wrong. */
public final class InstructionTest {
    private static final Check CHECK = new Check("InstructionTest");

    public static void main(String[] args) {
        refusals();
        reckoning();
        jumps();
        stacks();
        calls();
        unwinding();
        CHECK.finish();
    }

    private static void refusals() {
        ZRoutines z = new ZRoutines();
        int r = Bodies.make(z, 0, 0, 3, 0, 11, 0, 0);
        CHECK.due("run", z.run(r, 2), 3);
        int[][] wrong = {{-1, 5}, {1, 5}, {20, 5}, {0, -1}, {0, 2001}, {Integer.MIN_VALUE, 0},
            {0, Integer.MIN_VALUE}, {0, Integer.MAX_VALUE}, {Integer.MAX_VALUE, 0}};
        for (int[] w : wrong) {
            CHECK.due("run(" + w[0] + ", " + w[1] + ")", z.run(w[0], w[1]), ZRoutines.BAD);
        }
        CHECK.dueTold("the latest run stays", z, 1, 0, 0, 0, 0, 2, 0, 1);
        CHECK.due("run", z.run(r, 2000), 3);
    }

    private static int reckoned(int op, int y, int x) {
        return Bodies.outcome(0, y, 0, 0, x, 0, op, 0, 0, 11, 0, 0);
    }

    private static void reckoning() {
        int[] some = {-32768, -32767, -300, -7, -2, -1, 0, 1, 2, 3, 7, 299, 32766, 32767};
        for (int y : some) {
            for (int x : some) {
                CHECK.due(y + " + " + x, reckoned(3, y, x), (short) (y + x));
                CHECK.due(y + " - " + x, reckoned(4, y, x), (short) (y - x));
                CHECK.due(y + " * " + x, reckoned(5, y, x), (short) (y * x));
                CHECK.due(y + " by " + x, reckoned(6, y, x), x == 0 ? Bodies.ZERO : (short) (y / x));
                CHECK.due(y + " left by " + x, reckoned(7, y, x), x == 0 ? Bodies.ZERO : (short) (y % x));
                CHECK.due(y + " below " + x, reckoned(19, y, x), y < x ? 1 : 0);
            }
        }
        int[] twos = {3, 4, 5, 6, 7, 19};
        for (int op : twos) {
            CHECK.due("what lies below the operands of " + op,
                Bodies.outcome(0, 100, 0, 0, 9, 0, 0, 4, 0, op, 0, 0, 18, 0, 0, 11, 0, 0), 100);
        }
        CHECK.due("7 by -2", reckoned(6, 7, -2), -3);
        CHECK.due("left of -7 by 2", reckoned(7, -7, 2), -1);
        CHECK.due("-32768 by -1", reckoned(6, -32768, -1), -32768);
        CHECK.due("left of -32768 by -1", reckoned(7, -32768, -1), 0);
    }

    private static void jumps() {
        CHECK.due("8 with 0", Bodies.outcome(0, 0, 0, 8, 4, 0, 0, 1, 0, 11, 0, 0, 0, 2, 0, 11, 0, 0), 2);
        CHECK.due("8 with 5", Bodies.outcome(0, 5, 0, 8, 4, 0, 0, 1, 0, 11, 0, 0, 0, 2, 0, 11, 0, 0), 1);
        CHECK.due("8 with no such place, not gone to", Bodies.outcome(0, 5, 0, 8, -9, 0, 0, 1, 0, 11, 0, 0), 1);
        CHECK.due("8 takes the top", Bodies.outcome(0, 6, 0, 0, 5, 0, 8, 0, 0, 11, 0, 0), 6);
        CHECK.due("9", Bodies.outcome(9, 3, 0, 0, 1, 0, 11, 0, 0, 0, 2, 0, 11, 0, 0), 2);
        CHECK.due("9 back", Bodies.outcome(9, 3, 0, 0, 1, 0, 11, 0, 0, 9, 1, 0), 1);
        ZRoutines z = new ZRoutines();
        int r = Bodies.make(z, 2, 1, 0, 0, 8, 11, 0, 1, 1, 0, 1, 0, 0, 3, 0, 0, 2, 1, 0, 1, 0, 0,
            0, 1, 0, 4, 0, 0, 2, 0, 0, 9, 0, 0, 1, 1, 0, 11, 0, 0);
        z.give(10);
        CHECK.due("a loop", z.run(r, 2000), 55);
        CHECK.due("its steps", z.told(5), 10 * 11 + 4);
    }

    private static void stacks() {
        CHECK.due("17", Bodies.outcome(0, 6, 0, 17, 0, 0, 5, 0, 0, 11, 0, 0), 36);
        CHECK.due("18", Bodies.outcome(0, 6, 0, 0, 7, 0, 18, 0, 0, 11, 0, 0), 6);
        ZRoutines z = new ZRoutines();
        int r = Bodies.make(z, 15, 0, 6, 0, 0, 7, 0, 2, 14, 0, 1, 14, 0, 4, 0, 0, 11, 0, 0);
        CHECK.due("2 takes the top", z.run(r, 9), -1);
        int sixty = Bodies.make(z, 1, 0, 1, 0, 1, 0, 0, 0, 1, 0, 3, 0, 0, 2, 0, 0, 1, 0, 0, 0, 60, 0,
            4, 0, 0, 8, 10, 0, 9, 0, 0, 11, 0, 0);
        CHECK.due("58 numbers and two more to reckon, then a 61st", z.run(sixty, 2000), Bodies.FULL);
        Bodies.fill(z, sixty, 0, 1, 0, 1, 0, 0, 0, 1, 0, 3, 0, 0, 2, 0, 0, 1, 0, 0, 0, 58, 0,
            4, 0, 0, 8, 10, 0, 9, 0, 0, 0, 7, 0, 0, 8, 0, 11, 0, 0);
        CHECK.due("60 numbers", z.run(sixty, 2000), 8);
    }

    private static void calls() {
        ZRoutines z = new ZRoutines();
        int fact = Bodies.make(z, 1, 1, 0, 0, 8, 8, 0, 1, 0, 0, 1, 0, 0, 0, 1, 0, 4, 0, 0, 10, 0, 1, 9, 10, 0,
            0, 1, 0, 11, 0, 0, 5, 0, 0, 11, 0, 0);
        z.give(7);
        CHECK.due("7!", z.run(fact, 2000), 5040);
        CHECK.due("most frames", z.told(7), 8);
        z.give(24);
        CHECK.due("24! wraps to 0", z.run(fact, 2000), 0);
        CHECK.due("most frames", z.told(7), 25);
        z.give(25);
        CHECK.due("a 26th frame", z.run(fact, 2000), Bodies.DEEP);
        CHECK.due("most frames", z.told(7), 25);
        int number = Bodies.make(z, 0, 12, 0, 0, 11, 0, 0);
        int two = Bodies.make(z, 0, 12, 0, 0, 0, 10, 0, 5, 0, 0, 10, number, 0, 3, 0, 0, 11, 0, 0);
        int three = Bodies.make(z, 0, 12, 0, 0, 0, 100, 0, 5, 0, 0, 10, two, 0, 3, 0, 0, 11, 0, 0);
        CHECK.due("numbers of frames", z.run(three, 99), 123);
        CHECK.due("and of another run", z.run(two, 99), 12);
        int messy = Bodies.make(z, 0, 0, 1, 0, 0, 2, 0, 0, 3, 0, 11, 0, 0);
        int tidy = Bodies.make(z, 0, 0, 9, 0, 10, messy, 0, 18, 0, 0, 11, 0, 0);
        CHECK.due("what a frame leaves on its stack is gone", z.run(tidy, 99), 9);
        z.clear(tidy);
        int fifteen = z.routine(15);
        Bodies.fill(z, fifteen, 1, 0, 0, 1, 14, 0, 4, 0, 0, 11, 0, 0);
        for (int i = 0; i < 15; i++) {
            z.add(tidy, 0, i * i, 0);
        }
        z.add(tidy, 10, fifteen, 15);
        z.add(tidy, 11, 0, 0);
        CHECK.due("15 given", z.run(tidy, 99), -196);
    }

    private static void unwinding() {
        ZRoutines z = new ZRoutines();
        int deep = z.routine(1);
        int middle = Bodies.make(z, 1, 1, 0, 0, 10, deep, 1, 0, 1000, 0, 3, 0, 0, 11, 0, 0);
        int outer = Bodies.make(z, 1, 0, 5, 0, 1, 0, 0, 10, middle, 1, 3, 0, 0, 11, 0, 0);
        Bodies.fill(z, deep, 1, 0, 0, 0, 40, 0, 13, 0, 0);
        z.give(3);
        CHECK.due("to this frame", z.run(outer, 99), 1045);
        z.give(2);
        CHECK.due("to the one around it", z.run(outer, 99), 45);
        z.give(1);
        CHECK.due("to the first", z.run(outer, 99), 40);
        CHECK.dueTold("to the first", z, 1, 0, 0, 0, 0, 8, 0, 3);
        int[] gone = {0, 4, -1, -32768, 32767, 25};
        for (int n : gone) {
            z.give(n);
            CHECK.due("to " + n, z.run(outer, 99), Bodies.GONE);
            CHECK.dueTold("to " + n, z, 3, 5, deep, 2, 3, 8, 0, 3);
        }
        CHECK.due("of one frame", Bodies.outcome(0, 1, 0, 0, -3, 0, 13, 0, 0), -3);
        int late = Bodies.make(z, 0, 10, deep, 0, 18, 0, 0, 0, 2, 0, 0, 1, 0, 13, 0, 0);
        Bodies.fill(z, deep, 12, 0, 0, 11, 0, 0);
        CHECK.due("a closed frame is gone", z.run(late, 99), Bodies.GONE);
        CHECK.dueTold("a closed frame is gone", z, 3, 5, late, 4, 1, 7, 0, 2);
    }
}
