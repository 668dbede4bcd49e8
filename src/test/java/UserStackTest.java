/** Promises 6 and 7: room and user, with the operations 15 and 16. */
public final class UserStackTest {
    private static final Check CHECK = new Check("UserStackTest");

    public static void main(String[] args) {
        room();
        user();
        taking();
        CHECK.finish();
    }

    /** Puts v on stack s by a run: 1 if there was room. */
    private static int put(ZRoutines z, int routine, int s, int v) {
        Bodies.fill(z, routine, 0, v, 0, 15, s, 0, 11, 0, 0);
        return z.run(routine, 10);
    }

    private static int take(ZRoutines z, int routine, int s) {
        Bodies.fill(z, routine, 16, s, 0, 11, 0, 0);
        return z.run(routine, 10);
    }

    private static void room() {
        ZRoutines z = new ZRoutines();
        int r = z.routine(0);
        CHECK.due("room(0, 3)", z.room(0, 3), 0);
        for (int i = 0; i < 3; i++) {
            CHECK.due("put " + i, put(z, r, 0, i), 1);
        }
        CHECK.due("no room for a 4th", put(z, r, 0, 3), 0);
        CHECK.due("that one is not there", z.user(0, -1), 3);
        CHECK.due("the others' room", put(z, r, 1, 3), 0);
        CHECK.due("how many it had", z.room(0, 10), 3);
        CHECK.due("it is empty", z.user(0, -1), 0);
        CHECK.due("it was empty", z.room(0, 10), 0);
        for (int i = 0; i < 10; i++) {
            CHECK.due("put " + i, put(z, r, 0, i), 1);
        }
        CHECK.due("no room for an 11th", put(z, r, 0, 3), 0);
        int[][] wrong = {{-1, 1}, {4, 1}, {0, -1}, {0, 11}, {Integer.MIN_VALUE, 0},
            {0, Integer.MAX_VALUE}, {Integer.MAX_VALUE, Integer.MIN_VALUE}};
        for (int[] w : wrong) {
            CHECK.due("room(" + w[0] + ", " + w[1] + ")", z.room(w[0], w[1]), ZRoutines.BAD);
        }
        CHECK.due("refusals change nothing", z.user(0, -1), 10);
        CHECK.due("room(0, 0)", z.room(0, 0), 10);
        CHECK.due("no room", put(z, r, 0, 1), 0);
    }

    private static void user() {
        ZRoutines z = new ZRoutines();
        int r = z.routine(0);
        for (int s = 0; s < 4; s++) {
            z.room(s, 4);
            put(z, r, s, 10 * s);
            put(z, r, s, 10 * s + 1);
            put(z, r, s, -32768);
        }
        for (int s = 0; s < 4; s++) {
            CHECK.due("user(s, -1)", z.user(s, -1), 3);
            CHECK.due("user(s, 0)", z.user(s, 0), -32768);
            CHECK.due("user(s, 1)", z.user(s, 1), 10 * s + 1);
            CHECK.due("user(s, 2)", z.user(s, 2), 10 * s);
            CHECK.due("user(s, 3)", z.user(s, 3), ZRoutines.BAD);
        }
        int[] wrong = {-2, 10, Integer.MIN_VALUE, Integer.MAX_VALUE};
        for (int w : wrong) {
            CHECK.due("user(0, " + w + ")", z.user(0, w), ZRoutines.BAD);
            CHECK.due("user(" + w + ", -1)", z.user(w, -1), ZRoutines.BAD);
        }
        CHECK.due("user(4, -1)", z.user(4, -1), ZRoutines.BAD);
        CHECK.due("user(-1, -1)", z.user(-1, -1), ZRoutines.BAD);
    }

    private static void taking() {
        ZRoutines z = new ZRoutines();
        int r = z.routine(0);
        z.room(3, 2);
        put(z, r, 3, 5);
        put(z, r, 3, 6);
        CHECK.due("the top", take(z, r, 3), 6);
        CHECK.due("is taken", z.user(3, -1), 1);
        CHECK.due("the next", take(z, r, 3), 5);
        CHECK.due("empty", take(z, r, 3), Bodies.UNDER);
        CHECK.due("room again", put(z, r, 3, 7), 1);
        Bodies.fill(z, r, 0, 8, 0, 15, 3, 0, 18, 0, 0, 11, 0, 0);
        CHECK.due("a fault", z.run(r, 10), Bodies.UNDER);
        CHECK.due("what was put ahead of a fault is there", z.user(3, 0), 8);
        Bodies.fill(z, r, 16, 3, 0, 18, 0, 0, 9, 99, 0);
        CHECK.due("a fault", z.run(r, 10), Bodies.PLACE);
        CHECK.due("what was taken ahead of a fault is gone", z.user(3, 0), 7);
        Bodies.fill(z, r, 17, 0, 0, 16, 3, 0, 9, 0, 0);
        CHECK.due("a fault", z.run(r, 10), Bodies.UNDER);
        CHECK.due("what was not taken is there", z.user(3, 0), 7);
        Bodies.fill(z, r, 0, 1, 0, 14, 0, 0, 14, 0, 0, 14, 0, 0, 3, 0, 0, 3, 0, 0, 3, 0, 0, 15, 3, 0,
            11, 0, 0);
        CHECK.due("a reckoned one", z.run(r, 20), 1);
        CHECK.due("full, when the number had been put", put(z, r, 3, 1), 0);
    }
}
