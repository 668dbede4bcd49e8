/** Promise 9: give; with the operation 14 and what calls are given. */
public final class GiveTest {
    private static final Check CHECK = new Check("GiveTest");

    public static void main(String[] args) {
        toRuns();
        fullAndRefused();
        toCalls();
        CHECK.finish();
    }

    private static void toRuns() {
        ZRoutines z = new ZRoutines();
        int r = Bodies.make(z, 3, 1, 0, 0, 0, 100, 0, 5, 0, 0, 1, 1, 0, 0, 10, 0, 5, 0, 0, 3, 0, 0,
            1, 2, 0, 3, 0, 0, 11, 0, 0);
        z.first(r, 0, 1);
        z.first(r, 1, 2);
        z.first(r, 2, 3);
        CHECK.due("nothing given", z.run(r, 99), 123);
        CHECK.due("give(7)", z.give(7), 1);
        CHECK.due("one given", z.run(r, 99), 723);
        CHECK.due("it goes", z.run(r, 99), 123);
        for (int i = 0; i < 5; i++) {
            CHECK.due("give", z.give(4 + i), i + 1);
        }
        CHECK.due("more than locals are lost", z.run(r, 99), 456);
        Bodies.fill(z, r, 1, 0, 0, 11, 0, 0);
        int[][] wraps = {{32768, -32768}, {-32769, 32767}, {65537, 1}, {Integer.MIN_VALUE, 0},
            {Integer.MAX_VALUE, -1}, {-40000, 25536}};
        for (int[] w : wraps) {
            CHECK.due("give(" + w[0] + ")", z.give(w[0]), 1);
            CHECK.due("what " + w[0] + " is", z.run(r, 9), w[1]);
        }
    }

    private static void fullAndRefused() {
        ZRoutines z = new ZRoutines();
        int r = Bodies.make(z, 15, 1, 14, 0, 11, 0, 0);
        int none = Bodies.make(z, 0, 14, 0, 0, 11, 0, 0);
        for (int i = 0; i < 15; i++) {
            CHECK.due("give", z.give(50 + i), i + 1);
        }
        CHECK.due("a 16th", z.give(1), ZRoutines.FULL);
        CHECK.due("BAD", z.run(99, 9), ZRoutines.BAD);
        CHECK.due("BAD", z.run(r, -1), ZRoutines.BAD);
        CHECK.due("BAD", z.run(r, 2001), ZRoutines.BAD);
        CHECK.due("still given, refused runs take nothing", z.give(1), ZRoutines.FULL);
        CHECK.due("the last local", z.run(r, 9), 64);
        CHECK.due("gone", z.give(1), 1);
        z.give(2);
        CHECK.due("all that were given count, the lost too", z.run(none, 9), 2);
        CHECK.due("none", z.run(none, 9), 0);
        z.give(3);
        CHECK.due("a run with a fault", z.run(none, 0), Bodies.FUEL);
        CHECK.due("takes them too", z.run(none, 9), 0);
    }

    private static void toCalls() {
        ZRoutines z = new ZRoutines();
        int caller = Bodies.make(z, 0, 0, 9, 0, 0, 1, 0, 0, 2, 0, 0, 3, 0, 10, 1, 3, 11, 0, 0);
        int called = Bodies.make(z, 3, 1, 0, 0, 0, 100, 0, 5, 0, 0, 1, 1, 0, 0, 10, 0, 5, 0, 0, 3, 0, 0,
            1, 2, 0, 3, 0, 0, 11, 0, 0);
        CHECK.due("the lowest is the first", z.run(caller, 99), 123);
        Bodies.fill(z, caller, 0, 9, 0, 0, 1, 0, 0, 2, 0, 0, 3, 0, 10, 1, 3, 3, 0, 0, 11, 0, 0);
        CHECK.due("what it comes to lies on what was left", z.run(caller, 99), 132);
        z.first(called, 1, 8);
        Bodies.fill(z, caller, 0, 4, 0, 10, 1, 1, 11, 0, 0);
        CHECK.due("others have first values", z.run(caller, 99), 480);
        Bodies.fill(z, called, 14, 0, 0, 11, 0, 0);
        Bodies.fill(z, caller, 0, 4, 0, 17, 0, 0, 17, 0, 0, 17, 0, 0, 10, 1, 4, 11, 0, 0);
        CHECK.due("how many were given, the lost too", z.run(caller, 99), 4);
        Bodies.fill(z, called, 1, 0, 0, 0, 1, 0, 3, 0, 0, 2, 0, 0, 1, 0, 0, 11, 0, 0);
        Bodies.fill(z, caller, 10, 1, 0, 10, 1, 0, 3, 0, 0, 11, 0, 0);
        CHECK.due("each call has first values of its own", z.run(caller, 99), 2);
        z.give(1);
        Bodies.fill(z, called, 14, 0, 0, 11, 0, 0);
        Bodies.fill(z, caller, 10, 1, 0, 14, 0, 0, 0, 10, 0, 5, 0, 0, 3, 0, 0, 11, 0, 0);
        CHECK.due("a frame's own count", z.run(caller, 99), 10);
    }
}
