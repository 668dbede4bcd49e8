/** Promise 8, and what promises 10 and 11 say of interrupts. */
public final class InterruptTest {
    private static final Check CHECK = new Check("InterruptTest");

    public static void main(String[] args) {
        refusals();
        whenTheyCome();
        whatTheyComeTo();
        framesOfTheirs();
        faults();
        deep();
        CHECK.finish();
    }

    /** An interrupt that counts itself on user stack 0 and comes to 0: five steps. */
    private static int counter(ZRoutines z) {
        z.room(0, 10);
        return Bodies.make(z, 0, 0, 1, 0, 15, 0, 0, 18, 0, 0, 0, 0, 0, 11, 0, 0);
    }

    private static void refusals() {
        ZRoutines z = new ZRoutines();
        z.routine(0);
        int[][] good = {{0, 1}, {0, 1000}, {-1, 0}, {-1, Integer.MIN_VALUE}, {-1, 1001}};
        for (int[] g : good) {
            CHECK.due("interrupt(" + g[0] + ", " + g[1] + ")", z.interrupt(g[0], g[1]), 1);
        }
        int[][] wrong = {{0, 0}, {0, -1}, {0, 1001}, {1, 1}, {-2, 1}, {20, 1},
            {Integer.MIN_VALUE, 1}, {Integer.MAX_VALUE, 1}, {0, Integer.MIN_VALUE}, {0, Integer.MAX_VALUE}};
        for (int[] w : wrong) {
            CHECK.due("interrupt(" + w[0] + ", " + w[1] + ")", z.interrupt(w[0], w[1]), ZRoutines.BAD);
        }
        int five = Bodies.make(z, 0, 0, 5, 0, 11, 0, 0);
        int six = Bodies.make(z, 0, 0, 6, 0, 11, 0, 0);
        z.interrupt(five, 1);
        CHECK.due("BAD", z.interrupt(five, 0), ZRoutines.BAD);
        CHECK.due("BAD", z.interrupt(9, 1), ZRoutines.BAD);
        CHECK.due("refusals change nothing", z.run(six, 9), 5);
        z.interrupt(-1, 0);
        CHECK.due("none", z.run(six, 9), 6);
        CHECK.due("none", z.told(6), 0);
    }

    private static void whenTheyCome() {
        int[][] rows = {{1, 3}, {2, 1}, {3, 1}, {4, 0}, {1000, 0}};
        for (int[] row : rows) {
            ZRoutines z = new ZRoutines();
            int counter = counter(z);
            int four = Bodies.make(z, 0, 0, 1, 0, 0, 2, 0, 3, 0, 0, 11, 0, 0);
            z.interrupt(counter, row[0]);
            CHECK.due("every " + row[0], z.run(four, 99), 3);
            CHECK.due("interrupts", z.user(0, -1), row[1]);
            CHECK.dueTold("every " + row[0], z, 1, 0, 0, 0, 0, 4 + 5 * row[1], row[1],
                row[1] > 0 ? 2 : 1);
        }
        ZRoutines z = new ZRoutines();
        int zero = Bodies.make(z, 0, 0, 0, 0, 11, 0, 0);
        int loop = Bodies.make(z, 0, 9, 0, 0);
        z.interrupt(zero, 1000);
        CHECK.due("every 1000", z.run(loop, 1999), Bodies.FUEL);
        CHECK.dueTold("every 1000", z, 3, 9, loop, 0, 1, 1999, 1, 2);
        z.interrupt(zero, 3);
        CHECK.due("every 3", z.run(loop, 13), Bodies.INTERRUPT);
        CHECK.dueTold("every 3: 3, 2, 3, 2, 3", z, 3, 11, zero, 0, 2, 13, 3, 2);
        CHECK.due("a run's steps are its own", z.run(loop, 4), Bodies.INTERRUPT);
        CHECK.dueTold("a run's steps are its own", z, 3, 11, zero, 1, 2, 4, 1, 2);
    }

    private static void whatTheyComeTo() {
        ZRoutines z = new ZRoutines();
        int what = z.routine(1);
        int called = Bodies.make(z, 0, 0, 4, 0, 11, 0, 0);
        int caller = Bodies.make(z, 0, 0, 1, 0, 10, called, 0, 3, 0, 0, 11, 0, 0);
        int[] ends = {1, -1, -32768, 32767};
        for (int end : ends) {
            z.first(what, 0, end);
            Bodies.fill(z, what, 1, 0, 0, 11, 0, 0);
            z.interrupt(what, 2);
            CHECK.due("comes to " + end, z.run(caller, 99), end);
            CHECK.dueTold("comes to " + end, z, 2, 0, 0, 0, 0, 4, 1, 3);
        }
        z.first(what, 0, 0);
        for (int every = 1; every < 7; every++) {
            z.interrupt(what, every);
            CHECK.due("comes to 0, every " + every, z.run(caller, 99), 5);
            CHECK.due("comes to 0, every " + every, z.told(6), 5 / every);
            CHECK.due("comes to 0, every " + every, z.told(0), 1);
        }
        z.interrupt(what, 1);
        z.give(8);
        Bodies.fill(z, what, 14, 0, 0, 1, 0, 0, 3, 0, 0, 11, 0, 0);
        CHECK.due("nothing is given to one", z.run(caller, 99), 5);
        z.first(what, 0, 6);
        CHECK.due("first values", z.run(caller, 99), 6);
        z.first(what, 0, 0);
        Bodies.fill(z, caller, 0, 1, 0, 0, 2, 0, 10, called, 2, 18, 0, 0, 0, 5, 0, 11, 0, 0);
        z.interrupt(what, 6);
        CHECK.due("nothing is given to one in the place of a call", z.run(caller, 99), 5);
        CHECK.due("nothing is given to one in the place of a call", z.told(6), 1);
    }

    private static void framesOfTheirs() {
        ZRoutines z = new ZRoutines();
        int what = Bodies.make(z, 0, 12, 0, 0, 11, 0, 0);
        int called = Bodies.make(z, 0, 0, 4, 0, 11, 0, 0);
        int caller = Bodies.make(z, 0, 0, 1, 0, 10, called, 0, 3, 0, 0, 11, 0, 0);
        int[][] numbers = {{1, 2}, {2, 3}, {3, 3}, {4, 2}, {5, 2}, {6, 5}};
        for (int[] n : numbers) {
            z.interrupt(what, n[0]);
            CHECK.due("its number, every " + n[0], z.run(caller, 99), n[1]);
        }
        int thrower = Bodies.make(z, 1, 1, 0, 0, 0, 70, 0, 13, 0, 0);
        Bodies.fill(z, what, 0, 3, 0, 10, thrower, 1, 0, 30, 0, 11, 0, 0);
        z.interrupt(what, 2);
        CHECK.due("to the interrupt's own frame", z.run(caller, 99), 70);
        CHECK.dueTold("to the interrupt's own frame", z, 2, 0, 0, 0, 0, 7, 1, 4);
        Bodies.fill(z, what, 0, 4, 0, 10, thrower, 1, 11, 0, 0);
        CHECK.due("to a frame within it", z.run(caller, 99), 70);
        CHECK.dueTold("to a frame within it", z, 2, 0, 0, 0, 0, 8, 1, 4);
        Bodies.fill(z, what, 0, 3, 0, 0, 0, 0, 13, 0, 0);
        CHECK.due("with 0", z.run(caller, 99), Bodies.INTERRUPT);
        CHECK.dueTold("with 0, then of a frame that has gone", z, 3, 11, what, 2, 2, 10, 2, 3);
        for (int n = -1; n < 6; n++) {
            if (n != 3) {
                Bodies.fill(z, what, 0, n, 0, 0, 0, 0, 13, 0, 0);
                CHECK.due("to " + n, z.run(caller, 99), Bodies.INTERRUPT);
                CHECK.dueTold("to " + n, z, 3, 11, what, 2, 3, 5, 1, 3);
            }
        }
    }

    private static void faults() {
        int[][] bodies = {{18, 0, 0}, {1, 0, 0}, {0, 1, 0, 0, 0, 0, 6, 0, 0}, {10, 2, 0},
            {0, 9, 0, 0, 9, 0, 13, 0, 0}, {10, 19, 0}, {9, -5, 0}, {0, 1, 0, 9, 0, 0}, {9, 0, 0},
            {16, 4, 0}};
        // Of each: the place, the frames that were open, the steps.
        int[][] told = {{0, 2, 3}, {0, 2, 3}, {2, 2, 5}, {0, 25, 26}, {2, 2, 5}, {0, 2, 3},
            {-5, 2, 4}, {0, 2, 2 + 2 * 59 + 1}, {0, 2, 2000}, {0, 2, 3}};
        for (int i = 0; i < bodies.length; i++) {
            ZRoutines z = new ZRoutines();
            int loop = Bodies.make(z, 0, 0, 1, 0, 9, 0, 0);
            z.routine(0);
            int what = Bodies.make(z, 0, bodies[i]);
            z.interrupt(what, 2);
            String name = "fault " + (i + 1) + " in an interrupt";
            CHECK.due(name, z.run(loop, 2000), Bodies.INTERRUPT);
            CHECK.dueTold(name, z, 3, 11, what, told[i][0], told[i][1], told[i][2], 1, told[i][1]);
        }
        ZRoutines z = new ZRoutines();
        int loop = Bodies.make(z, 0, 9, 0, 0);
        int what = Bodies.make(z, 0, 0, 0, 0, 11, 0, 0);
        z.interrupt(what, 2);
        CHECK.due("no fuel when it begins", z.run(loop, 2), Bodies.INTERRUPT);
        CHECK.dueTold("no fuel when it begins", z, 3, 11, what, 0, 2, 2, 1, 2);
        CHECK.due("no fuel ahead of it", z.run(loop, 1), Bodies.FUEL);
        CHECK.dueTold("no fuel ahead of it", z, 3, 9, loop, 0, 1, 1, 0, 1);
        CHECK.due("no fuel behind it", z.run(loop, 4), Bodies.FUEL);
        CHECK.dueTold("no fuel behind it", z, 3, 9, loop, 0, 1, 4, 1, 2);
        int wrong = Bodies.make(z, 0, 17, 0, 0);
        z.interrupt(what, 1);
        CHECK.due("none behind a fault", z.run(wrong, 9), Bodies.UNDER);
        CHECK.dueTold("none behind a fault", z, 3, 1, wrong, 0, 1, 1, 0, 1);
    }

    private static void deep() {
        ZRoutines z = new ZRoutines();
        int zero = Bodies.make(z, 0, 0, 0, 0, 11, 0, 0);
        int down = Bodies.make(z, 0, 10, 1, 0);
        z.interrupt(zero, 24);
        CHECK.due("an interrupt as a 26th frame", z.run(down, 2000), Bodies.INTERRUPT);
        CHECK.dueTold("an interrupt as a 26th frame", z, 3, 11, down, 0, 25, 24, 0, 25);
        z.interrupt(zero, 23);
        CHECK.due("as a 25th", z.run(down, 2000), Bodies.DEEP);
        CHECK.dueTold("as a 25th", z, 3, 4, down, 0, 25, 27, 1, 25);
        Bodies.fill(z, down, 12, 0, 0, 0, 25, 0, 4, 0, 0, 8, 5, 0, 10, 1, 0, 9, 7, 0);
        z.interrupt(zero, 125);
        CHECK.due("where it would have gone on", z.run(down, 2000), Bodies.INTERRUPT);
        CHECK.dueTold("where it would have gone on", z, 3, 11, down, 7, 25, 125, 0, 25);
        CHECK.due("DEEP, with no fuel left", z.run(down, 125), Bodies.INTERRUPT);
        CHECK.due("no fuel ahead of it", z.run(down, 124), Bodies.FUEL);
    }
}
