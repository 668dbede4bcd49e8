/** The sentences of the document that name a boundary of frames and of their stacks, each on both its sides. */
public final class FrameBoundaryTest {
    private static final Check CHECK = new Check("FrameBoundaryTest");
    /** The place behind what fills a filler's stack. */
    private static final int FILLED = 8;

    public static void main(String[] args) {
        emptyStacks();
        frameNumbers();
        frameNumbersAgain();
        localsOfEachFrame();
        sixtyInOneFrame();
        sixtyTogether();
        roomBehindClosedFrames();
        roomBehindThrows();
        roomBehindFaults();
        framesWithinEachOther();
        framesAfterEachOther();
        throwsToFrames();
        mostFrames();
        userStacksAtFaults();
        CHECK.finish();
    }

    private static void emptyStacks() {
        CHECK.sentence("A CALL of a ROUTINE opens a FRAME: .. its STACK is empty.");
        ZRoutines z = new ZRoutines();
        int called = z.routine(0);
        int caller = Bodies.make(z, 0, 0, 1, 0, 0, 2, 0, 0, 3, 0, 10, called, 1, 11, 0, 0);
        int[] takers = {2, 3, 4, 5, 6, 7, 8, 11, 13, 15, 17, 18, 19};
        for (int op : takers) {
            Bodies.fill(z, called, op, 0, 0);
            CHECK.due("a call with three on the caller's, then " + op, z.run(caller, 99), Bodies.UNDER);
            CHECK.dueTold("then " + op, z, 3, 1, called, 0, 2, 5, 0, 2);
        }
        Bodies.fill(z, called, 10, called, 1);
        CHECK.due("a call of a call", z.run(caller, 99), Bodies.UNDER);
        CHECK.dueTold("a call of a call", z, 3, 1, called, 0, 2, 5, 0, 2);
        z.give(5);
        Bodies.fill(z, called, 18, 0, 0);
        CHECK.due("what is GIVEN is not on it", z.run(called, 99), Bodies.UNDER);
        Bodies.fill(z, called, 0, 7, 0, 11, 0, 0);
        CHECK.due("it has what it puts there", z.run(caller, 99), 7);
    }

    /** A routine that goes down as far as its local says and comes to what the innermost comes to. */
    private static int down(ZRoutines z, int op) {
        int r = z.size(0);
        return Bodies.make(z, 1, 1, 0, 0, 8, 7, 0, 1, 0, 0, 0, 1, 0, 4, 0, 0, 10, r, 1, 11, 0, 0, op, 0, 0,
            11, 0, 0);
    }

    private static void frameNumbers() {
        CHECK.sentence("FRAMES have NUMBERS: 1 for the first one of a RUN, one more for each that is within.");
        ZRoutines z = new ZRoutines();
        int down = down(z, 12);
        for (int depth = 1; depth <= 26; depth++) {
            z.give(depth - 1);
            CHECK.due("the innermost of " + depth, z.run(down, 2000), depth <= 25 ? depth : Bodies.DEEP);
            CHECK.due("the most", z.told(7), Math.min(25, depth));
        }
        z.give(0);
        CHECK.due("1 for the first, behind a fault in 25", z.run(down, 2000), 1);
    }

    private static void frameNumbersAgain() {
        CHECK.sentence("FRAMES have NUMBERS: .. - one that was closed leaves its own to the next");
        ZRoutines z = new ZRoutines();
        int number = Bodies.make(z, 0, 12, 0, 0, 11, 0, 0);
        int twice = Bodies.make(z, 0, 10, number, 0, 0, 10, 0, 5, 0, 0, 10, number, 0, 3, 0, 0, 11, 0, 0);
        CHECK.due("22", z.run(twice, 99), 22);
        int thrown = Bodies.make(z, 0, 12, 0, 0, 0, 2, 0, 13, 0, 0);
        int then = Bodies.make(z, 0, 10, thrown, 0, 0, 10, 0, 5, 0, 0, 10, number, 0, 3, 0, 0, 12, 0, 0, 3, 0, 0,
            11, 0, 0);
        CHECK.due("20 + 2 + 1", z.run(then, 99), 23);
    }

    private static void localsOfEachFrame() {
        CHECK.sentence("A CALL of a ROUTINE opens a FRAME: LOCALS have their FIRST VALUES - in each of 25, and its own");
        ZRoutines z = new ZRoutines();
        // Each frame but the innermost sets its last local to 5 and adds it to what the call comes to.
        int r = Bodies.make(z, 15, 1, 0, 0, 8, 11, 0, 0, 5, 0, 2, 14, 0, 1, 0, 0, 0, 1, 0, 4, 0, 0, 10, 0, 1,
            1, 14, 0, 3, 0, 0, 11, 0, 0, 1, 14, 0, 11, 0, 0);
        z.first(r, 14, 31);
        for (int depth = 1; depth <= 25; depth++) {
            z.give(depth - 1);
            CHECK.due("of " + depth, z.run(r, 2000), 31 + 5 * (depth - 1));
        }
        CHECK.sentence("but the first ones what was GIVEN - in each of 25");
        int all = z.size(0);
        z.routine(15);
        Bodies.fill(z, all, 1, 0, 0, 8, 8, 0, 1, 0, 0, 0, 1, 0, 4, 0, 0, 1, 1, 0, 10, all, 2, 11, 0, 0, 1, 1, 0, 11, 0, 0);
        for (int depth = 1; depth <= 25; depth++) {
            z.give(depth - 1);
            z.give(40 + depth);
            CHECK.due("of " + depth, z.run(all, 2000), 40 + depth);
        }
    }

    /** A routine with two locals: so many numbers as its first says, then these rows. */
    private static int filler(ZRoutines z, int... rows) {
        int r = Bodies.make(z, 2, 1, 0, 0, 8, 8, 0, 1, 0, 0, 0, 1, 0, 4, 0, 0, 2, 0, 0, 12, 0, 0, 9, 0, 0);
        for (int i = 0; i + 2 < rows.length; i += 3) {
            z.add(r, rows[i], rows[i + 1], rows[i + 2]);
        }
        return r;
    }

    private static void sixtyInOneFrame() {
        CHECK.sentence("All STACKS of open FRAMES have 60 NUMBERS together at most.");
        ZRoutines z = new ZRoutines();
        int fill = filler(z, 0, 9, 0, 11, 0, 0);
        int[] counts = {0, 1, 58, 59};
        for (int count : counts) {
            z.give(count);
            CHECK.due("one more than " + count, z.run(fill, 2000), 9);
            CHECK.dueTold("one more than " + count, z, 1, 0, 0, 0, 0, count * 8 + 4, 0, 1);
        }
        z.give(60);
        CHECK.due("two to reckon with are a 60th and a 61st", z.run(fill, 2000), Bodies.FULL);
        CHECK.dueTold("two to reckon with are a 60th and a 61st", z, 3, 8, fill, 3, 1, 59 * 8 + 4, 0, 1);
        Bodies.fill(z, fill, 0, 5, 0, 9, 0, 0);
        CHECK.due("a 60th is taken", z.run(fill, 119), Bodies.FUEL);
        CHECK.dueTold("a 60th is taken", z, 3, 9, fill, 1, 1, 119, 0, 1);
        CHECK.due("a 61st is not", z.run(fill, 121), Bodies.FULL);
        CHECK.dueTold("a 61st is not", z, 3, 8, fill, 0, 1, 121, 0, 1);
    }

    private static void sixtyTogether() {
        CHECK.sentence("All STACKS of open FRAMES have 60 NUMBERS together - of frames within each other");
        for (int outer = 0; outer <= 56; outer += 7) {
            for (int both = 57; both <= 59; both++) {
                ZRoutines z = new ZRoutines();
                int inner = filler(z, 0, 8, 0, 0, 9, 0, 11, 0, 0);
                int first = filler(z, 1, 1, 0, 10, inner, 1, 11, 0, 0);
                z.give(outer);
                z.give(both - outer);
                String what = outer + " in the first, " + (both - outer) + " and two more in the second";
                CHECK.due(what, z.run(first, 2000), both < 59 ? 9 : Bodies.FULL);
                if (both == 59) {
                    CHECK.dueTold(what, z, 3, 8, inner, FILLED + 1, 2, 8 * 59 + 2 + 2 + 2 + 2, 0, 2);
                }
            }
        }
    }

    private static void roomBehindClosedFrames() {
        CHECK.sentence("All STACKS of open FRAMES .. - of closed ones there are none");
        ZRoutines z = new ZRoutines();
        int inner = filler(z, 0, 9, 0, 11, 0, 0);
        int first = filler(z, 0, 19, 0, 10, inner, 1, 18, 0, 0, 0, 19, 0, 10, inner, 1, 18, 0, 0,
            0, 19, 0, 10, inner, 1, 11, 0, 0);
        z.give(40);
        CHECK.due("40, and three times 19 and one in turn", z.run(first, 2000), 9);
        CHECK.due("the most frames", z.told(7), 2);
        z.give(41);
        CHECK.due("41, and 18, and two to reckon with", z.run(first, 2000), Bodies.FULL);
        CHECK.dueTold("41, and 18, and two to reckon with", z, 3, 8, inner, 3, 2, 8 * 59 + 2 + 2 + 4, 0, 2);
    }

    private static void roomBehindThrows() {
        CHECK.sentence("13 .. all FRAMES within FRAME n are closed, and that one, too - with their stacks");
        ZRoutines z = new ZRoutines();
        int thrower = filler(z, 0, 2, 0, 0, 5, 0, 13, 0, 0);
        int middle = filler(z, 0, 17, 0, 10, thrower, 1, 11, 0, 0);
        int first = filler(z, 0, 20, 0, 10, middle, 1, 18, 0, 0, 0, 20, 0, 10, middle, 1, 18, 0, 0, 1, 1, 0, 11, 0, 0);
        z.give(20);
        z.give(77);
        CHECK.due("20, 20 and 17 and two, twice", z.run(first, 2000), 77);
        CHECK.due("the most frames", z.told(7), 3);
    }

    private static void roomBehindFaults() {
        CHECK.sentence("what goes wrong is told with its place, and what was open is open no more");
        ZRoutines z = new ZRoutines();
        int fill = filler(z, 10, 0, 0, 11, 0, 0);
        int number = Bodies.make(z, 0, 12, 0, 0, 11, 0, 0);
        for (int i = 0; i < 3; i++) {
            z.give(59);
            CHECK.due("59, and a call of one without", z.run(fill, 2000), Bodies.DEEP);
            CHECK.dueTold("59, and calls", z, 3, 4, fill, FILLED, 25, 59 * 8 + 25 * 3, 0, 25);
            CHECK.due("its number is 1 again", z.run(number, 9), 1);
            CHECK.dueTold("its number is 1 again", z, 1, 0, 0, 0, 0, 2, 0, 1);
        }
    }

    private static void framesWithinEachOther() {
        CHECK.sentence("FRAMES within each other: 25 at most.");
        ZRoutines z = new ZRoutines();
        int down = down(z, 14);
        z.give(24);
        CHECK.due("25", z.run(down, 2000), 1);
        CHECK.dueTold("25", z, 1, 0, 0, 0, 0, 24 * 7 + 4, 0, 25);
        z.give(25);
        CHECK.due("26", z.run(down, 2000), Bodies.DEEP);
        CHECK.dueTold("26", z, 3, 4, down, 5, 25, 25 * 6, 0, 25);
    }

    private static void framesAfterEachOther() {
        CHECK.sentence("FRAMES within each other - those after each other are as many as there is FUEL for");
        ZRoutines z = new ZRoutines();
        int called = Bodies.make(z, 0, 0, 1, 0, 11, 0, 0);
        int loop = Bodies.make(z, 1, 1, 0, 0, 10, called, 0, 4, 0, 0, 2, 0, 0, 1, 0, 0, 8, 7, 0, 9, 0, 0, 1, 0, 0,
            11, 0, 0);
        z.give(100);
        CHECK.due("100 calls", z.run(loop, 2000), 0);
        CHECK.dueTold("100 calls", z, 1, 0, 0, 0, 0, 100 * 8 + 99 + 2, 0, 2);
    }

    private static void throwsToFrames() {
        CHECK.sentence("13 .. all FRAMES within FRAME n are closed, and that one, too, which comes to x");
        for (int depth = 1; depth <= 25; depth += 4) {
            for (int n = -1; n <= depth + 2; n++) {
                ZRoutines z = new ZRoutines();
                // Each frame adds 100 to what the one within comes to, so the answer tells who came to x.
                int r = Bodies.make(z, 2, 1, 0, 0, 8, 10, 0, 1, 0, 0, 0, 1, 0, 4, 0, 0, 1, 1, 0, 10, 0, 2, 0, 100, 0,
                    3, 0, 0, 11, 0, 0, 1, 1, 0, 0, 7, 0, 13, 0, 0);
                z.give(depth - 1);
                z.give(n);
                boolean isOpen = n >= 1 && n <= depth;
                String what = "to " + n + " of " + depth;
                CHECK.due(what, z.run(r, 2000), isOpen ? 7 + 100 * (n - 1) : Bodies.GONE);
                CHECK.due(what + ", the most frames", z.told(7), depth);
                CHECK.due(what + ", open at the fault", z.told(4), isOpen ? 0 : depth);
            }
        }
        CHECK.sentence("GONE: none of this RUN .. is n - a frame that was closed is gone");
        ZRoutines z = new ZRoutines();
        int number = Bodies.make(z, 0, 12, 0, 0, 11, 0, 0);
        int late = Bodies.make(z, 0, 10, number, 0, 0, 5, 0, 13, 0, 0);
        CHECK.due("to a frame that was closed", z.run(late, 99), Bodies.GONE);
        CHECK.dueTold("to a frame that was closed", z, 3, 5, late, 2, 1, 5, 0, 2);
    }

    private static void mostFrames() {
        CHECK.sentence("7 the most FRAMES that were open at once");
        ZRoutines z = new ZRoutines();
        int down = down(z, 12);
        int first = Bodies.make(z, 0, 0, 3, 0, 10, down, 1, 0, 1, 0, 10, down, 1, 11, 0, 0);
        CHECK.due("4 down, then 2", z.run(first, 999), 3);
        CHECK.due("the most", z.told(7), 5);
        int one = Bodies.make(z, 0, 0, 3, 0, 11, 0, 0);
        z.run(one, 9);
        CHECK.due("the most of the next run", z.told(7), 1);
        z.run(one, 0);
        CHECK.due("the most of one without fuel", z.told(7), 1);
    }

    private static void userStacksAtFaults() {
        CHECK.sentence("-50000 less the FAULT (USER STACKS are as they were then)");
        ZRoutines z = new ZRoutines();
        z.room(1, 3);
        int put = Bodies.make(z, 0, 0, 5, 0, 15, 1, 0, 0, 6, 0, 15, 1, 0, 9, -1, 0);
        CHECK.due("two are put, then a fault", z.run(put, 99), Bodies.PLACE);
        CHECK.due("two are there", z.user(1, -1), 2);
        CHECK.due("the top", z.user(1, 0), 6);
        int take = Bodies.make(z, 0, 16, 1, 0, 16, 2, 0);
        CHECK.due("one is taken, then a fault", z.run(take, 99), Bodies.UNDER);
        CHECK.due("one is there", z.user(1, -1), 1);
        CHECK.due("the top", z.user(1, 0), 5);
        CHECK.due("no fuel to take it", z.run(take, 0), Bodies.FUEL);
        CHECK.due("it is there", z.user(1, 0), 5);
        CHECK.due("fuel to put one of two", z.run(put, 2), Bodies.FUEL);
        CHECK.due("it is there", z.user(1, -1), 2);
    }
}
