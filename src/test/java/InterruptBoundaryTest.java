/** The sentences of the document that name a boundary of interrupts, each on both its sides. */
public final class InterruptBoundaryTest {
    private static final Check CHECK = new Check("InterruptBoundaryTest");

    public static void main(String[] args) {
        everySoManySteps();
        stepsOfTheirOwn();
        countedAnewInEachRun();
        calledFramesAreOpen();
        resultsAreOnTheStack();
        thrownResultsAreOnTheStack();
        jumpsAreDone();
        runsThatAreOver();
        nothingGiven();
        numbersGoOn();
        asTheLastFrame();
        stacksTogether();
        anotherNumberThanZero();
        fuelWithin();
        deepWithin();
        emptyBodies();
        CHECK.finish();
    }

    /** A routine of two steps that comes to v. */
    private static int comesTo(ZRoutines z, int v) {
        return Bodies.make(z, 0, 0, v, 0, 11, 0, 0);
    }

    private static void everySoManySteps() {
        CHECK.sentence("An INTERRUPT .. behind every EVERY-th STEP of a RUN");
        ZRoutines z = new ZRoutines();
        int loop = Bodies.make(z, 0, 9, 0, 0);
        int zero = comesTo(z, 0);
        int[] everies = {1, 2, 3, 7, 999};
        for (int every : everies) {
            z.interrupt(zero, every);
            String what = "every " + every;
            CHECK.due(what + ", one step too few", z.run(loop, every - 1), Bodies.FUEL);
            CHECK.dueTold(what + ", one step too few", z, 3, 9, loop, 0, 1, every - 1, 0, 1);
            CHECK.due(what + ", just so many", z.run(loop, every), Bodies.INTERRUPT);
            CHECK.dueTold(what + ", just so many", z, 3, 11, zero, 0, 2, every, 1, 2);
            CHECK.due(what + ", behind it", z.run(loop, every + 2), Bodies.FUEL);
            CHECK.dueTold(what + ", behind it", z, 3, 9, loop, 0, 1, every + 2, 1, 2);
            CHECK.due(what + ", ahead of the second", z.run(loop, 2 * every + 1), Bodies.FUEL);
            CHECK.dueTold(what + ", ahead of the second", z, 3, 9, loop, 0, 1, 2 * every + 1, 1, 2);
            CHECK.due(what + ", a second", z.run(loop, 2 * every + 2), Bodies.INTERRUPT);
            CHECK.dueTold(what + ", a second", z, 3, 11, zero, 0, 2, 2 * every + 2, 2, 2);
        }
    }

    private static void stepsOfTheirOwn() {
        CHECK.sentence("(those in INTERRUPTS are STEPS for FUEL, and are not counted for this)");
        for (int own = 2; own <= 24; own++) {
            ZRoutines z = new ZRoutines();
            int four = Bodies.make(z, 0, 0, 1, 0, 0, 2, 0, 3, 0, 0, 11, 0, 0);
            int idle = z.routine(0);
            for (int i = 0; i < own - 2; i++) {
                z.add(idle, 9, i + 1, 0);
            }
            z.add(idle, 0, 0, 0);
            z.add(idle, 11, 0, 0);
            for (int every = 1; every <= 5; every++) {
                int begun = 3 / every;
                int steps = 4 + own * begun;
                z.interrupt(idle, every);
                String what = "every " + every + ", each of " + own + " steps";
                CHECK.due(what, z.run(four, steps), 3);
                CHECK.dueTold(what, z, 1, 0, 0, 0, 0, steps, begun, begun > 0 ? 2 : 1);
                CHECK.due(what + ", fuel for all but the last", z.run(four, steps - 1), Bodies.FUEL);
                CHECK.dueTold(what + ", fuel for all but the last", z, 3, 9, four, 3, 1, steps - 1, begun, begun > 0 ? 2 : 1);
            }
        }
    }

    private static void countedAnewInEachRun() {
        CHECK.sentence("behind every EVERY-th STEP of a RUN - each RUN's own");
        ZRoutines z = new ZRoutines();
        int four = Bodies.make(z, 0, 0, 1, 0, 0, 2, 0, 3, 0, 0, 11, 0, 0);
        int wrong = Bodies.make(z, 0, 0, 1, 0, 9, 2, 0, 18, 0, 0, 18, 0, 0);
        int five = comesTo(z, 5);
        z.interrupt(five, 5);
        for (int i = 0; i < 6; i++) {
            CHECK.due("four steps, every 5", z.run(four, 99), 3);
            CHECK.due("interrupts", z.told(6), 0);
            CHECK.due("a fault in the fourth step", z.run(wrong, 99), Bodies.UNDER);
            CHECK.due("interrupts", z.told(6), 0);
        }
        int throwing = Bodies.make(z, 0, 17, 0, 0);
        z.interrupt(throwing, 3);
        CHECK.due("a fault in an interrupt", z.run(four, 99), Bodies.INTERRUPT);
        z.interrupt(five, 3);
        CHECK.due("the next run is in none", z.run(four, 3), Bodies.INTERRUPT);
        CHECK.dueTold("the next run is in none", z, 3, 11, five, 0, 2, 3, 1, 2);
        CHECK.due("and has its fault by its own number", z.run(four, 2), Bodies.FUEL);
    }

    private static void calledFramesAreOpen() {
        CHECK.sentence("when all that comes by it is done (the FRAME of a CALL being open, ..)");
        ZRoutines z = new ZRoutines();
        int called = comesTo(z, 4);
        int caller = Bodies.make(z, 0, 0, 1, 0, 10, called, 0, 3, 0, 0, 11, 0, 0);
        int number = Bodies.make(z, 0, 12, 0, 0, 11, 0, 0);
        int[] numbers = {2, 3, 3, 2, 2};
        for (int i = 0; i < numbers.length; i++) {
            z.interrupt(number, i + 1);
            CHECK.due("its number behind step " + (i + 1), z.run(caller, 99), numbers[i]);
            CHECK.dueTold("behind step " + (i + 1), z, 2, 0, 0, 0, 0, i + 3, 1, numbers[i]);
        }
        z.interrupt(number, 2);
        CHECK.due("without fuel", z.run(caller, 2), Bodies.INTERRUPT);
        CHECK.dueTold("without fuel", z, 3, 11, number, 0, 3, 2, 1, 3);
    }

    /** So many numbers as its first value says, then a call of a routine. */
    private static int fillThenCall(ZRoutines z, int count, int called) {
        int r = Bodies.make(z, 1, 1, 0, 0, 8, 8, 0, 1, 0, 0, 0, 1, 0, 4, 0, 0, 2, 0, 0, 12, 0, 0, 9, 0, 0,
            10, called, 0, 11, 0, 0);
        z.first(r, 0, count);
        return r;
    }

    private static void resultsAreOnTheStack() {
        CHECK.sentence("when all that comes by it is done (.., what a closed FRAME came to being on the STACK)");
        for (int count = 57; count <= 59; count++) {
            ZRoutines z = new ZRoutines();
            int called = comesTo(z, 4);
            int caller = fillThenCall(z, count, called);
            int one = comesTo(z, 0);
            int steps = 8 * count + 2 + 1 + 2;
            z.interrupt(one, steps);
            String what = count + " numbers, what came of a call, and one in an interrupt";
            CHECK.due(what, z.run(caller, 2000), count == 59 ? Bodies.INTERRUPT : 4);
            if (count == 59) {
                CHECK.dueTold(what, z, 3, 11, one, 0, 2, steps + 1, 1, 2);
            } else {
                CHECK.dueTold(what, z, 1, 0, 0, 0, 0, steps + 3, 1, 2);
            }
        }
    }

    private static void thrownResultsAreOnTheStack() {
        CHECK.sentence("when all that comes by it is done - a throw's FRAMES being closed, and what one came to on the STACK");
        for (int count = 57; count <= 58; count++) {
            ZRoutines z = new ZRoutines();
            int called = Bodies.make(z, 0, 0, 2, 0, 0, 4, 0, 13, 0, 0);
            int caller = fillThenCall(z, count, called);
            int number = Bodies.make(z, 0, 12, 0, 0, 11, 0, 0);
            int steps = 8 * count + 2 + 1 + 3;
            z.interrupt(number, steps);
            CHECK.due("its number behind a throw to frame 2", z.run(caller, 2000), 2);
            CHECK.dueTold("behind a throw to frame 2", z, 2, 0, 0, 0, 0, steps + 2, 1, 2);
            int two = Bodies.make(z, 0, 0, 0, 0, 17, 0, 0, 11, 0, 0);
            z.interrupt(two, steps);
            String what = count + " numbers, what came of a throw, and two in an interrupt";
            CHECK.due(what, z.run(caller, 2000), count == 58 ? Bodies.INTERRUPT : 4);
            if (count == 58) {
                CHECK.dueTold(what, z, 3, 11, two, 1, 2, steps + 2, 1, 2);
            }
        }
    }

    private static void jumpsAreDone() {
        CHECK.sentence("when all that comes by it is done .. else it goes on.");
        ZRoutines z = new ZRoutines();
        int zero = comesTo(z, 0);
        int jump = Bodies.make(z, 0, 9, 3, 0, 0, 1, 0, 11, 0, 0, 0, 0, 0, 8, 7, 0, 0, 2, 0, 11, 0, 0, 0, 3, 0, 11, 0, 0);
        for (int every = 1; every <= 6; every++) {
            z.interrupt(zero, every);
            CHECK.due("jumps, every " + every, z.run(jump, 99), 3);
            CHECK.due("interrupts", z.told(6), 4 / every);
        }
        CHECK.sentence("(PLACE comes when it would be done.) - an INTERRUPT behind the jump comes ahead of it");
        int away = Bodies.make(z, 0, 9, 99, 0);
        CHECK.due("every 6", z.run(away, 9), Bodies.PLACE);
        CHECK.dueTold("every 6", z, 3, 7, away, 99, 1, 2, 0, 1);
        z.interrupt(zero, 1);
        CHECK.due("every 1, comes to 0", z.run(away, 9), Bodies.PLACE);
        CHECK.dueTold("every 1, comes to 0", z, 3, 7, away, 99, 1, 4, 1, 2);
        z.interrupt(comesTo(z, 5), 1);
        CHECK.due("every 1, comes to 5", z.run(away, 9), 5);
        CHECK.dueTold("every 1, comes to 5", z, 2, 0, 0, 0, 0, 3, 1, 2);
    }

    private static void runsThatAreOver() {
        CHECK.sentence("if the RUN is not over");
        ZRoutines z = new ZRoutines();
        int five = comesTo(z, 5);
        int two = comesTo(z, 7);
        z.interrupt(five, 2);
        CHECK.due("the last step, by 11", z.run(two, 99), 7);
        CHECK.dueTold("the last step, by 11", z, 1, 0, 0, 0, 0, 2, 0, 1);
        z.interrupt(five, 1);
        CHECK.due("the step ahead of it", z.run(two, 99), 5);
        CHECK.dueTold("the step ahead of it", z, 2, 0, 0, 0, 0, 3, 1, 2);
        int thrown = Bodies.make(z, 0, 0, 1, 0, 0, 7, 0, 13, 0, 0);
        int caller = Bodies.make(z, 0, 10, thrown, 0);
        z.interrupt(five, 4);
        CHECK.due("the last step, by 13", z.run(caller, 99), 7);
        CHECK.dueTold("the last step, by 13", z, 1, 0, 0, 0, 0, 4, 0, 2);
        int wrong = Bodies.make(z, 0, 0, 1, 0, 3, 0, 0);
        z.interrupt(five, 2);
        CHECK.due("a fault", z.run(wrong, 99), Bodies.UNDER);
        CHECK.dueTold("a fault", z, 3, 1, wrong, 1, 1, 2, 0, 1);
        Bodies.fill(z, wrong, 0, 1, 0);
        CHECK.due("no instruction", z.run(wrong, 99), Bodies.PLACE);
        CHECK.dueTold("no instruction", z, 3, 7, wrong, 1, 1, 2, 0, 1);
    }

    private static void nothingGiven() {
        CHECK.sentence("its ROUTINE is called, with nothing GIVEN");
        ZRoutines z = new ZRoutines();
        int caller = Bodies.make(z, 1, 0, 8, 0, 0, 9, 0, 10, 1, 2, 11, 0, 0);
        Bodies.make(z, 2, 14, 0, 0, 11, 0, 0);
        int given = Bodies.make(z, 1, 14, 0, 0, 1, 0, 0, 3, 0, 0, 11, 0, 0);
        for (int every = 1; every <= 5; every++) {
            z.interrupt(given, every);
            z.give(4);
            CHECK.due("every " + every, z.run(caller, 99), 2);
            CHECK.due("interrupts", z.told(6), 5 / every);
        }
        z.first(given, 0, 6);
        CHECK.due("first values", z.run(caller, 99), 6);
    }

    private static void numbersGoOn() {
        CHECK.sentence("as a FRAME within (NUMBERS go on; ..)");
        ZRoutines z = new ZRoutines();
        int number = Bodies.make(z, 0, 12, 0, 0, 11, 0, 0);
        int down = Bodies.make(z, 0, 10, 1, 0);
        for (int steps = 1; steps <= 23; steps++) {
            z.interrupt(number, steps);
            CHECK.due("behind " + steps + " calls", z.run(down, 2000), steps + 2);
            CHECK.dueTold("behind " + steps + " calls", z, 2, 0, 0, 0, 0, steps + 2, 1, steps + 2);
        }
        int within = Bodies.make(z, 0, 10, number, 0, 11, 0, 0);
        z.interrupt(within, 3);
        CHECK.due("a call in one", z.run(down, 2000), 6);
        CHECK.dueTold("a call in one", z, 2, 0, 0, 0, 0, 7, 1, 6);
    }

    private static void asTheLastFrame() {
        CHECK.sentence("as a FRAME within (..; DEEP) .. the INSTRUCTION that .. would have been next (by .., a DEEP INTERRUPT)");
        ZRoutines z = new ZRoutines();
        int zero = comesTo(z, 0);
        int down = Bodies.make(z, 0, 10, 1, 0);
        z.interrupt(zero, 23);
        CHECK.due("as a 25th", z.run(down, 25), Bodies.FUEL);
        CHECK.dueTold("as a 25th", z, 3, 9, down, 0, 24, 25, 1, 25);
        z.interrupt(zero, 24);
        CHECK.due("as a 26th", z.run(down, 25), Bodies.INTERRUPT);
        CHECK.dueTold("as a 26th, behind a call", z, 3, 11, down, 0, 25, 24, 0, 25);
        CHECK.due("as a 26th, fuel just gone", z.run(down, 24), Bodies.INTERRUPT);
        CHECK.dueTold("as a 26th, fuel just gone", z, 3, 11, down, 0, 25, 24, 0, 25);
        CHECK.due("fuel gone ahead of it", z.run(down, 23), Bodies.FUEL);
        CHECK.dueTold("fuel gone ahead of it", z, 3, 9, down, 0, 24, 23, 0, 24);
        // In the 25th frame: 8 at place 1 goes to 7, where a number and a jump to 50 come.
        int far = Bodies.make(z, 1, 1, 0, 0, 8, 7, 0, 1, 0, 0, 0, 1, 0, 4, 0, 0, 10, 2, 1, 11, 0, 0, 0, 3, 0, 9, 50, 0);
        z.first(far, 0, 24);
        int before = 24 * 6;
        int[] places = {1, 7, 8, 50};
        for (int i = 0; i < places.length; i++) {
            z.interrupt(zero, before + i + 1);
            CHECK.due("as a 26th, next is " + places[i], z.run(far, 2000), Bodies.INTERRUPT);
            CHECK.dueTold("as a 26th, next is " + places[i], z, 3, 11, far, places[i], 25, before + i + 1, 0, 25);
        }
    }

    private static void stacksTogether() {
        CHECK.sentence("All STACKS of open FRAMES have 60 NUMBERS together - an INTERRUPT's, too");
        for (int own = 1; own <= 6; own++) {
            for (int count = 56; count <= 60; count++) {
                ZRoutines z = new ZRoutines();
                int push = Bodies.make(z, 0, 0, 1, 0, 9, 0, 0);
                int in = z.routine(0);
                for (int i = 0; i < own; i++) {
                    z.add(in, 0, i + 1, 0);
                }
                z.add(in, 11, 0, 0);
                z.interrupt(in, 2 * count);
                boolean fits = count + own <= 60;
                String what = own + " in an interrupt behind " + count;
                CHECK.due(what, z.run(push, 2000), fits ? own : Bodies.INTERRUPT);
                if (fits) {
                    CHECK.dueTold(what, z, 2, 0, 0, 0, 0, 2 * count + own + 1, 1, 2);
                } else {
                    CHECK.dueTold(what, z, 3, 11, in, 60 - count, 2, 2 * count + 61 - count, 1, 2);
                }
            }
        }
        CHECK.sentence("its STACK is empty - an INTERRUPT's, too, and it is gone with it");
        ZRoutines z = new ZRoutines();
        int push = Bodies.make(z, 0, 0, 1, 0, 9, 0, 0);
        int in = Bodies.make(z, 0, 0, 1, 0, 0, 2, 0, 0, 3, 0, 0, 0, 0, 11, 0, 0);
        z.interrupt(in, 2);
        CHECK.due("a 57th number, and four in an interrupt", z.run(push, 2000), Bodies.INTERRUPT);
        CHECK.dueTold("a 57th number, and four in an interrupt", z, 3, 11, in, 3, 2, 57 * 2 + 56 * 5 + 4, 57, 2);
        Bodies.fill(z, in, 18, 0, 0);
        CHECK.due("nothing on it", z.run(push, 2000), Bodies.INTERRUPT);
        CHECK.dueTold("nothing on it", z, 3, 11, in, 0, 2, 3, 1, 2);
    }

    private static void anotherNumberThanZero() {
        CHECK.sentence("if it comes to another NUMBER than 0 the RUN ENDS with that; else it goes on");
        int[][] rows = {{0, 0}, {1, 1}, {-1, -1}, {32767, 32767}, {-32768, -32768}, {32768, -32768}, {65536, 0},
            {-65536, 0}, {65537, 1}};
        for (int[] row : rows) {
            ZRoutines z = new ZRoutines();
            int seven = comesTo(z, 7);
            z.interrupt(comesTo(z, row[0]), 1);
            CHECK.due("by 11, " + row[0], z.run(seven, 99), row[1] == 0 ? 7 : row[1]);
            CHECK.due("by 11, " + row[0], z.told(0), row[1] == 0 ? 1 : 2);
            z.interrupt(Bodies.make(z, 0, 12, 0, 0, 0, row[0], 0, 13, 0, 0), 1);
            CHECK.due("by 13, " + row[0], z.run(seven, 99), row[1] == 0 ? 7 : row[1]);
            CHECK.due("by 13, " + row[0], z.told(0), row[1] == 0 ? 1 : 2);
            CHECK.due("by 13, " + row[0], z.told(6), 1);
        }
        CHECK.sentence("else it goes on - with its LOCALS and its STACK as they were");
        ZRoutines z = new ZRoutines();
        int in = Bodies.make(z, 3, 0, 50, 0, 2, 0, 0, 0, 51, 0, 2, 1, 0, 0, 52, 0, 0, 0, 0, 11, 0, 0);
        int sum = Bodies.make(z, 2, 1, 0, 0, 1, 1, 0, 3, 0, 0, 0, 9, 0, 2, 1, 0, 1, 1, 0, 3, 0, 0, 11, 0, 0);
        for (int every = 1; every <= 9; every++) {
            z.interrupt(in, every);
            z.give(3);
            z.give(4);
            CHECK.due("every " + every, z.run(sum, 999), 16);
            CHECK.due("interrupts", z.told(6), 7 / every);
        }
    }

    private static void fuelWithin() {
        CHECK.sentence("A FAULT within one, FUEL and DEEP, too, is INTERRUPT.");
        ZRoutines z = new ZRoutines();
        int loop = Bodies.make(z, 0, 9, 0, 0);
        int called = Bodies.make(z, 0, 9, 1, 0, 0, 0, 0, 11, 0, 0);
        int in = Bodies.make(z, 0, 9, 1, 0, 10, called, 0, 11, 0, 0);
        z.interrupt(in, 3);
        // Of each fuel: the fault, the routine, the place, the frames, the interrupts, the most frames.
        int[][] rows = {{2, 9, loop, 0, 1, 0, 1}, {3, 11, in, 0, 2, 1, 2}, {4, 11, in, 1, 2, 1, 2},
            {5, 11, called, 0, 3, 1, 3}, {6, 11, called, 1, 3, 1, 3}, {7, 11, called, 2, 3, 1, 3},
            {8, 11, in, 2, 2, 1, 3}, {9, 9, loop, 0, 1, 1, 3}, {11, 9, loop, 0, 1, 1, 3}, {12, 11, in, 0, 2, 2, 3}};
        for (int[] r : rows) {
            CHECK.due("fuel " + r[0], z.run(loop, r[0]), -50000 - r[1]);
            CHECK.dueTold("fuel " + r[0], z, 3, r[1], r[2], r[3], r[4], r[0], r[5], r[6]);
        }
    }

    private static void deepWithin() {
        CHECK.sentence("A FAULT within one, .. DEEP, too, is INTERRUPT. - by a CALL within one");
        ZRoutines z = new ZRoutines();
        int loop = Bodies.make(z, 0, 9, 0, 0);
        int down = Bodies.make(z, 1, 1, 0, 0, 8, 7, 0, 1, 0, 0, 0, 1, 0, 4, 0, 0, 10, 1, 1, 11, 0, 0, 12, 0, 0, 11, 0, 0);
        z.interrupt(down, 1);
        z.first(down, 0, 23);
        CHECK.due("24 within the first", z.run(loop, 2000), 25);
        CHECK.dueTold("24 within the first", z, 2, 0, 0, 0, 0, 1 + 23 * 7 + 4, 1, 25);
        z.first(down, 0, 24);
        CHECK.due("25 within the first", z.run(loop, 2000), Bodies.INTERRUPT);
        CHECK.dueTold("25 within the first", z, 3, 11, down, 5, 25, 1 + 24 * 6, 1, 25);
    }

    private static void emptyBodies() {
        CHECK.sentence("A FAULT within one - PLACE, where the ROUTINE has no INSTRUCTION");
        ZRoutines z = new ZRoutines();
        int seven = comesTo(z, 7);
        int in = comesTo(z, 0);
        z.interrupt(in, 1);
        CHECK.due("it has two", z.run(seven, 99), 7);
        z.clear(in);
        CHECK.due("it has none", z.run(seven, 99), Bodies.INTERRUPT);
        CHECK.dueTold("it has none", z, 3, 11, in, 0, 2, 2, 1, 2);
    }
}
