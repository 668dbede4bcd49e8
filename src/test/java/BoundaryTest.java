/** The sentences of the document that name a boundary of what is built and given, each on both its sides. */
public final class BoundaryTest {
    private static final Check CHECK = new Check("BoundaryTest");
    private static final int BAD = ZRoutines.BAD, FULL = ZRoutines.FULL;
    private static final int LEAST = Integer.MIN_VALUE, MOST = Integer.MAX_VALUE;

    public static void main(String[] args) {
        reckonedNumbers();
        numbersByTheirLowestBits();
        calls512();
        routineNumbers();
        localCounts();
        firstValues();
        instructionCounts();
        clearedBodies();
        userStackNumbers();
        rooms();
        kthNumbers();
        givenAndLocals();
        givenToCalls();
        givenCounts();
        fuels();
        everies();
        toldNumbers();
        sizes();
        CHECK.finish();
    }

    private static int reckoned(int y, int x, int op) {
        return Bodies.outcome(0, y, 0, 0, x, 0, op, 0, 0, 11, 0, 0);
    }

    private static void reckonedNumbers() {
        CHECK.sentence("NUMBERS are whole ones from -32768 to 32767; all that is reckoned wraps into these.");
        int[][] rows = {
            {32766, 1, 3, 32767}, {32767, 1, 3, -32768}, {-32767, -1, 3, -32768}, {-32768, -1, 3, 32767},
            {32767, 32767, 3, -2}, {-32768, -32768, 3, 0},
            {-32767, 1, 4, -32768}, {-32768, 1, 4, 32767}, {32766, -1, 4, 32767}, {32767, -1, 4, -32768},
            {0, -32768, 4, -32768}, {-32768, 32767, 4, 1}, {32767, -32768, 4, -1},
            {181, 181, 5, 32761}, {256, 128, 5, -32768}, {-256, 128, 5, -32768}, {-257, 128, 5, 32640},
            {256, 256, 5, 0}, {-32768, -1, 5, -32768}, {-32768, -32768, 5, 0}, {32767, 32767, 5, 1},
            {-32767, -1, 6, 32767}, {-32768, -1, 6, -32768}, {-32768, 1, 6, -32768}, {32767, -1, 6, -32767},
            {-32768, -1, 7, 0}, {-32768, 32767, 7, -1}, {32767, -32768, 7, 32767},
            {-32768, 32767, 19, 1}, {32767, -32768, 19, 0}, {32767, 32767, 19, 0}, {-32768, -32768, 19, 0},
            {-32768, -32767, 19, 1}, {-32767, -32768, 19, 0}, {-1, 0, 19, 1}, {0, 0, 19, 0}, {0, -1, 19, 0}};
        for (int[] r : rows) {
            CHECK.due(r[0] + ", " + r[1] + " by operation " + r[2], reckoned(r[0], r[1], r[2]), r[3]);
        }
        CHECK.sentence("y by x (cut toward 0), what is left of that");
        int[][] cuts = {{7, 2, 3, 1}, {-7, 2, -3, -1}, {7, -2, -3, 1}, {-7, -2, 3, -1}, {1, 2, 0, 1},
            {-1, 2, 0, -1}, {6, 3, 2, 0}, {-6, 3, -2, 0}, {0, -5, 0, 0}};
        for (int[] c : cuts) {
            CHECK.due(c[0] + " by " + c[1], reckoned(c[0], c[1], 6), c[2]);
            CHECK.due("left of " + c[0] + " by " + c[1], reckoned(c[0], c[1], 7), c[3]);
        }
    }

    private static void numbersByTheirLowestBits() {
        int[][] rows = {{32767, 32767}, {32768, -32768}, {-32768, -32768}, {-32769, 32767}, {65535, -1},
            {65536, 0}, {-65536, 0}, {65537, 1}, {LEAST, 0}, {MOST, -1}};
        ZRoutines z = new ZRoutines();
        int r = Bodies.make(z, 1, 1, 0, 0, 11, 0, 0);
        for (int[] row : rows) {
            CHECK.sentence("A FIRST VALUE of a LOCAL (its lowest 16 bits): 1.");
            CHECK.due("first", z.first(r, 0, row[0]), 1);
            CHECK.due("first value " + row[0], z.run(r, 9), row[1]);
            CHECK.sentence("of 0 a counts by its lowest 16 bits");
            CHECK.due("0 with " + row[0], Bodies.outcome(0, row[0], 0, 11, 0, 0), row[1]);
            CHECK.sentence("A NUMBER more is GIVEN to the next RUN");
            CHECK.due("give", z.give(row[0]), 1);
            CHECK.due("given " + row[0], z.run(r, 9), row[1]);
            CHECK.sentence("the top on USER STACK a");
            z.room(0, 1);
            int put = Bodies.make(z, 0, 0, row[0], 0, 15, 0, 0, 11, 0, 0);
            z.run(put, 9);
            CHECK.due("put " + row[0], z.user(0, 0), row[1]);
        }
        CHECK.sentence("(a and b may be anything; of 0 a counts by its lowest 16 bits.) - and of others does not");
        CHECK.due("LOCAL 65536", z.run(Bodies.make(z, 1, 1, 65536, 0, 11, 0, 0), 9), Bodies.LOCAL);
        CHECK.due("place 65538", Bodies.outcome(9, 65538, 0, 0, 1, 0, 11, 0, 0), Bodies.PLACE);
        CHECK.due("ROUTINE 65536", Bodies.outcome(10, 65536, 0, 11, 0, 0), Bodies.ROUTINE);
        CHECK.due("b of 65536", Bodies.outcome(10, 0, 65536, 11, 0, 0), Bodies.UNDER);
        CHECK.due("USER STACK 65536", Bodies.outcome(0, 1, 0, 15, 65536, 0, 11, 0, 0), Bodies.STACK);
    }

    private static void calls512() {
        CHECK.sentence("An object is used for at most 512 calls after it has been made");
        ZRoutines z = new ZRoutines();
        int r = z.routine(1);
        z.add(r, 1, 0, 0);
        z.add(r, 11, 0, 0);
        z.first(r, 0, 0);
        for (int calls = 6; calls <= 512; calls += 2) {
            CHECK.due("call " + (calls - 1), z.give(calls), 1);
            CHECK.due("call " + calls, z.run(r, 2), calls);
        }
    }

    private static void routineNumbers() {
        CHECK.sentence("ROUTINES 0 .. 19, as they are made");
        ZRoutines z = new ZRoutines();
        for (int i = 0; i < 20; i++) {
            CHECK.due("size(0)", z.size(0), i);
            CHECK.due("clear(" + i + "), not made yet", z.clear(i), BAD);
            CHECK.due("routine", z.routine(i % 16), i);
            CHECK.due("clear(" + i + ")", z.clear(i), 0);
        }
        CHECK.due("a 21st", z.routine(0), FULL);
        CHECK.due("size(0)", z.size(0), 20);
        CHECK.due("clear(20)", z.clear(20), BAD);
        CHECK.sentence("0 .. 19: the last one is as good as the first");
        Bodies.fill(z, 19, 12, 0, 0, 11, 0, 0);
        Bodies.fill(z, 0, 10, 19, 0, 11, 0, 0);
        CHECK.due("run(19, 2)", z.run(19, 2), 1);
        CHECK.due("a call of 19", z.run(0, 4), 2);
        CHECK.due("interrupt(19, 1)", z.interrupt(19, 1), 1);
        CHECK.due("interrupted by 19", z.run(0, 9), 3);
        CHECK.due("interrupt(20, 1)", z.interrupt(20, 1), BAD);
        Bodies.fill(z, 0, 10, 20, 0, 11, 0, 0);
        z.interrupt(-1, 0);
        CHECK.due("a call of 20", z.run(0, 4), Bodies.ROUTINE);
    }

    private static void localCounts() {
        CHECK.sentence("LOCALS (0 to 15 ..)");
        for (int locals = 0; locals <= 15; locals++) {
            ZRoutines z = new ZRoutines();
            CHECK.due("routine(" + locals + ")", z.routine(locals), 0);
            z.routine(15);
            for (int i = 0; i < locals; i++) {
                CHECK.due("first of local " + i + " of " + locals, z.first(0, i, 10 + i), 1);
            }
            CHECK.due("none behind " + locals, z.first(0, locals, 1), BAD);
            CHECK.due("none ahead", z.first(0, -1, 1), BAD);
            for (int i = 0; i < locals; i++) {
                Bodies.fill(z, 0, 1, i, 0, 11, 0, 0);
                CHECK.due("local " + i + " of " + locals, z.run(0, 2), 10 + i);
            }
            Bodies.fill(z, 0, 1, locals, 0, 11, 0, 0);
            CHECK.due("the local behind " + locals, z.run(0, 2), Bodies.LOCAL);
            Bodies.fill(z, 0, 0, 3, 0, 2, locals, 0);
            CHECK.due("into the local behind " + locals, z.run(0, 2), Bodies.LOCAL);
            for (int i = 0; i < 15; i++) {
                Bodies.fill(z, 1, 1, i, 0, 11, 0, 0);
                CHECK.due("the next routine's own", z.run(1, 2), 0);
            }
        }
        int[] wrong = {-1, 16, LEAST, MOST};
        for (int locals : wrong) {
            CHECK.due("routine(" + locals + ")", new ZRoutines().routine(locals), BAD);
        }
    }

    private static void firstValues() {
        CHECK.sentence("FIRST VALUES, 0 as long as none is told");
        ZRoutines z = new ZRoutines();
        int r = z.routine(15);
        for (int i = 0; i < 15; i++) {
            Bodies.fill(z, r, 1, i, 0, 11, 0, 0);
            CHECK.due("local " + i, z.run(r, 2), 0);
        }
        Bodies.fill(z, r, 1, 14, 0, 11, 0, 0);
        z.first(r, 14, 5);
        CHECK.due("told", z.run(r, 2), 5);
        z.first(r, 14, 6);
        CHECK.due("told once more", z.run(r, 2), 6);
        z.first(r, 14, 0);
        CHECK.due("0 is told", z.run(r, 2), 0);
        CHECK.sentence("A CALL of a ROUTINE opens a FRAME: LOCALS have their FIRST VALUES - each time");
        z.first(r, 14, 6);
        Bodies.fill(z, r, 1, 14, 0, 0, 1, 0, 3, 0, 0, 2, 14, 0, 1, 14, 0, 11, 0, 0);
        CHECK.due("one more than it", z.run(r, 9), 7);
        CHECK.due("in the next run", z.run(r, 9), 7);
        int twice = Bodies.make(z, 0, 10, r, 0, 10, r, 0, 3, 0, 0, 11, 0, 0);
        CHECK.due("in each of two calls", z.run(twice, 99), 14);
    }

    private static void instructionCounts() {
        CHECK.sentence("INSTRUCTIONS (24 at most ..)");
        ZRoutines z = new ZRoutines();
        int r = z.routine(0);
        int next = z.routine(0);
        z.add(next, 0, 9, 0);
        z.add(next, 11, 0, 0);
        for (int i = 0; i < 22; i++) {
            CHECK.due("add", z.add(r, 9, i + 1, 0), i + 1);
        }
        CHECK.due("a 23rd", z.add(r, 0, 8, 0), 23);
        CHECK.due("without the 24th", z.run(r, 99), Bodies.PLACE);
        CHECK.dueTold("without the 24th", z, 3, 7, r, 23, 1, 24, 0, 1);
        CHECK.due("a 24th", z.add(r, 11, 0, 0), 24);
        CHECK.due("a 25th", z.add(r, 0, 0, 0), FULL);
        CHECK.due("how many", z.size(1 + r), 24);
        CHECK.due("all are done", z.run(r, 24), 8);
        CHECK.due("the next one's", z.run(next, 2), 9);
        CHECK.due("the next one's", z.size(1 + next), 2);
        CHECK.sentence("INSTRUCTIONS, from 0 on; behind one comes the next one. .. behind the last one: PLACE.");
        Bodies.fill(z, r, 0, 8, 0);
        CHECK.due("behind the last of one", z.run(r, 99), Bodies.PLACE);
        CHECK.dueTold("behind the last of one", z, 3, 7, r, 1, 1, 2, 0, 1);
        z.clear(r);
        CHECK.due("an empty body", z.run(r, 99), Bodies.PLACE);
        CHECK.dueTold("an empty body", z, 3, 7, r, 0, 1, 1, 0, 1);
        for (int i = 0; i < 24; i++) {
            z.add(r, 9, i + 1, 0);
        }
        CHECK.due("behind the 24th, where another body begins", z.run(r, 99), Bodies.PLACE);
        CHECK.dueTold("behind the 24th", z, 3, 7, r, 24, 1, 25, 0, 1);
    }

    private static void clearedBodies() {
        CHECK.sentence("A BODY is empty: how many it had.");
        ZRoutines z = new ZRoutines();
        int r = z.routine(2);
        z.first(r, 1, 4);
        int[] counts = {0, 1, 23, 24};
        for (int count : counts) {
            for (int i = 0; i < count; i++) {
                z.add(r, 0, i, 0);
            }
            CHECK.due("clear of " + count, z.clear(r), count);
            CHECK.due("size", z.size(1 + r), 0);
            CHECK.due("clear again", z.clear(r), 0);
            CHECK.due("nothing is there", z.run(r, 9), Bodies.PLACE);
            CHECK.due("told", z.told(5), 1);
        }
        CHECK.due("the next is the first", z.add(r, 1, 1, 0), 1);
        CHECK.due("and a second", z.add(r, 11, 0, 0), 2);
        CHECK.due("locals are as they were", z.run(r, 9), 4);
    }

    /** A routine that puts v on stack s and comes to what 15 told. */
    private static int put(ZRoutines z, int s, int v) {
        Bodies.fill(z, 0, 0, v, 0, 15, s, 0, 11, 0, 0);
        return z.run(0, 3);
    }

    private static void userStackNumbers() {
        CHECK.sentence("USER STACKS 0 .. 3");
        ZRoutines z = new ZRoutines();
        z.routine(0);
        int[] wrong = {-1, 4, LEAST, MOST};
        for (int s : wrong) {
            CHECK.due("room(" + s + ", 1)", z.room(s, 1), BAD);
            CHECK.due("user(" + s + ", -1)", z.user(s, -1), BAD);
            CHECK.due("user(" + s + ", 0)", z.user(s, 0), BAD);
            CHECK.due("15 with " + s, put(z, s, 1), Bodies.STACK);
            Bodies.fill(z, 0, 16, s, 0, 11, 0, 0);
            CHECK.due("16 with " + s, z.run(0, 2), Bodies.STACK);
        }
        for (int s = 0; s < 4; s++) {
            CHECK.due("room(" + s + ", 10)", z.room(s, 10), 0);
        }
        for (int i = 0; i < 10; i++) {
            for (int s = 0; s < 4; s++) {
                CHECK.due("15 with " + s, put(z, s, 100 * s + i), 1);
            }
        }
        for (int s = 0; s < 4; s++) {
            CHECK.due("user(" + s + ", -1)", z.user(s, -1), 10);
            for (int k = 0; k < 10; k++) {
                CHECK.due("user(" + s + ", " + k + ")", z.user(s, k), 100 * s + 9 - k);
            }
            Bodies.fill(z, 0, 16, s, 0, 11, 0, 0);
            CHECK.due("16 with " + s, z.run(0, 2), 100 * s + 9);
        }
    }

    private static void rooms() {
        CHECK.sentence("room for so many NUMBERS (0 at first; up to 10)");
        ZRoutines z = new ZRoutines();
        z.routine(0);
        for (int s = 0; s < 4; s++) {
            CHECK.due("at first", put(z, s, 1), 0);
            CHECK.due("at first", z.user(s, -1), 0);
        }
        CHECK.due("room(2, -1)", z.room(2, -1), BAD);
        CHECK.due("room(2, 11)", z.room(2, 11), BAD);
        CHECK.sentence("USER STACK s is empty, with room for n (0 to 10): how many it had.");
        int had = 0;
        int[] rooms = {0, 1, 2, 9, 10, 3};
        for (int n : rooms) {
            CHECK.due("room(2, " + n + ")", z.room(2, n), had);
            CHECK.due("it is empty", z.user(2, -1), 0);
            CHECK.due("it is empty", z.user(2, 0), BAD);
            for (int i = 0; i < n; i++) {
                CHECK.due("number " + (i + 1) + " of " + n, put(z, 2, 40 + i), 1);
            }
            CHECK.due("one more than " + n, put(z, 2, 99), 0);
            CHECK.due("how many", z.user(2, -1), n);
            CHECK.due("the top", z.user(2, 0), n == 0 ? BAD : 39 + n);
            had = n;
        }
        CHECK.due("others", z.user(1, -1) + z.user(3, -1), 0);
        for (int count = 0; count <= 7; count++) {
            z.room(3, 7);
            for (int i = 0; i < count; i++) {
                put(z, 3, i);
            }
            CHECK.due("it had " + count + " of 7", z.room(3, 8), count);
            CHECK.due("it had none of 8", z.room(3, 0), 0);
        }
        CHECK.sentence("15 .. 1 on the STACK, if there was room, else 0. - and there is room again behind 16");
        Bodies.fill(z, 0, 16, 2, 0, 11, 0, 0);
        CHECK.due("16", z.run(0, 2), 42);
        CHECK.due("room for one", put(z, 2, 50), 1);
        CHECK.due("and for no other", put(z, 2, 51), 0);
        CHECK.due("the top", z.user(2, 0), 50);
    }

    private static void kthNumbers() {
        CHECK.sentence("The k-th NUMBER of USER STACK s from the top (0); k = -1: how many. BAD: also, none such.");
        ZRoutines z = new ZRoutines();
        z.routine(0);
        z.room(3, 10);
        for (int count = 0; count <= 10; count++) {
            CHECK.due("k = -2 of " + count, z.user(3, -2), BAD);
            CHECK.due("k = -1 of " + count, z.user(3, -1), count);
            for (int k = 0; k < count; k++) {
                CHECK.due("k = " + k + " of " + count, z.user(3, k), 60 + count - 1 - k);
            }
            CHECK.due("k = " + count + " of " + count, z.user(3, count), BAD);
            put(z, 3, 60 + count);
        }
        int[] wrong = {10, 11, LEAST, MOST};
        for (int k : wrong) {
            CHECK.due("k = " + k, z.user(3, k), BAD);
        }
        CHECK.sentence("16 .. (UNDER: it is empty)");
        Bodies.fill(z, 0, 16, 3, 0, 11, 0, 0);
        for (int left = 9; left >= 0; left--) {
            CHECK.due("16", z.run(0, 2), 60 + left);
            CHECK.due("how many are left", z.user(3, -1), left);
            CHECK.due("the next", z.user(3, 0), left == 0 ? BAD : 60 + left - 1);
        }
        CHECK.due("16 of an empty one", z.run(0, 2), Bodies.UNDER);
        CHECK.due("it stays empty", z.user(3, -1), 0);
    }

    /** Gives 70, 71 .. to a run that shows a local. */
    private static int shown(int locals, int given, int local) {
        ZRoutines z = new ZRoutines();
        int r = Bodies.make(z, locals, 1, local, 0, 11, 0, 0);
        for (int i = 0; i < locals; i++) {
            z.first(r, i, 20 + i);
        }
        for (int i = 0; i < given; i++) {
            z.give(70 + i);
        }
        return z.run(r, 2);
    }

    private static void givenAndLocals() {
        CHECK.sentence("LOCALS have their FIRST VALUES, but the first ones what was GIVEN (more than there are LOCALS are lost)");
        int[] counts = {0, 1, 2, 14, 15};
        for (int locals : counts) {
            for (int given = 0; given <= 15; given++) {
                for (int i = 0; i < locals; i++) {
                    CHECK.due("local " + i + " of " + locals + ", " + given + " given", shown(locals, given, i),
                        i < given ? 70 + i : 20 + i);
                }
                CHECK.due("no more locals by what is given", shown(locals, given, locals), Bodies.LOCAL);
            }
        }
    }

    private static void givenToCalls() {
        CHECK.sentence("10 a CALL of a with b NUMBERS from the STACK, the lowest the first one");
        for (int b = 0; b <= 15; b++) {
            for (int local = 0; local < 15; local++) {
                ZRoutines z = new ZRoutines();
                int caller = z.routine(0);
                int called = Bodies.make(z, 15, 1, local, 0, 11, 0, 0);
                z.first(called, local, 33);
                for (int i = 0; i < 16; i++) {
                    z.add(caller, 0, 70 + i, 0);
                }
                z.add(caller, 10, called, b);
                z.add(caller, 11, 0, 0);
                CHECK.due("local " + local + " of a call with " + b, z.run(caller, 99),
                    local < b ? 70 + 16 - b + local : 33);
            }
        }
        CHECK.sentence("10 .. what it comes to on the STACK of this FRAME - where the b NUMBERS were");
        for (int b = 0; b <= 15; b++) {
            ZRoutines z = new ZRoutines();
            int caller = z.routine(0);
            int called = Bodies.make(z, 0, 0, 5, 0, 0, 6, 0, 11, 0, 0);
            for (int i = 0; i < 16; i++) {
                z.add(caller, 0, 70 + i, 0);
            }
            z.add(caller, 10, called, b);
            z.add(caller, 4, 0, 0);
            z.add(caller, 11, 0, 0);
            CHECK.due("what lies below, less what came of a call with " + b, z.run(caller, 99), 70 + 15 - b - 6);
        }
        CHECK.sentence("14 how many were GIVEN to this FRAME");
        for (int b = 0; b <= 15; b++) {
            ZRoutines z = new ZRoutines();
            int caller = z.routine(0);
            int called = Bodies.make(z, 2, 14, 0, 0, 11, 0, 0);
            for (int i = 0; i < 16; i++) {
                z.add(caller, 0, 70 + i, 0);
            }
            z.add(caller, 10, called, b);
            z.add(caller, 11, 0, 0);
            CHECK.due("given to a call, 2 LOCALS", z.run(caller, 99), b);
            for (int i = 0; i < b; i++) {
                z.give(1);
            }
            CHECK.due("given to a run, 2 LOCALS", z.run(called, 99), b);
        }
    }

    private static void givenCounts() {
        CHECK.sentence("A NUMBER more is GIVEN to the next RUN: how many. FULL: 15.");
        ZRoutines z = new ZRoutines();
        int r = Bodies.make(z, 15, 14, 0, 0, 11, 0, 0);
        for (int i = 1; i <= 15; i++) {
            CHECK.due("give", z.give(i), i);
        }
        CHECK.due("a 16th", z.give(16), FULL);
        CHECK.due("a 17th", z.give(LEAST), FULL);
        CHECK.due("refused", z.run(r, 2001), BAD);
        CHECK.due("they are still there", z.give(16), FULL);
        CHECK.due("all 15", z.run(r, 2), 15);
        CHECK.sentence("with what is GIVEN (which goes)");
        CHECK.due("none", z.run(r, 2), 0);
        z.give(1);
        CHECK.due("a run with a FAULT", z.run(r, 0), Bodies.FUEL);
        CHECK.due("none", z.run(r, 2), 0);
        CHECK.due("from 1 again", z.give(9), 1);
    }

    private static void fuels() {
        CHECK.sentence("with FUEL (0 to 2000)");
        ZRoutines z = new ZRoutines();
        int loop = Bodies.make(z, 0, 9, 0, 0);
        int[] good = {0, 1, 1999, 2000};
        for (int fuel : good) {
            CHECK.due("fuel " + fuel, z.run(loop, fuel), Bodies.FUEL);
            CHECK.dueTold("fuel " + fuel, z, 3, 9, loop, 0, 1, fuel, 0, 1);
        }
        int[] wrong = {-1, 2001, LEAST, MOST};
        for (int fuel : wrong) {
            CHECK.due("fuel " + fuel, z.run(loop, fuel), BAD);
        }
        CHECK.sentence("when a RUN would begin one more than its FUEL: FUEL, ahead of all");
        int two = Bodies.make(z, 0, 0, 4, 0, 11, 0, 0);
        CHECK.due("with none", z.run(two, 0), Bodies.FUEL);
        CHECK.dueTold("with none", z, 3, 9, two, 0, 1, 0, 0, 1);
        CHECK.due("with one", z.run(two, 1), Bodies.FUEL);
        CHECK.dueTold("with one", z, 3, 9, two, 1, 1, 1, 0, 1);
        CHECK.due("with just two", z.run(two, 2), 4);
        CHECK.dueTold("with just two", z, 1, 0, 0, 0, 0, 2, 0, 1);
        CHECK.sentence("Each is a STEP (also one that there is not: PLACE)");
        int none = z.routine(0);
        CHECK.due("no fuel for it", z.run(none, 0), Bodies.FUEL);
        CHECK.dueTold("no fuel for it", z, 3, 9, none, 0, 1, 0, 0, 1);
        CHECK.due("fuel for it", z.run(none, 1), Bodies.PLACE);
        CHECK.dueTold("fuel for it", z, 3, 7, none, 0, 1, 1, 0, 1);
    }

    private static void everies() {
        CHECK.sentence("behind every so many STEPS (1 to 1000)");
        ZRoutines z = new ZRoutines();
        int loop = Bodies.make(z, 0, 9, 0, 0);
        int five = Bodies.make(z, 0, 0, 5, 0, 11, 0, 0);
        int[] good = {1, 2, 999, 1000};
        for (int every : good) {
            CHECK.due("interrupt(five, " + every + ")", z.interrupt(five, every), 1);
            CHECK.due("every " + every, z.run(loop, 2000), 5);
            CHECK.dueTold("every " + every, z, 2, 0, 0, 0, 0, every + 2, 1, 2);
        }
        int[] wrong = {0, -1, 1001, LEAST, MOST};
        for (int every : wrong) {
            CHECK.due("interrupt(five, " + every + ")", z.interrupt(five, every), BAD);
            CHECK.due("still every 1000", z.run(loop, 2000), 5);
            CHECK.due("still every 1000", z.told(5), 1002);
        }
        CHECK.sentence("routine = -1: none (every is not looked at then). 1.");
        int[] any = {0, -1, 1, 1000, 1001, LEAST, MOST};
        for (int every : any) {
            z.interrupt(five, 1);
            CHECK.due("interrupt(-1, " + every + ")", z.interrupt(-1, every), 1);
            CHECK.due("none", z.run(loop, 2000), Bodies.FUEL);
            CHECK.dueTold("none", z, 3, 9, loop, 0, 1, 2000, 0, 1);
        }
        CHECK.due("interrupt(-2, 1)", z.interrupt(-2, 1), BAD);
        CHECK.due("interrupt(2, 1)", z.interrupt(2, 1), BAD);
        CHECK.due("still none", z.run(loop, 5), Bodies.FUEL);
    }

    private static void toldNumbers() {
        CHECK.sentence("Of the latest RUN: 0 how it ended: 0 none was");
        ZRoutines z = new ZRoutines();
        CHECK.dueTold("a new object", z, 0, 0, 0, 0, 0, 0, 0, 0);
        z.routine(0);
        int two = Bodies.make(z, 0, 0, 4, 0, 11, 0, 0);
        int call = Bodies.make(z, 0, 10, two, 0, 18, 0, 0, 18, 0, 0);
        z.run(9, 9);
        z.run(two, 2001);
        CHECK.dueTold("refused runs are none", z, 0, 0, 0, 0, 0, 0, 0, 0);
        CHECK.due("told(-1)", z.told(-1), BAD);
        CHECK.due("told(8)", z.told(8), BAD);

        CHECK.sentence("1 its FRAME was closed, 2 by an INTERRUPT, 3 by a FAULT");
        z.run(two, 2);
        CHECK.dueTold("closed", z, 1, 0, 0, 0, 0, 2, 0, 1);
        z.interrupt(two, 1);
        z.run(two, 3);
        CHECK.dueTold("by an interrupt", z, 2, 0, 0, 0, 0, 3, 1, 2);
        z.interrupt(-1, 1);
        CHECK.due("a fault", z.run(call, 9), Bodies.UNDER);
        CHECK.dueTold("a fault", z, 3, 1, call, 2, 1, 5, 0, 2);
        CHECK.due("refused", z.run(call, -1), BAD);
        CHECK.dueTold("the latest run that was one", z, 3, 1, call, 2, 1, 5, 0, 2);

        CHECK.sentence("(2, 3: 0 without a FAULT), 4 the FRAMES that were open then (0 likewise)");
        CHECK.due("closed", z.run(two, 9), 4);
        CHECK.dueTold("closed, behind a fault", z, 1, 0, 0, 0, 0, 2, 0, 1);
        z.run(call, 9);
        z.interrupt(two, 2);
        CHECK.due("by an interrupt", z.run(call, 9), 4);
        CHECK.dueTold("by an interrupt, behind a fault", z, 2, 0, 0, 0, 0, 4, 1, 3);
        CHECK.due("told(-1)", z.told(-1), BAD);
        CHECK.due("told(8)", z.told(8), BAD);
    }

    private static void sizes() {
        CHECK.sentence("0 ROUTINES; 1 + r: how many INSTRUCTIONS ROUTINE r has. BAD.");
        ZRoutines z = new ZRoutines();
        int[] wrong = {-1, LEAST, MOST};
        for (int count = 0; count <= 20; count++) {
            CHECK.due("size(0)", z.size(0), count);
            for (int what : wrong) {
                CHECK.due("size(" + what + ")", z.size(what), BAD);
            }
            CHECK.due("size of the last", z.size(count), count);
            CHECK.due("size of none", z.size(count + 1), BAD);
            if (count < 20) {
                z.routine(0);
                for (int i = 0; i <= count; i++) {
                    z.add(count, 0, 0, 0);
                }
            }
        }
        for (int i = z.size(20); i <= 24; i++) {
            CHECK.due("size(20)", z.size(20), i);
            CHECK.due("add", z.add(19, 0, 0, 0), i < 24 ? i + 1 : FULL);
        }
        CHECK.due("size(20)", z.size(20), 24);
    }
}
