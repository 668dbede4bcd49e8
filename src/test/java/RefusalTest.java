/** "REFUSALS, the first that fits, change nothing: BAD ..; FULL." Each call's refusals, by twins. */
public final class RefusalTest {
    private static final Check CHECK = new Check("RefusalTest");
    private static final int BAD = ZRoutines.BAD, FULL = ZRoutines.FULL;
    private static final int LEAST = Integer.MIN_VALUE, MOST = Integer.MAX_VALUE;

    public static void main(String[] args) {
        Twins some = new Twins(CHECK, "some", RefusalTest::some);
        Twins full = new Twins(CHECK, "full", RefusalTest::full);
        Twins fresh = new Twins(CHECK, "new", z -> { });
        ofRoutine(some, full);
        ofFirst(some, full, fresh);
        ofAdd(some, full, fresh);
        ofClear(some, full, fresh);
        ofRoom(some, full, fresh);
        ofUser(some, full, fresh);
        ofInterrupt(some, full, fresh);
        ofGive(full);
        ofRun(some, full, fresh);
        ofTold(some, full, fresh);
        ofSize(some, full, fresh);
        CHECK.finish();
    }

    /** Two routines whose runs show their locals, one that moves numbers of the user, one to interrupt. */
    private static void fourRoutines(ZRoutines z) {
        z.routine(15);
        z.routine(15);
        z.routine(0);
        z.routine(1);
        for (int local = 0; local < 15; local++) {
            z.first(0, local, 3 + 2 * local);
            z.first(1, local, 1000 - 7 * local);
        }
        z.add(0, 1, 0, 0);
        for (int local = 1; local < 11; local++) {
            z.add(0, 1, local, 0);
            z.add(0, 4 + local % 2, 0, 0);
        }
        z.add(0, 11, 0, 0);
        z.add(1, 14, 0, 0);
        for (int local = 11; local < 15; local++) {
            z.add(1, 1, local, 0);
            z.add(1, 4 + local % 2, 0, 0);
        }
        z.add(1, 11, 0, 0);
        Bodies.fill(z, 2, 0, 41, 0, 15, 0, 0, 0, 42, 0, 15, 0, 0, 16, 0, 0, 15, 1, 0, 11, 0, 0);
        Bodies.fill(z, 3, 1, 0, 0, 15, 2, 0, 18, 0, 0, 0, 0, 0, 11, 0, 0);
        z.first(3, 0, 19);
    }

    /** Four routines, numbers on the user's stacks, an interrupt, a run with a fault, three given. */
    private static void some(ZRoutines z) {
        fourRoutines(z);
        z.room(0, 5);
        z.room(1, 3);
        z.room(2, 10);
        z.run(2, 100);
        z.interrupt(3, 4);
        z.run(0, 9);
        z.give(-5);
        z.give(6);
        z.give(7);
    }

    /** As many of all things as there can be. */
    private static void full(ZRoutines z) {
        fourRoutines(z);
        for (int r = 4; r < 20; r++) {
            z.routine(r - 4);
        }
        for (int r = 0; r < 2; r++) {
            for (int i = z.size(1 + r); i < 24; i++) {
                z.add(r, 18, 0, 0);
            }
        }
        for (int s = 0; s < 4; s++) {
            z.room(s, 10);
            Bodies.fill(z, 2, 0, 7 + s, 0, 15, s, 0, 8, 5, 0, 9, 0, 0, 0, 0, 0, 14, 0, 0, 11, 0, 0);
            z.run(2, 100);
        }
        z.interrupt(3, 2);
        for (int i = 0; i < 15; i++) {
            z.give(100 * i - 600);
        }
    }

    private static void ofRoutine(Twins some, Twins full) {
        CHECK.sentence("Promise 2: (0 to 15) .. BAD; FULL.");
        int[] wrong = {-1, 16, LEAST, MOST, 65536};
        for (int locals : wrong) {
            some.dueUnchanged("routine(" + locals + ")", BAD, z -> z.routine(locals));
            full.dueUnchanged("routine(" + locals + "), BAD being the first", BAD, z -> z.routine(locals));
        }
        full.dueUnchanged("routine(0)", FULL, z -> z.routine(0));
        full.dueUnchanged("routine(15)", FULL, z -> z.routine(15));
    }

    private static void ofFirst(Twins some, Twins full, Twins fresh) {
        CHECK.sentence("Promise 3: A FIRST VALUE of a LOCAL .. BAD.");
        int[][] wrong = {{-1, 0}, {4, 0}, {LEAST, 0}, {MOST, 0}, {0, -1}, {0, 15}, {2, 0}, {3, 1},
            {0, LEAST}, {0, MOST}, {-1, -1}, {4, 15}, {0, 65536}};
        for (int[] w : wrong) {
            some.dueUnchanged("first(" + w[0] + ", " + w[1] + ", 9)", BAD, z -> z.first(w[0], w[1], 9));
        }
        full.dueUnchanged("first(20, 0, 9)", BAD, z -> z.first(20, 0, 9));
        fresh.dueUnchanged("first(0, 0, 9)", BAD, z -> z.first(0, 0, 9));
    }

    private static void ofAdd(Twins some, Twins full, Twins fresh) {
        CHECK.sentence("Promise 4: An INSTRUCTION more .. BAD; FULL.");
        int[] wrong = {-1, 4, LEAST, MOST, 65536};
        for (int r : wrong) {
            some.dueUnchanged("add(" + r + ", 0, 1, 2)", BAD, z -> z.add(r, 0, 1, 2));
        }
        full.dueUnchanged("add(-1, 0, 1, 2)", BAD, z -> z.add(-1, 0, 1, 2));
        full.dueUnchanged("add(20, 0, 1, 2)", BAD, z -> z.add(20, 0, 1, 2));
        full.dueUnchanged("add(0, 0, 1, 2)", FULL, z -> z.add(0, 0, 1, 2));
        full.dueUnchanged("add(1, -1, -1, -1)", FULL, z -> z.add(1, -1, -1, -1));
        fresh.dueUnchanged("add(0, 0, 1, 2)", BAD, z -> z.add(0, 0, 1, 2));
    }

    private static void ofClear(Twins some, Twins full, Twins fresh) {
        CHECK.sentence("Promise 5: A BODY is empty .. BAD.");
        int[] wrong = {-1, 4, LEAST, MOST, 65536};
        for (int r : wrong) {
            some.dueUnchanged("clear(" + r + ")", BAD, z -> z.clear(r));
        }
        full.dueUnchanged("clear(20)", BAD, z -> z.clear(20));
        fresh.dueUnchanged("clear(0)", BAD, z -> z.clear(0));
    }

    private static void ofRoom(Twins some, Twins full, Twins fresh) {
        CHECK.sentence("Promise 6: USER STACK s is empty, with room for n (0 to 10) .. BAD.");
        int[][] wrong = {{-1, 5}, {4, 5}, {LEAST, 5}, {MOST, 5}, {0, -1}, {0, 11}, {3, -1}, {3, 11},
            {0, LEAST}, {0, MOST}, {-1, -1}, {4, 11}, {65536, 1}, {0, 65537}};
        for (int[] w : wrong) {
            some.dueUnchanged("room(" + w[0] + ", " + w[1] + ")", BAD, z -> z.room(w[0], w[1]));
            full.dueUnchanged("room(" + w[0] + ", " + w[1] + ")", BAD, z -> z.room(w[0], w[1]));
        }
        fresh.dueUnchanged("room(0, 11)", BAD, z -> z.room(0, 11));
    }

    private static void ofUser(Twins some, Twins full, Twins fresh) {
        CHECK.sentence("Promise 7: The k-th NUMBER of USER STACK s .. BAD: also, none such.");
        int[][] wrong = {{-1, -1}, {4, -1}, {-1, 0}, {4, 0}, {LEAST, -1}, {MOST, -1}, {0, -2}, {0, 10},
            {3, 10}, {0, LEAST}, {0, MOST}, {0, 65535}};
        for (int[] w : wrong) {
            some.dueUnchanged("user(" + w[0] + ", " + w[1] + ")", BAD, z -> z.user(w[0], w[1]));
            full.dueUnchanged("user(" + w[0] + ", " + w[1] + ")", BAD, z -> z.user(w[0], w[1]));
        }
        some.dueUnchanged("user(1, 0)", 42, z -> z.user(1, 0));
        some.dueUnchanged("user(1, 1)", BAD, z -> z.user(1, 1));
        some.dueUnchanged("user(3, 0)", BAD, z -> z.user(3, 0));
        some.dueUnchanged("user(1, -1)", 1, z -> z.user(1, -1));
        full.dueUnchanged("user(3, 9)", 10, z -> z.user(3, 9));
        fresh.dueUnchanged("user(0, 0)", BAD, z -> z.user(0, 0));
        fresh.dueUnchanged("user(3, -1)", 0, z -> z.user(3, -1));
    }

    private static void ofInterrupt(Twins some, Twins full, Twins fresh) {
        CHECK.sentence("Promise 8: a ROUTINE, behind every so many STEPS (1 to 1000) .. BAD.");
        int[][] wrong = {{-2, 1}, {4, 1}, {LEAST, 1}, {MOST, 1}, {0, 0}, {0, -1}, {0, 1001}, {0, LEAST},
            {0, MOST}, {4, 0}, {-2, 0}, {0, 65537}};
        for (int[] w : wrong) {
            some.dueUnchanged("interrupt(" + w[0] + ", " + w[1] + ")", BAD, z -> z.interrupt(w[0], w[1]));
        }
        full.dueUnchanged("interrupt(20, 1)", BAD, z -> z.interrupt(20, 1));
        full.dueUnchanged("interrupt(0, 1001)", BAD, z -> z.interrupt(0, 1001));
        fresh.dueUnchanged("interrupt(0, 1)", BAD, z -> z.interrupt(0, 1));
        fresh.dueUnchanged("interrupt(-1, 0)", 1, z -> z.interrupt(-1, 0));
    }

    private static void ofGive(Twins full) {
        CHECK.sentence("Promise 9: FULL: 15.");
        int[] any = {0, 1, LEAST, MOST};
        for (int v : any) {
            full.dueUnchanged("give(" + v + ")", FULL, z -> z.give(v));
        }
    }

    private static void ofRun(Twins some, Twins full, Twins fresh) {
        CHECK.sentence("Promise 10: a CALL of a ROUTINE .. with FUEL (0 to 2000) .. BAD.");
        int[][] wrong = {{-1, 5}, {4, 5}, {LEAST, 5}, {MOST, 5}, {0, -1}, {0, 2001}, {0, LEAST}, {0, MOST},
            {-1, -1}, {4, 2001}, {65536, 5}, {0, 65541}};
        for (int[] w : wrong) {
            some.dueUnchanged("run(" + w[0] + ", " + w[1] + ")", BAD, z -> z.run(w[0], w[1]));
        }
        full.dueUnchanged("run(20, 5)", BAD, z -> z.run(20, 5));
        full.dueUnchanged("run(0, 2001)", BAD, z -> z.run(0, 2001));
        fresh.dueUnchanged("run(0, 0)", BAD, z -> z.run(0, 0));
        fresh.dueUnchanged("run(-1, 0)", BAD, z -> z.run(-1, 0));
    }

    private static void ofTold(Twins some, Twins full, Twins fresh) {
        CHECK.sentence("Promise 11: 0 .. 7 .. BAD.");
        int[] wrong = {-1, 8, LEAST, MOST, 65536};
        for (int what : wrong) {
            some.dueUnchanged("told(" + what + ")", BAD, z -> z.told(what));
            full.dueUnchanged("told(" + what + ")", BAD, z -> z.told(what));
            fresh.dueUnchanged("told(" + what + ")", BAD, z -> z.told(what));
        }
        some.dueUnchanged("told(0)", 3, z -> z.told(0));
        some.dueUnchanged("told(7)", 2, z -> z.told(7));
    }

    private static void ofSize(Twins some, Twins full, Twins fresh) {
        CHECK.sentence("Promise 12: 0 ROUTINES; 1 + r .. BAD.");
        int[] wrong = {-1, 5, LEAST, MOST, 65536};
        for (int what : wrong) {
            some.dueUnchanged("size(" + what + ")", BAD, z -> z.size(what));
        }
        full.dueUnchanged("size(21)", BAD, z -> z.size(21));
        full.dueUnchanged("size(20)", 0, z -> z.size(20));
        full.dueUnchanged("size(1)", 24, z -> z.size(1));
        fresh.dueUnchanged("size(1)", BAD, z -> z.size(1));
        fresh.dueUnchanged("size(0)", 0, z -> z.size(0));
    }
}
