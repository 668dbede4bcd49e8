/** Promises 10 and 11: each fault with what is told of it, and which of several comes. */
public final class FaultTest {
    private static final Check CHECK = new Check("FaultTest");

    public static void main(String[] args) {
        under();
        local();
        zero();
        deep();
        routine();
        place();
        full();
        deepAndFull();
        fuel();
        stack();
        afterwards();
        CHECK.finish();
    }

    /** A body that goes wrong in the first frame, at a place, behind so many steps. */
    private static void dueAt(int fault, int place, int... rows) {
        ZRoutines z = new ZRoutines();
        z.routine(0);
        int r = Bodies.make(z, 2, rows);
        String what = "fault " + fault + " of operation " + rows[rows.length - 3];
        CHECK.due(what, z.run(r, 2000), -50000 - fault);
        CHECK.dueTold(what, z, 3, fault, r, place, 1, place + 1, 0, 1);
    }

    private static void under() {
        int[] one = {2, 8, 11, 15, 17, 18};
        for (int op : one) {
            dueAt(1, 0, op, 0, 0);
        }
        int[] two = {3, 4, 5, 6, 7, 13, 19};
        for (int op : two) {
            dueAt(1, 0, op, 0, 0);
            dueAt(1, 1, 0, 0, 0, op, 0, 0);
        }
        dueAt(1, 0, 10, 1, 1);
        dueAt(1, 1, 0, 0, 0, 10, 1, 2);
        dueAt(1, 0, 10, 1, -1);
        dueAt(1, 0, 10, 1, Integer.MIN_VALUE);
        dueAt(1, 0, 10, 1, Integer.MAX_VALUE);
        int[] sixteen = new int[17 * 3];
        for (int i = 0; i < 16; i++) {
            sixteen[3 * i + 1] = i;
        }
        sixteen[48] = 10;
        sixteen[49] = 1;
        sixteen[50] = 16;
        dueAt(1, 16, sixteen);
        dueAt(1, 0, 2, 9, 0);
        dueAt(1, 0, 15, 9, 0);
        dueAt(1, 0, 10, 99, 1);
        ZRoutines z = new ZRoutines();
        int called = Bodies.make(z, 0, 18, 0, 0);
        int caller = Bodies.make(z, 0, 0, 1, 0, 10, called, 0);
        CHECK.due("the caller's numbers are not the frame's", z.run(caller, 9), Bodies.UNDER);
        CHECK.dueTold("the caller's numbers are not the frame's", z, 3, 1, called, 0, 2, 3, 0, 2);
    }

    private static void local() {
        int[] none = {2, 15, -1, Integer.MIN_VALUE, Integer.MAX_VALUE, 65536};
        for (int local : none) {
            dueAt(2, 0, 1, local, 0);
            dueAt(2, 1, 0, 5, 0, 2, local, 0);
        }
    }

    private static void zero() {
        dueAt(3, 2, 0, 5, 0, 0, 0, 0, 6, 0, 0);
        dueAt(3, 2, 0, 5, 0, 0, 65536, 0, 7, 0, 0);
        dueAt(3, 2, 0, 0, 0, 0, 0, 0, 6, 0, 0);
    }

    private static void deep() {
        ZRoutines z = new ZRoutines();
        z.routine(0);
        int r = Bodies.make(z, 0, 0, 7, 0, 10, 1, 0);
        CHECK.due("a 26th frame", z.run(r, 2000), Bodies.DEEP);
        CHECK.dueTold("a 26th frame", z, 3, 4, r, 1, 25, 50, 0, 25);
        Bodies.fill(z, r, 10, 2, 0, 10, 1, 0);
        CHECK.due("no such routine", z.run(r, 2000), Bodies.ROUTINE);
        Bodies.fill(z, r, 12, 0, 0, 0, 25, 0, 4, 0, 0, 8, 5, 0, 10, 1, 0, 10, 99, 0);
        CHECK.due("ROUTINE ahead of DEEP", z.run(r, 2000), Bodies.ROUTINE);
        CHECK.dueTold("ROUTINE ahead of DEEP", z, 3, 6, r, 5, 25, 125, 0, 25);
        Bodies.fill(z, r, 12, 0, 0, 0, 25, 0, 4, 0, 0, 8, 5, 0, 10, 1, 0, 10, 99, 1);
        CHECK.due("UNDER ahead of both", z.run(r, 2000), Bodies.UNDER);
    }

    private static void routine() {
        int[] none = {-1, 2, 19, 20, Integer.MIN_VALUE, Integer.MAX_VALUE};
        for (int r : none) {
            dueAt(6, 0, 10, r, 0);
            dueAt(6, 1, 0, 5, 0, 10, r, 1);
        }
    }

    private static void place() {
        int[] others = {20, 21, 99, -1, Integer.MIN_VALUE, Integer.MAX_VALUE};
        for (int op : others) {
            dueAt(7, 0, op, 0, 0);
            dueAt(7, 1, 0, 4, 0, op, 0, 0);
        }
        dueAt(7, 1, 0, 4, 0);
        int[] none = {1, 24, -1, -40000, 70000, Integer.MIN_VALUE, Integer.MAX_VALUE};
        for (int place : none) {
            ZRoutines z = new ZRoutines();
            int r = Bodies.make(z, 0, 9, place, 0);
            CHECK.due("to " + place, z.run(r, 9), Bodies.PLACE);
            CHECK.dueTold("to " + place, z, 3, 7, r, place, 1, 2, 0, 1);
            CHECK.due("to " + place + ", not done yet", z.run(r, 1), Bodies.FUEL);
            CHECK.dueTold("to " + place + ", not done yet", z, 3, 9, r, place, 1, 1, 0, 1);
        }
        ZRoutines z = new ZRoutines();
        int r = z.routine(0);
        for (int i = 0; i < 24; i++) {
            z.add(r, 0, i, 0);
        }
        CHECK.due("behind the 24th", z.run(r, 99), Bodies.PLACE);
        CHECK.dueTold("behind the 24th", z, 3, 7, r, 24, 1, 25, 0, 1);
        CHECK.due("an empty body", z.run(z.routine(0), 99), Bodies.PLACE);
        CHECK.dueTold("an empty body", z, 3, 7, 1, 0, 1, 1, 0, 1);
        int caller = Bodies.make(z, 0, 10, 1, 0);
        CHECK.due("an empty body called", z.run(caller, 99), Bodies.PLACE);
        CHECK.dueTold("an empty body called", z, 3, 7, 1, 0, 2, 2, 0, 2);
    }

    private static final int SIXTY_PLACE = 10, SIXTY_STEPS = 57 * 8 + 7 + 2;

    /** What a run comes to whose frame has 60 numbers, the top 7, when it does these rows. */
    private static int withSixty(ZRoutines z, int... rows) {
        int r = Bodies.make(z, 1, 0, 7, 0, 1, 0, 0, 0, 1, 0, 4, 0, 0, 2, 0, 0, 1, 0, 0, 8, 8, 0, 9, 0, 0,
            0, 7, 0, 0, 7, 0);
        for (int i = 0; i < rows.length; i += 3) {
            z.add(r, rows[i], rows[i + 1], rows[i + 2]);
        }
        z.give(58);
        return z.run(r, 2000);
    }

    private static void full() {
        int[][] pushes = {{0, 1, 0}, {1, 0, 0}, {12, 0, 0}, {14, 0, 0}, {16, 0, 0}, {17, 0, 0}, {10, 0, 0}};
        for (int[] p : pushes) {
            ZRoutines z = new ZRoutines();
            z.room(0, 2);
            int put = Bodies.make(z, 0, 0, 77, 0, 15, 0, 0, 11, 0, 0);
            z.run(put, 9);
            String what = "a 61st by " + p[0];
            CHECK.due(what, withSixty(z, p), Bodies.FULL);
            CHECK.dueTold(what, z, 3, 8, 1, SIXTY_PLACE, 1, SIXTY_STEPS + 1, 0, 1);
            CHECK.due("the user's number stays", z.user(0, 0), 77);
            CHECK.due("a 60th by " + p[0], withSixty(z, 18, 0, 0, p[0], p[1], p[2], 18, 0, 0, 11, 0, 0), 7);
        }
        ZRoutines z = new ZRoutines();
        int none = Bodies.make(z, 0, 0, 6, 0, 11, 0, 0);
        CHECK.due("a call with 59 left", withSixty(z, 10, none, 1, 11, 0, 0), 6);
        CHECK.due("what takes first is not full", withSixty(z, 15, 0, 0, 11, 0, 0), 0);
        CHECK.due("nor what takes two", withSixty(z, 3, 0, 0, 11, 0, 0), 14);
        CHECK.due("LOCAL ahead of FULL", withSixty(z, 1, 1, 0), Bodies.LOCAL);
        CHECK.due("STACK ahead of FULL", withSixty(z, 16, 4, 0), Bodies.STACK);
        CHECK.due("UNDER ahead of FULL", withSixty(z, 16, 3, 0), Bodies.UNDER);
        CHECK.due("ROUTINE ahead of FULL", withSixty(z, 10, 20, 0), Bodies.ROUTINE);
        int twelves = z.routine(0);
        for (int i = 0; i < 12; i++) {
            z.add(twelves, 0, i, 0);
        }
        z.add(twelves, 10, twelves, 0);
        CHECK.due("frames have 60 together", z.run(twelves, 2000), Bodies.FULL);
        CHECK.dueTold("frames have 60 together", z, 3, 8, twelves, 12, 5, 65, 0, 5);
        z.clear(twelves);
        for (int i = 0; i < 12; i++) {
            z.add(twelves, 0, i, 0);
        }
        z.add(twelves, 10, twelves, 1);
        CHECK.due("what is given is on no stack", z.run(twelves, 2000), Bodies.FULL);
        CHECK.dueTold("what is given is on no stack", z, 3, 8, twelves, 5, 6, 71, 0, 6);
    }

    private static void deepAndFull() {
        ZRoutines z = new ZRoutines();
        // Frames 1 to 24 leave two numbers each; the 25th fills up to 60 and calls.
        int r = Bodies.make(z, 0, 0, 1, 0, 17, 0, 0, 12, 0, 0, 0, 25, 0, 4, 0, 0, 8, 7, 0, 10, 0, 0);
        for (int i = 0; i < 10; i++) {
            z.add(r, 17, 0, 0);
        }
        z.add(r, 10, r, 0);
        CHECK.due("DEEP ahead of FULL", z.run(r, 2000), Bodies.DEEP);
        CHECK.dueTold("DEEP ahead of FULL", z, 3, 4, r, 17, 25, 24 * 7 + 6 + 11, 0, 25);
    }

    private static void fuel() {
        ZRoutines z = new ZRoutines();
        z.routine(0);
        int loop = Bodies.make(z, 0, 0, 1, 0, 18, 0, 0, 9, 0, 0);
        int[] fuels = {0, 1, 2, 3, 4, 1999, 2000};
        for (int fuel : fuels) {
            CHECK.due("fuel " + fuel, z.run(loop, fuel), Bodies.FUEL);
            CHECK.dueTold("fuel " + fuel, z, 3, 9, loop, fuel % 3, 1, fuel, 0, 1);
        }
        int caller = Bodies.make(z, 0, 10, loop, 0);
        CHECK.due("in a call", z.run(caller, 1), Bodies.FUEL);
        CHECK.dueTold("in a call", z, 3, 9, loop, 0, 2, 1, 0, 2);
        int bad = Bodies.make(z, 0, 18, 0, 0);
        CHECK.due("ahead of all", z.run(bad, 0), Bodies.FUEL);
        CHECK.due("ahead of PLACE", z.run(0, 0), Bodies.FUEL);
        CHECK.due("just enough for PLACE", z.run(0, 1), Bodies.PLACE);
        int just = Bodies.make(z, 0, 0, 4, 0, 11, 0, 0);
        CHECK.due("just enough", z.run(just, 2), 4);
        CHECK.due("one less", z.run(just, 1), Bodies.FUEL);
    }

    private static void stack() {
        int[] none = {4, -1, Integer.MIN_VALUE, Integer.MAX_VALUE, 65536};
        for (int s : none) {
            dueAt(10, 1, 0, 1, 0, 15, s, 0);
            dueAt(10, 0, 16, s, 0);
        }
        dueAt(1, 0, 16, 3, 0);
    }

    private static void afterwards() {
        ZRoutines z = new ZRoutines();
        int deep = Bodies.make(z, 1, 0, 1, 0, 0, 2, 0, 10, 0, 0);
        int clean = Bodies.make(z, 1, 12, 0, 0, 11, 0, 0);
        for (int i = 0; i < 5; i++) {
            CHECK.due("a deep fault", z.run(deep, 2000), Bodies.DEEP);
            CHECK.due("what was open is open no more", z.run(clean, 9), 1);
            CHECK.dueTold("what was open is open no more", z, 1, 0, 0, 0, 0, 2, 0, 1);
        }
        int many = Bodies.make(z, 0, 0, 1, 0, 9, 0, 0);
        CHECK.due("full", z.run(many, 2000), Bodies.FULL);
        CHECK.dueTold("full", z, 3, 8, many, 0, 1, 121, 0, 1);
        CHECK.due("full again, and no sooner", z.run(many, 2000), Bodies.FULL);
        CHECK.due("full again, and no sooner", z.told(5), 121);
        int later = Bodies.make(z, 0, 9, 1, 0, 18, 0, 0);
        CHECK.due("a fault at another place", z.run(later, 9), Bodies.UNDER);
        CHECK.dueTold("a fault at another place", z, 3, 1, later, 1, 1, 2, 0, 1);
        z.run(clean, 9);
        CHECK.dueTold("nothing of it is told of a run without one", z, 1, 0, 0, 0, 0, 2, 0, 1);
    }
}
