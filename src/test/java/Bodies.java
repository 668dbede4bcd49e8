/** Builds routines from rows of operation, a, b. */
final class Bodies {
    static final int UNDER = -50001, LOCAL = -50002, ZERO = -50003, DEEP = -50004, GONE = -50005,
        ROUTINE = -50006, PLACE = -50007, FULL = -50008, FUEL = -50009, STACK = -50010,
        INTERRUPT = -50011;

    private Bodies() {
    }

    /** A new routine with this body: its number. */
    static int make(ZRoutines z, int locals, int... rows) {
        int routine = z.routine(locals);
        fill(z, routine, rows);
        return routine;
    }

    /** The routine's body anew. */
    static void fill(ZRoutines z, int routine, int... rows) {
        z.clear(routine);
        for (int i = 0; i + 2 < rows.length; i += 3) {
            z.add(routine, rows[i], rows[i + 1], rows[i + 2]);
        }
    }

    /** What a routine without locals and with this body comes to on a new object. */
    static int outcome(int... rows) {
        ZRoutines z = new ZRoutines();
        return z.run(make(z, 0, rows), 2000);
    }
}
