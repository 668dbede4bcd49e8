/** Promises 1 to 5 and 12: a new object, routine, first, add, clear, size. */
public final class BuildTest {
    private static final Check CHECK = new Check("BuildTest");
    private static final int[] WILD = {Integer.MIN_VALUE, -40000, -2, -1, 20, 99, 65536, Integer.MAX_VALUE};

    public static void main(String[] args) {
        newObject();
        routine();
        first();
        add();
        clear();
        size();
        CHECK.finish();
    }

    private static void newObject() {
        ZRoutines z = new ZRoutines();
        CHECK.due("new: size(0)", z.size(0), 0);
        CHECK.due("new: size(1)", z.size(1), ZRoutines.BAD);
        CHECK.dueTold("new", z, 0, 0, 0, 0, 0, 0, 0, 0);
        for (int s = 0; s < 4; s++) {
            CHECK.due("new: user(s, -1)", z.user(s, -1), 0);
            int r = Bodies.make(z, 0, 0, 9, 0, 15, s, 0, 11, 0, 0);
            CHECK.due("new: no room on stack " + s, z.run(r, 10), 0);
            CHECK.due("new: nothing put on stack " + s, z.user(s, -1), 0);
        }
        CHECK.due("new: first", new ZRoutines().first(0, 0, 0), ZRoutines.BAD);
        CHECK.due("new: add", new ZRoutines().add(0, 0, 0, 0), ZRoutines.BAD);
        CHECK.due("new: clear", new ZRoutines().clear(0), ZRoutines.BAD);
        CHECK.due("new: interrupt", new ZRoutines().interrupt(0, 1), ZRoutines.BAD);
        CHECK.due("new: run", new ZRoutines().run(0, 1), ZRoutines.BAD);
    }

    private static void routine() {
        ZRoutines z = new ZRoutines();
        CHECK.due("routine(-1)", z.routine(-1), ZRoutines.BAD);
        CHECK.due("routine(16)", z.routine(16), ZRoutines.BAD);
        for (int i = 0; i < 20; i++) {
            CHECK.due("routine " + i, z.routine(i % 16), i);
        }
        CHECK.due("a 21st", z.routine(0), ZRoutines.FULL);
        CHECK.due("a 21st, BAD first", z.routine(16), ZRoutines.BAD);
        CHECK.due("a 21st, BAD first", z.routine(Integer.MIN_VALUE), ZRoutines.BAD);
        CHECK.due("count", z.size(0), 20);
        CHECK.due("last local of 15", z.first(15, 14, 1), 1);
        CHECK.due("none behind it", z.first(15, 15, 1), ZRoutines.BAD);
        CHECK.due("none of 0 locals", z.first(16, 0, 1), ZRoutines.BAD);
    }

    private static void first() {
        ZRoutines z = new ZRoutines();
        z.routine(2);
        int r = Bodies.make(z, 2, 1, 1, 0, 11, 0, 0);
        CHECK.due("0 as long as none is told", z.run(r, 9), 0);
        int[][] wraps = {{5, 5}, {32767, 32767}, {32768, -32768}, {-32769, 32767}, {70000, 4464},
            {65536, 0}, {Integer.MIN_VALUE, 0}, {Integer.MAX_VALUE, -1}, {-7, -7}};
        for (int[] w : wraps) {
            CHECK.due("first(r, 1, " + w[0] + ")", z.first(r, 1, w[0]), 1);
            CHECK.due("what " + w[0] + " is", z.run(r, 9), w[1]);
        }
        z.first(r, 0, 8);
        z.first(0, 1, 9);
        CHECK.due("another local and routine", z.run(r, 9), -7);
        for (int wild : WILD) {
            CHECK.due("first(" + wild + ", 0, 1)", z.first(wild, 0, 1), ZRoutines.BAD);
            CHECK.due("first(1, " + wild + ", 1)", z.first(r, wild, 1), ZRoutines.BAD);
        }
        Bodies.fill(z, r, 0, 3, 0, 2, 1, 0, 1, 1, 0, 11, 0, 0);
        CHECK.due("a local set", z.run(r, 9), 3);
        Bodies.fill(z, r, 1, 1, 0, 11, 0, 0);
        CHECK.due("the first value stays", z.run(r, 9), -7);
    }

    private static void add() {
        ZRoutines z = new ZRoutines();
        z.routine(0);
        z.routine(0);
        int[] ops = {0, 19, 20, 99, -1, Integer.MIN_VALUE, Integer.MAX_VALUE};
        for (int i = 0; i < 24; i++) {
            int op = ops[i % ops.length];
            CHECK.due("add " + i, z.add(0, op, WILD[i % WILD.length], WILD[(i + 3) % WILD.length]), i + 1);
        }
        CHECK.due("a 25th", z.add(0, 0, 0, 0), ZRoutines.FULL);
        CHECK.due("how many", z.size(1), 24);
        CHECK.due("another body", z.add(1, 0, 0, 0), 1);
        for (int wild : WILD) {
            CHECK.due("add(" + wild + ", ..)", z.add(wild, 0, 0, 0), ZRoutines.BAD);
        }
        CHECK.due("0 with 32768", Bodies.outcome(0, 32768, 0, 11, 0, 0), -32768);
        CHECK.due("0 with 65541", Bodies.outcome(0, 65541, 0, 11, 0, 0), 5);
        CHECK.due("0 with -65537", Bodies.outcome(0, -65537, 0, 11, 0, 0), -1);
        ZRoutines w = new ZRoutines();
        CHECK.due("1 with 65536", w.run(Bodies.make(w, 1, 1, 65536, 0, 11, 0, 0), 9), Bodies.LOCAL);
    }

    private static void clear() {
        ZRoutines z = new ZRoutines();
        int r = Bodies.make(z, 1, 0, 4, 0, 11, 0, 0);
        int other = Bodies.make(z, 1, 0, 4, 0, 0, 4, 0, 11, 0, 0);
        z.first(r, 0, 12);
        CHECK.due("clear", z.clear(r), 2);
        CHECK.due("size behind it", z.size(1 + r), 0);
        CHECK.due("the other", z.size(1 + other), 3);
        CHECK.due("clear again", z.clear(r), 0);
        CHECK.due("an empty body", z.run(r, 9), Bodies.PLACE);
        CHECK.due("add behind it", z.add(r, 1, 0, 0), 1);
        CHECK.due("add behind it", z.add(r, 11, 0, 0), 2);
        CHECK.due("first values stay", z.run(r, 9), 12);
        for (int wild : WILD) {
            CHECK.due("clear(" + wild + ")", z.clear(wild), ZRoutines.BAD);
        }
    }

    private static void size() {
        ZRoutines z = new ZRoutines();
        for (int i = 0; i < 20; i++) {
            CHECK.due("size(1 + r), none yet", z.size(1 + i), ZRoutines.BAD);
            z.routine(0);
            CHECK.due("size(0)", z.size(0), i + 1);
            for (int k = 0; k < i; k++) {
                z.add(i, 0, 0, 0);
            }
        }
        for (int i = 0; i < 20; i++) {
            CHECK.due("size(1 + " + i + ")", z.size(1 + i), i);
        }
        int[] wrong = {-1, 21, 22, Integer.MIN_VALUE, Integer.MAX_VALUE};
        for (int what : wrong) {
            CHECK.due("size(" + what + ")", z.size(what), ZRoutines.BAD);
        }
    }
}
