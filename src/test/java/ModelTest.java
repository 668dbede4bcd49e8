/** Long mixed runs of calls, asked of ZRoutines and of the model: every answer must be the same. */
public final class ModelTest {
    private static final int OBJECTS = 4000;
    private static final int CALLS = 490;
    private static final int[] WILD = {Integer.MIN_VALUE, -65536, -32769, -1, 16, 26, 61, 65536, Integer.MAX_VALUE};
    // How many numbers each operation takes from its frame's stack, and leaves there.
    private static final int[] NEEDS = {0, 0, 1, 2, 2, 2, 2, 2, 1, 0, 0, 1, 0, 2, 0, 1, 0, 1, 1, 2};
    private static final int[] LEAVES = {1, 1, 0, 1, 1, 1, 1, 1, 0, 0, 1, 0, 1, 0, 1, 1, 1, 2, 0, 1};

    private final Check check = new Check("ModelTest");
    private final int[] endings = new int[4];
    private final int[] faults = new int[12];
    private int height;
    private int locals;
    private long seed = 20261116;
    private ZRoutines z;
    private Model m;
    private int calls;

    public static void main(String[] args) {
        new ModelTest().go();
    }

    private void go() {
        for (int i = 0; i < OBJECTS && !check.isWrong(); i++) {
            oneObject();
        }
        // Without these the comparison would say nothing of some endings.
        for (int i = 1; i < 4; i++) {
            check.due("some runs end by " + i, endings[i] > 500 ? 1 : 0, 1);
        }
        for (int i = 1; i < 12; i++) {
            check.due("some runs have fault " + i, faults[i] > 100 ? 1 : 0, 1);
        }
        System.out.println("endings " + java.util.Arrays.toString(endings) + ", faults " + java.util.Arrays.toString(faults));
        check.finish();
    }

    /** A number from 0 to n - 1, the same ones every time. */
    private int below(int n) {
        seed = seed * 6364136223846793005L + 1442695040888963407L;
        return (int) ((seed >>> 33) % n);
    }

    private int sometimesWild(int n) {
        return below(80) == 0 ? WILD[below(WILD.length)] : below(n);
    }

    private void due(String what, int got, int want) {
        calls++;
        check.due("object, call " + calls + ": " + what, got, want);
    }

    private void oneObject() {
        z = new ZRoutines();
        m = new Model();
        calls = 0;
        int routines = 1 + below(6);
        for (int i = 0; i < routines; i++) {
            makeRoutine(routines);
        }
        for (int s = 0; s < 4; s++) {
            int n = below(11);
            due("room", z.room(s, n), m.room(s, n));
        }
        while (calls < CALLS && !check.isWrong()) {
            oneCall();
        }
    }

    private void makeRoutine(int routines) {
        locals = below(5);
        int r = m.routine(locals);
        due("routine", z.routine(locals), r);
        fillBody(r, routines);
    }

    private void fillBody(int r, int routines) {
        int length = 2 + below(16);
        height = 0;
        for (int i = 0; i < length; i++) {
            addOne(r, routines, length);
        }
        if (below(5) > 0) {
            int v = below(3) == 0 ? 1 : 0;
            due("add 0", z.add(r, 0, v, 0), m.add(r, 0, v, 0));
            due("add 11", z.add(r, 11, 0, 0), m.add(r, 11, 0, 0));
        }
    }

    private void addOne(int r, int routines, int length) {
        int op = below(250) == 0 ? WILD[below(WILD.length)] : below(20);
        int b = sometimesWild(3);
        int need = op == 10 ? b : op >= 0 && op < 20 ? NEEDS[op] : 0;
        // Mostly what has its operands, lest nearly every run end by UNDER.
        if (need > height && below(12) > 0) {
            op = below(3) == 0 && locals > 0 ? 1 : 0;
        }
        if (op >= 0 && op < 20) {
            height = Math.max(0, height - (op == 10 ? Math.max(0, b) : NEEDS[op]) + LEAVES[op]);
        }
        int a = sometimesWild(op == 10 ? routines : op == 8 || op == 9 ? length + 1
            : op == 1 || op == 2 ? Math.max(1, locals) : op == 0 ? 6 : 4);
        due("add(" + r + ", " + op + ", " + a + ", " + b + ")", z.add(r, op, a, b), m.add(r, op, a, b));
    }

    private void oneCall() {
        int routines = m.size(0);
        int r = below(routines);
        int v = below(4) == 0 ? below(140000) - 70000 : below(6);
        switch (below(14)) {
            case 0: due("first", z.first(r, v, v * 7), m.first(r, v, v * 7)); break;
            case 1: addOne(r, routines, 8); break;
            case 2:
                due("clear", z.clear(r), m.clear(r));
                fillBody(r, routines);
                break;
            case 3: {
                int s = sometimesWild(4);
                int n = sometimesWild(11);
                due("room", z.room(s, n), m.room(s, n));
                break;
            }
            case 4:
            case 5: {
                int who = below(3) == 0 ? -1 : sometimesWild(routines);
                int every = below(3) == 0 ? below(1003) : 1 + below(12);
                due("interrupt", z.interrupt(who, every), m.interrupt(who, every));
                break;
            }
            case 6: due("give", z.give(v), m.give(v)); break;
            case 7: {
                int what = below(routines + 3) - 1;
                due("size", z.size(what), m.size(what));
                break;
            }
            default: oneRun(r); break;
        }
    }

    private void oneRun(int r) {
        int fuel = below(3) == 0 ? below(40) : below(2003);
        int want = m.run(r, fuel);
        due("run(" + r + ", " + fuel + ")", z.run(r, fuel), want);
        for (int what = -1; what < 9; what++) {
            due("told(" + what + ")", z.told(what), m.told(what));
        }
        for (int s = 0; s < 4; s++) {
            int k = below(5) - 2;
            due("user(" + s + ", " + k + ")", z.user(s, k), m.user(s, k));
        }
        endings[m.told(0)]++;
        faults[m.told(1)]++;
    }
}
