/**
 * A run that comes to one instruction with so many frames open, so many numbers on the stacks of the
 * outer ones and these on the innermost's own. It can be set in an interrupt, too: then the first
 * frame is the run's own, and those within belong to the interrupt.
 */
final class Scene {
    /** The routines of a scene; there are no others. TARGET has two locals, SIMPLE comes to 6. */
    static final int CHAIN = 0, TARGET = 1, OUTSIDE = 2, SIMPLE = 3, NONE_SUCH = 4;
    /** Places in CHAIN, behind the numbers that it leaves: it goes on there when its call is over. */
    static final int BEHIND_CHAIN = 6, BEHIND_TARGET = 8;

    final ZRoutines z = new ZRoutines();
    final int frames;
    final int each;
    final int place;
    /** The steps of a run up to the instruction, with it. */
    final int steps;
    private final boolean interrupts;

    private Scene(boolean interrupts, int frames, int each, int[] own, int[] instruction) {
        this.interrupts = interrupts;
        this.frames = frames;
        this.each = each;
        place = own.length;
        int chained = interrupts ? frames - 2 : frames - 1;
        int outside = interrupts ? each + 1 : 0;
        int inChain = chained == 0 ? 0 : (chained - 1) * (each + 6) + each + 3;
        steps = outside + inChain + own.length + 1;
        makeRoutines(chained, own, instruction);
        fillUserStacks();
        Bodies.fill(z, SIMPLE, 0, 6, 0, 11, 0, 0);
        if (interrupts) {
            z.interrupt(chained > 0 ? CHAIN : TARGET, each + 1);
        }
    }

    static Scene inRun(int frames, int each, int[] own, int... instruction) {
        return new Scene(false, frames, each, own, instruction);
    }

    /** The same scene in an interrupt, the outermost frame being the run's; a lone one gets one around it. */
    static Scene inInterrupt(int frames, int each, int[] own, int... instruction) {
        return new Scene(true, Math.max(2, frames), each, own, instruction);
    }

    /** So many numbers: 1, 2, 3 .. */
    static int[] numbers(int count) {
        int[] row = new int[count];
        for (int i = 0; i < count; i++) {
            row[i] = i + 1;
        }
        return row;
    }

    int run(int fuel) {
        if (interrupts) {
            return z.run(OUTSIDE, fuel);
        }
        return z.run(frames > 1 ? CHAIN : TARGET, fuel);
    }

    int interrupts() {
        return interrupts ? 1 : 0;
    }

    /** What lies on the user's stacks, as one number. */
    long userNumbers() {
        long sum = 0;
        for (int s = 0; s < 4; s++) {
            int count = z.user(s, -1);
            sum = sum * 31 + count;
            for (int k = 0; k < count; k++) {
                sum = sum * 100003 + z.user(s, k);
            }
        }
        return sum;
    }

    private void makeRoutines(int chained, int[] own, int[] instruction) {
        z.routine(1);
        z.routine(2);
        z.routine(0);
        z.routine(0);
        z.first(CHAIN, 0, chained - 1);
        addNumbers(CHAIN, each);
        int[][] chain = {{1, 0, 0}, {8, each + 7, 0}, {1, 0, 0}, {0, 1, 0}, {4, 0, 0}, {10, CHAIN, 1},
            {11, 0, 0}, {10, TARGET, 0}, {11, 0, 0}};
        for (int[] row : chain) {
            z.add(CHAIN, row[0], row[1], row[2]);
        }
        for (int v : own) {
            z.add(TARGET, 0, v, 0);
        }
        z.add(TARGET, instruction[0], instruction[1], instruction[2]);
        addNumbers(OUTSIDE, each);
        z.add(OUTSIDE, 9, each, 0);
    }

    private void addNumbers(int routine, int count) {
        for (int i = 0; i < count; i++) {
            z.add(routine, 0, -1 - i, 0);
        }
    }

    /** Stack 0 has one of two, 1 has no room, 2 is empty with room for one, 3 has one of one. */
    private void fillUserStacks() {
        z.room(0, 2);
        z.room(2, 1);
        z.room(3, 1);
        Bodies.fill(z, SIMPLE, 0, 77, 0, 15, 0, 0, 0, 78, 0, 15, 3, 0, 11, 0, 0);
        z.run(SIMPLE, 9);
    }
}
