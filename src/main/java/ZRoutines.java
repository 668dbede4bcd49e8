/**
 * Routines of a story machine: built by calls, run with fuel, and told of afterwards.
 * The numbered promises of the document say what each call answers.
 */
public final class ZRoutines {
    public static final int BAD = -40000, FULL = -40001;

    private static final int FAULT_ANSWER = -50000;
    private static final int MOST_ROUTINES = 20;
    private static final int MOST_LOCALS = 15;
    private static final int MOST_INSTRUCTIONS = 24;
    private static final int MOST_GIVEN = 15;
    private static final int MOST_FRAMES = 25;
    private static final int MOST_NUMBERS = 60;
    private static final int USER_STACKS = 4;
    private static final int MOST_ROOM = 10;
    private static final int MOST_EVERY = 1000;
    private static final int MOST_FUEL = 2000;

    private final Program program;
    private final UserStacks userStacks;
    private final Machine machine;
    private final int[] given;
    private int givenCount;

    public ZRoutines() {
        program = new Program();
        userStacks = new UserStacks();
        machine = new Machine(program, userStacks);
        given = new int[MOST_GIVEN];
        givenCount = 0;
    }

    public int routine(int locals) {
        if (locals < 0 || locals > MOST_LOCALS) {
            return BAD;
        }
        return program.isFull() ? FULL : program.append(locals);
    }

    public int first(int routine, int local, int v) {
        if (!program.hasLocal(routine, local)) {
            return BAD;
        }
        program.setFirstValue(routine, local, v);
        return 1;
    }

    public int add(int routine, int op, int a, int b) {
        if (!program.has(routine)) {
            return BAD;
        }
        return program.isBodyFull(routine) ? FULL : program.appendInstruction(routine, op, a, b);
    }

    public int clear(int routine) {
        return program.has(routine) ? program.emptyBody(routine) : BAD;
    }

    public int room(int s, int n) {
        if (!userStacks.has(s) || n < 0 || n > MOST_ROOM) {
            return BAD;
        }
        return userStacks.emptyWithRoom(s, n);
    }

    public int user(int s, int k) {
        if (!userStacks.has(s)) {
            return BAD;
        }
        if (k == -1) {
            return userStacks.count(s);
        }
        return userStacks.hasNumber(s, k) ? userStacks.fromTop(s, k) : BAD;
    }

    public int interrupt(int routine, int every) {
        if (routine == -1) {
            machine.setInterrupt(0, 0);
            return 1;
        }
        if (!program.has(routine) || every < 1 || every > MOST_EVERY) {
            return BAD;
        }
        machine.setInterrupt(routine, every);
        return 1;
    }

    public int give(int v) {
        if (givenCount < 0 || givenCount >= MOST_GIVEN) {
            return FULL;
        }
        given[givenCount] = (short) v;
        givenCount++;
        return givenCount;
    }

    public int run(int routine, int fuel) {
        if (!program.has(routine) || fuel < 0 || fuel > MOST_FUEL) {
            return BAD;
        }
        int count = givenCount;
        givenCount = 0;
        return machine.perform(routine, fuel, given, count);
    }

    public int told(int what) {
        return machine.tell(what);
    }

    public int size(int what) {
        if (what == 0) {
            return program.count();
        }
        return what > 0 && program.has(what - 1) ? program.length(what - 1) : BAD;
    }

    /** The faults of a run, by the document's numbers. */
    private static final class Fault {
        static final int NONE = 0;
        static final int UNDER = 1;
        static final int LOCAL = 2;
        static final int ZERO = 3;
        static final int DEEP = 4;
        static final int GONE = 5;
        static final int ROUTINE = 6;
        static final int PLACE = 7;
        static final int FULL = 8;
        static final int FUEL = 9;
        static final int STACK = 10;
        static final int INTERRUPT = 11;
    }

    /** The operations of instructions, by the document's numbers. */
    private static final class Op {
        static final int CONSTANT = 0;
        static final int LOAD = 1;
        static final int STORE = 2;
        static final int PLUS = 3;
        static final int MINUS = 4;
        static final int TIMES = 5;
        static final int DIVIDE = 6;
        static final int REMAINDER = 7;
        static final int JUMP_IF_ZERO = 8;
        static final int JUMP = 9;
        static final int CALL = 10;
        static final int RETURN = 11;
        static final int FRAME_NUMBER = 12;
        static final int UNWIND = 13;
        static final int GIVEN_COUNT = 14;
        static final int TO_USER_STACK = 15;
        static final int FROM_USER_STACK = 16;
        static final int DUPLICATE = 17;
        static final int DROP = 18;
        static final int BELOW = 19;
    }

    /** How a run ended, by the document's numbers; NOT_YET is also what stands before any run. */
    private static final class Ending {
        static final int NOT_YET = 0;
        static final int CLOSED = 1;
        static final int INTERRUPTED = 2;
        static final int FAULTED = 3;
    }

    /** The routines; each has its own stretch of the rows, so that no call makes a new one. */
    private static final class Program {
        private final int[] localCounts = new int[MOST_ROUTINES];
        private final int[] lengths = new int[MOST_ROUTINES];
        private final int[] firstValues = new int[MOST_ROUTINES * MOST_LOCALS];
        private final int[] ops = new int[MOST_ROUTINES * MOST_INSTRUCTIONS];
        private final int[] as = new int[MOST_ROUTINES * MOST_INSTRUCTIONS];
        private final int[] bs = new int[MOST_ROUTINES * MOST_INSTRUCTIONS];
        private int count = 0;

        int count() {
            return count;
        }

        boolean isFull() {
            return count >= MOST_ROUTINES;
        }

        int append(int locals) {
            if (isFull()) {
                return ZRoutines.FULL;
            }
            localCounts[count] = locals;
            count++;
            return count - 1;
        }

        boolean has(int routine) {
            return routine >= 0 && routine < count;
        }

        boolean hasLocal(int routine, int local) {
            return has(routine) && local >= 0 && local < localCounts[routine];
        }

        int localCount(int routine) {
            return has(routine) ? localCounts[routine] : 0;
        }

        void setFirstValue(int routine, int local, int v) {
            if (hasLocal(routine, local)) {
                firstValues[routine * MOST_LOCALS + local] = (short) v;
            }
        }

        /** Fills a frame's stretch of a row; the row is long enough for every routine's locals. */
        void copyFirstValues(int routine, int[] row, int at) {
            boolean fits = at >= 0 && at <= row.length - MOST_LOCALS;
            if (fits && has(routine)) {
                System.arraycopy(firstValues, routine * MOST_LOCALS, row, at, localCounts[routine]);
            }
        }

        int length(int routine) {
            return has(routine) ? lengths[routine] : 0;
        }

        boolean isBodyFull(int routine) {
            return length(routine) >= MOST_INSTRUCTIONS;
        }

        int appendInstruction(int routine, int op, int a, int b) {
            if (!has(routine) || isBodyFull(routine)) {
                return ZRoutines.FULL;
            }
            int index = routine * MOST_INSTRUCTIONS + lengths[routine];
            ops[index] = op;
            as[index] = a;
            bs[index] = b;
            lengths[routine]++;
            return lengths[routine];
        }

        int emptyBody(int routine) {
            if (!has(routine)) {
                return 0;
            }
            int had = lengths[routine];
            lengths[routine] = 0;
            return had;
        }

        boolean hasPlace(int routine, int place) {
            return has(routine) && place >= 0 && place < lengths[routine];
        }

        int op(int routine, int place) {
            return hasPlace(routine, place) ? ops[routine * MOST_INSTRUCTIONS + place] : -1;
        }

        int a(int routine, int place) {
            return hasPlace(routine, place) ? as[routine * MOST_INSTRUCTIONS + place] : 0;
        }

        int b(int routine, int place) {
            return hasPlace(routine, place) ? bs[routine * MOST_INSTRUCTIONS + place] : 0;
        }
    }

    /** The stacks of the user, which outlive runs. */
    private static final class UserStacks {
        private final int[] rooms = new int[USER_STACKS];
        private final int[] counts = new int[USER_STACKS];
        private final int[] numbers = new int[USER_STACKS * MOST_ROOM];

        boolean has(int s) {
            return s >= 0 && s < USER_STACKS;
        }

        int count(int s) {
            return has(s) ? counts[s] : 0;
        }

        int emptyWithRoom(int s, int n) {
            if (!has(s)) {
                return 0;
            }
            int had = counts[s];
            counts[s] = 0;
            rooms[s] = n;
            return had;
        }

        boolean hasNumber(int s, int k) {
            return has(s) && k >= 0 && k < counts[s];
        }

        int fromTop(int s, int k) {
            return hasNumber(s, k) ? numbers[s * MOST_ROOM + counts[s] - 1 - k] : 0;
        }

        boolean put(int s, int v) {
            if (!has(s) || counts[s] >= rooms[s]) {
                return false;
            }
            numbers[s * MOST_ROOM + counts[s]] = v;
            counts[s]++;
            return true;
        }

        int take(int s) {
            if (!has(s) || counts[s] < 1) {
                return 0;
            }
            counts[s]--;
            return numbers[s * MOST_ROOM + counts[s]];
        }
    }

    /**
     * The open frames. Rows are indexed by a frame's number, so slot 0 lies idle; all frames
     * share one row of numbers, a frame's stack being what lies above its base.
     */
    private static final class Frames {
        private final int[] routines = new int[MOST_FRAMES + 1];
        private final int[] places = new int[MOST_FRAMES + 1];
        private final int[] givenCounts = new int[MOST_FRAMES + 1];
        private final int[] localCounts = new int[MOST_FRAMES + 1];
        private final int[] bases = new int[MOST_FRAMES + 1];
        private final int[] locals = new int[(MOST_FRAMES + 1) * MOST_LOCALS];
        private final int[] numbers = new int[MOST_NUMBERS];
        private int open = 0;
        private int mostOpen = 0;
        private int top = 0;

        void closeAll() {
            open = 0;
            mostOpen = 0;
            top = 0;
        }

        int open() {
            return open;
        }

        int mostOpen() {
            return mostOpen;
        }

        boolean isDeepest() {
            return open >= MOST_FRAMES;
        }

        /** Opens a frame to which nothing is given yet. */
        void openFrame(Program program, int routine) {
            if (isDeepest()) {
                return;
            }
            open++;
            mostOpen = Math.max(mostOpen, open);
            routines[open] = routine;
            places[open] = 0;
            givenCounts[open] = 0;
            localCounts[open] = program.localCount(routine);
            bases[open] = top;
            program.copyFirstValues(routine, locals, open * MOST_LOCALS);
        }

        /** Hands numbers of a row to the frame that was just opened; what has no local is lost. */
        void hand(int[] row, int from, int count) {
            givenCounts[open] = count;
            int kept = Math.min(count, localCounts[open]);
            if (kept > 0 && from >= 0 && from <= row.length - kept) {
                System.arraycopy(row, from, locals, open * MOST_LOCALS, kept);
            }
        }

        /** Hands over what was dropped just ahead of the opening: it still lies above the top. */
        void handDropped(int count) {
            hand(numbers, top, count);
        }

        void closeFrom(int frame) {
            if (frame >= 1 && frame <= open) {
                top = bases[frame];
                open = frame - 1;
            }
        }

        int routineNumber() {
            return routines[open];
        }

        int place() {
            return places[open];
        }

        void goTo(int place) {
            places[open] = place;
        }

        int givenCount() {
            return givenCounts[open];
        }

        boolean hasLocal(int i) {
            return i >= 0 && i < localCounts[open];
        }

        int local(int i) {
            return hasLocal(i) ? locals[open * MOST_LOCALS + i] : 0;
        }

        void setLocal(int i, int v) {
            if (hasLocal(i)) {
                locals[open * MOST_LOCALS + i] = v;
            }
        }

        /** Whether the innermost frame's own stack has so many numbers. */
        boolean holds(int count) {
            return top - bases[open] >= count;
        }

        boolean isFullWithout(int count) {
            return top - count >= MOST_NUMBERS;
        }

        int push(int v) {
            if (top < 0 || top >= MOST_NUMBERS) {
                return Fault.FULL;
            }
            numbers[top] = (short) v;
            top++;
            return Fault.NONE;
        }

        int fromTop(int k) {
            return k >= 0 && holds(k + 1) ? numbers[top - 1 - k] : 0;
        }

        void drop(int count) {
            if (count >= 0 && holds(count)) {
                top -= count;
            }
        }
    }

    /** What is told of the latest run. */
    private static final class Report {
        int ending = Ending.NOT_YET;
        int fault = Fault.NONE;
        int routine = 0;
        int place = 0;
        int frames = 0;
        int steps = 0;
        int interrupts = 0;
        int mostFrames = 0;

        void forget() {
            ending = Ending.NOT_YET;
            fault = Fault.NONE;
            routine = 0;
            place = 0;
            frames = 0;
            steps = 0;
            interrupts = 0;
            mostFrames = 0;
        }

        int answer(int what) {
            switch (what) {
                case 0: return ending;
                case 1: return fault;
                case 2: return routine;
                case 3: return place;
                case 4: return frames;
                case 5: return steps;
                case 6: return interrupts;
                case 7: return mostFrames;
                default: return BAD;
            }
        }
    }

    /** Runs routines. Each operation answers its fault, and leaves stacks and locals alone if it has one. */
    private static final class Machine {
        private final Program program;
        private final UserStacks userStacks;
        private final Frames frames = new Frames();
        private final Report report = new Report();
        private int interruptRoutine = 0;
        private int interruptEvery = 0;
        private int interruptFrame = 0;
        private int countedSteps = 0;
        private int result = 0;

        Machine(Program program, UserStacks userStacks) {
            this.program = program;
            this.userStacks = userStacks;
        }

        void setInterrupt(int routine, int every) {
            interruptRoutine = routine;
            interruptEvery = every;
        }

        int tell(int what) {
            return report.answer(what);
        }

        int perform(int routine, int fuel, int[] given, int count) {
            report.forget();
            interruptFrame = 0;
            countedSteps = 0;
            frames.closeAll();
            frames.openFrame(program, routine);
            frames.hand(given, 0, count);
            // One turn more than there is fuel, for the turn that finds the fuel gone.
            for (int turn = 0; turn <= fuel && report.ending == Ending.NOT_YET; turn++) {
                takeTurn(fuel);
            }
            report.mostFrames = frames.mostOpen();
            return result;
        }

        private void takeTurn(int fuel) {
            if (report.steps >= fuel) {
                fail(Fault.FUEL, frames.place());
                return;
            }
            report.steps++;
            // Asked ahead of the step, which may close the interrupt that it belongs to.
            boolean isCounted = interruptFrame == 0;
            int place = frames.place();
            int fault = operate(frames.routineNumber(), place);
            if (fault != Fault.NONE) {
                fail(fault, place);
            } else if (isCounted && report.ending == Ending.NOT_YET) {
                countStep();
            }
        }

        private void countStep() {
            countedSteps++;
            if (interruptEvery < 1 || countedSteps % interruptEvery != 0) {
                return;
            }
            if (frames.isDeepest()) {
                fail(Fault.INTERRUPT, frames.place());
                return;
            }
            report.interrupts++;
            frames.openFrame(program, interruptRoutine);
            interruptFrame = frames.open();
        }

        private void fail(int fault, int place) {
            report.fault = interruptFrame > 0 ? Fault.INTERRUPT : fault;
            report.routine = frames.routineNumber();
            report.place = place;
            report.frames = frames.open();
            end(Ending.FAULTED, FAULT_ANSWER - report.fault);
        }

        private void end(int ending, int answer) {
            report.ending = ending;
            result = answer;
        }

        private int operate(int routine, int place) {
            if (!program.hasPlace(routine, place)) {
                return Fault.PLACE;
            }
            frames.goTo(place + 1);
            int op = program.op(routine, place);
            int a = program.a(routine, place);
            switch (op) {
                case Op.CONSTANT: return frames.push(a);
                case Op.LOAD: return load(a);
                case Op.STORE: return store(a);
                case Op.PLUS:
                case Op.MINUS:
                case Op.TIMES:
                case Op.BELOW: return reckon(op);
                case Op.DIVIDE:
                case Op.REMAINDER: return divide(op);
                case Op.JUMP_IF_ZERO: return jumpIfZero(a);
                case Op.JUMP: return jump(a);
                case Op.CALL: return call(a, program.b(routine, place));
                case Op.RETURN: return comeToTop();
                case Op.FRAME_NUMBER: return frames.push(frames.open());
                case Op.UNWIND: return unwind();
                case Op.GIVEN_COUNT: return frames.push(frames.givenCount());
                case Op.TO_USER_STACK: return toUserStack(a);
                case Op.FROM_USER_STACK: return fromUserStack(a);
                case Op.DUPLICATE: return duplicate();
                case Op.DROP: return dropTop();
                default: return Fault.PLACE;
            }
        }

        private int load(int local) {
            if (!frames.hasLocal(local)) {
                return Fault.LOCAL;
            }
            return frames.push(frames.local(local));
        }

        private int store(int local) {
            if (!frames.holds(1)) {
                return Fault.UNDER;
            }
            if (!frames.hasLocal(local)) {
                return Fault.LOCAL;
            }
            frames.setLocal(local, frames.fromTop(0));
            frames.drop(1);
            return Fault.NONE;
        }

        private int reckon(int op) {
            if (!frames.holds(2)) {
                return Fault.UNDER;
            }
            int x = frames.fromTop(0);
            int y = frames.fromTop(1);
            frames.drop(2);
            switch (op) {
                case Op.PLUS: return frames.push(y + x);
                case Op.MINUS: return frames.push(y - x);
                case Op.TIMES: return frames.push(y * x);
                default: return frames.push(y < x ? 1 : 0);
            }
        }

        private int divide(int op) {
            if (!frames.holds(2)) {
                return Fault.UNDER;
            }
            int x = frames.fromTop(0);
            int y = frames.fromTop(1);
            if (x == 0) {
                return Fault.ZERO;
            }
            frames.drop(2);
            return frames.push(op == Op.DIVIDE ? y / x : y % x);
        }

        private int jumpIfZero(int place) {
            if (!frames.holds(1)) {
                return Fault.UNDER;
            }
            int condition = frames.fromTop(0);
            frames.drop(1);
            return condition == 0 ? jump(place) : Fault.NONE;
        }

        private int jump(int place) {
            frames.goTo(place);
            return Fault.NONE;
        }

        private int call(int routine, int count) {
            if (count < 0 || count > MOST_GIVEN || !frames.holds(count)) {
                return Fault.UNDER;
            }
            if (!program.has(routine)) {
                return Fault.ROUTINE;
            }
            if (frames.isDeepest()) {
                return Fault.DEEP;
            }
            // Looked at here, so that there is room for what the call comes to.
            if (frames.isFullWithout(count)) {
                return Fault.FULL;
            }
            frames.drop(count);
            frames.openFrame(program, routine);
            frames.handDropped(count);
            return Fault.NONE;
        }

        private int comeToTop() {
            if (!frames.holds(1)) {
                return Fault.UNDER;
            }
            return closeWith(frames.open(), frames.fromTop(0));
        }

        private int unwind() {
            if (!frames.holds(2)) {
                return Fault.UNDER;
            }
            int x = frames.fromTop(0);
            int frame = frames.fromTop(1);
            // The frames below an interrupt's own are out of its reach.
            int lowest = Math.max(1, interruptFrame);
            if (frame < lowest || frame > frames.open()) {
                return Fault.GONE;
            }
            return closeWith(frame, x);
        }

        private int closeWith(int frame, int x) {
            frames.closeFrom(frame);
            if (frame == 1) {
                end(Ending.CLOSED, x);
                return Fault.NONE;
            }
            if (frame != interruptFrame) {
                return frames.push(x);
            }
            interruptFrame = 0;
            if (x != 0) {
                end(Ending.INTERRUPTED, x);
            }
            return Fault.NONE;
        }

        private int toUserStack(int s) {
            if (!frames.holds(1)) {
                return Fault.UNDER;
            }
            if (!userStacks.has(s)) {
                return Fault.STACK;
            }
            boolean hadRoom = userStacks.put(s, frames.fromTop(0));
            frames.drop(1);
            return frames.push(hadRoom ? 1 : 0);
        }

        private int fromUserStack(int s) {
            if (!userStacks.has(s)) {
                return Fault.STACK;
            }
            if (!userStacks.hasNumber(s, 0)) {
                return Fault.UNDER;
            }
            // Looked at ahead of the taking, so that the user's stack keeps its number.
            if (frames.isFullWithout(0)) {
                return Fault.FULL;
            }
            return frames.push(userStacks.take(s));
        }

        private int duplicate() {
            return frames.holds(1) ? frames.push(frames.fromTop(0)) : Fault.UNDER;
        }

        private int dropTop() {
            if (!frames.holds(1)) {
                return Fault.UNDER;
            }
            frames.drop(1);
            return Fault.NONE;
        }
    }
}
