import java.util.ArrayList;
import java.util.List;

/**
 * The document once more, written another way: frames are calls of Java's own, faults and throws
 * to frames are exceptions. It has the face of ZRoutines, so that both can be asked the same.
 */
final class Model {
    private static final class Routine {
        final int[] first;
        final List<int[]> body = new ArrayList<>();

        Routine(int locals) {
            first = new int[locals];
        }
    }

    private static final class FaultException extends Exception {
        private static final long serialVersionUID = 1;
    }

    private static final class UnwindException extends Exception {
        private static final long serialVersionUID = 1;
        final int frame;
        final int value;

        UnwindException(int frame, int value) {
            this.frame = frame;
            this.value = value;
        }
    }

    private static final class StopException extends Exception {
        private static final long serialVersionUID = 1;
        final int value;

        StopException(int value) {
            this.value = value;
        }
    }

    private static final class Frame {
        int number;
        int routine;
        int place;
        int next;
        int given;
        int[] locals;
        final List<Integer> stack = new ArrayList<>();
    }

    private final List<Routine> routines = new ArrayList<>();
    private final List<List<Integer>> users = new ArrayList<>();
    private final int[] rooms = new int[4];
    private List<Integer> given = new ArrayList<>();
    private int interruptRoutine = -1;
    private int every;
    private int[] told = new int[8];

    private final List<Frame> open = new ArrayList<>();
    private int fuel;
    private int plainSteps;
    private int interruptBase;
    private boolean pending;

    Model() {
        for (int i = 0; i < 4; i++) {
            users.add(new ArrayList<>());
        }
    }

    int routine(int locals) {
        if (locals < 0 || locals > 15) return -40000;
        if (routines.size() == 20) return -40001;
        routines.add(new Routine(locals));
        return routines.size() - 1;
    }

    private boolean none(int routine) {
        return routine < 0 || routine >= routines.size();
    }

    int first(int routine, int local, int v) {
        if (none(routine) || local < 0 || local >= routines.get(routine).first.length) return -40000;
        routines.get(routine).first[local] = (short) v;
        return 1;
    }

    int add(int routine, int op, int a, int b) {
        if (none(routine)) return -40000;
        List<int[]> body = routines.get(routine).body;
        if (body.size() == 24) return -40001;
        body.add(new int[] {op, a, b});
        return body.size();
    }

    int clear(int routine) {
        if (none(routine)) return -40000;
        int had = routines.get(routine).body.size();
        routines.get(routine).body.clear();
        return had;
    }

    int room(int s, int n) {
        if (s < 0 || s > 3 || n < 0 || n > 10) return -40000;
        int had = users.get(s).size();
        users.get(s).clear();
        rooms[s] = n;
        return had;
    }

    int user(int s, int k) {
        if (s < 0 || s > 3) return -40000;
        List<Integer> stack = users.get(s);
        if (k == -1) return stack.size();
        if (k < 0 || k >= stack.size()) return -40000;
        return stack.get(stack.size() - 1 - k);
    }

    int interrupt(int routine, int n) {
        if (routine != -1 && (none(routine) || n < 1 || n > 1000)) return -40000;
        interruptRoutine = routine;
        every = n;
        return 1;
    }

    int give(int v) {
        if (given.size() == 15) return -40001;
        given.add((int) (short) v);
        return given.size();
    }

    int told(int what) {
        return what < 0 || what > 7 ? -40000 : told[what];
    }

    int size(int what) {
        if (what == 0) return routines.size();
        return what < 0 || none(what - 1) ? -40000 : routines.get(what - 1).body.size();
    }

    int run(int routine, int f) {
        if (none(routine) || f < 0 || f > 2000) return -40000;
        List<Integer> args = given;
        given = new ArrayList<>();
        told = new int[8];
        open.clear();
        fuel = f;
        plainSteps = 0;
        interruptBase = 0;
        pending = false;
        try {
            int x = call(routine, args);
            told[0] = 1;
            return x;
        } catch (StopException stop) {
            told[0] = 2;
            return stop.value;
        } catch (FaultException fault) {
            told[0] = 3;
            return -50000 - told[1];
        } catch (UnwindException wrong) {
            throw new IllegalStateException("a throw to a frame that is not open");
        }
    }

    private Frame innermost() {
        return open.get(open.size() - 1);
    }

    private FaultException fault(int fault, int place) {
        told[1] = interruptBase > 0 ? 11 : fault;
        told[2] = innermost().routine;
        told[3] = place;
        told[4] = open.size();
        return new FaultException();
    }

    private int call(int routine, List<Integer> args) throws FaultException, UnwindException, StopException {
        Frame frame = new Frame();
        frame.number = open.size() + 1;
        frame.routine = routine;
        frame.given = args.size();
        frame.locals = routines.get(routine).first.clone();
        for (int i = 0; i < frame.locals.length && i < args.size(); i++) {
            frame.locals[i] = args.get(i);
        }
        open.add(frame);
        told[7] = Math.max(told[7], open.size());
        int x;
        try {
            x = execute(frame);
        } catch (UnwindException u) {
            if (u.frame != frame.number) {
                open.remove(open.size() - 1);
                throw u;
            }
            x = u.value;
        }
        open.remove(open.size() - 1);
        return x;
    }

    private void interruptIfDue(Frame frame) throws FaultException, UnwindException, StopException {
        if (!pending) return;
        pending = false;
        if (open.size() == 25) {
            interruptBase = 26;
            throw fault(11, frame.next);
        }
        told[6]++;
        interruptBase = open.size() + 1;
        int x = call(interruptRoutine, new ArrayList<>());
        interruptBase = 0;
        if (x != 0) throw new StopException(x);
    }

    private int execute(Frame frame) throws FaultException, UnwindException, StopException {
        while (true) {
            interruptIfDue(frame);
            if (told[5] == fuel) throw fault(9, frame.next);
            told[5]++;
            if (interruptBase == 0) {
                plainSteps++;
                pending = interruptRoutine >= 0 && plainSteps % every == 0;
            }
            frame.place = frame.next;
            List<int[]> body = routines.get(frame.routine).body;
            if (frame.place < 0 || frame.place >= body.size()) throw fault(7, frame.place);
            frame.next = frame.place + 1;
            int[] row = body.get(frame.place);
            if (row[0] == 11) return pop(frame);
            step(frame, row[0], row[1], row[2]);
        }
    }

    private int pop(Frame frame) throws FaultException {
        if (frame.stack.isEmpty()) throw fault(1, frame.place);
        return frame.stack.remove(frame.stack.size() - 1);
    }

    private int together() {
        int sum = 0;
        for (Frame f : open) {
            sum += f.stack.size();
        }
        return sum;
    }

    private void push(Frame frame, int v) throws FaultException {
        if (together() == 60) throw fault(8, frame.place);
        frame.stack.add((int) (short) v);
    }

    private void step(Frame frame, int op, int a, int b)
            throws FaultException, UnwindException, StopException {
        if (op >= 3 && op <= 7 || op == 19) {
            int x = pop(frame);
            int y = pop(frame);
            if ((op == 6 || op == 7) && x == 0) throw fault(3, frame.place);
            push(frame, op == 3 ? y + x : op == 4 ? y - x : op == 5 ? y * x
                : op == 6 ? y / x : op == 7 ? y % x : y < x ? 1 : 0);
        } else if (op == 0) {
            push(frame, a);
        } else if (op == 1) {
            if (a < 0 || a >= frame.locals.length) throw fault(2, frame.place);
            push(frame, frame.locals[a]);
        } else if (op == 2) {
            int x = pop(frame);
            if (a < 0 || a >= frame.locals.length) throw fault(2, frame.place);
            frame.locals[a] = x;
        } else if (op == 8) {
            if (pop(frame) == 0) frame.next = a;
        } else if (op == 9) {
            frame.next = a;
        } else if (op == 10) {
            doCall(frame, a, b);
        } else if (op == 12) {
            push(frame, frame.number);
        } else if (op == 13) {
            int x = pop(frame);
            int n = pop(frame);
            if (n < Math.max(1, interruptBase) || n > open.size()) throw fault(5, frame.place);
            throw new UnwindException(n, x);
        } else if (op == 14) {
            push(frame, frame.given);
        } else if (op == 15) {
            int x = pop(frame);
            if (a < 0 || a > 3) throw fault(10, frame.place);
            boolean isRoom = users.get(a).size() < rooms[a];
            if (isRoom) users.get(a).add(x);
            push(frame, isRoom ? 1 : 0);
        } else if (op == 16) {
            if (a < 0 || a > 3) throw fault(10, frame.place);
            List<Integer> stack = users.get(a);
            if (stack.isEmpty()) throw fault(1, frame.place);
            push(frame, stack.get(stack.size() - 1));
            stack.remove(stack.size() - 1);
        } else if (op == 17) {
            int x = pop(frame);
            frame.stack.add(x);
            push(frame, x);
        } else if (op == 18) {
            pop(frame);
        } else {
            throw fault(7, frame.place);
        }
    }

    private void doCall(Frame frame, int a, int b) throws FaultException, UnwindException, StopException {
        if (b < 0 || b > 15 || b > frame.stack.size()) throw fault(1, frame.place);
        if (none(a)) throw fault(6, frame.place);
        if (open.size() == 25) throw fault(4, frame.place);
        if (together() - b == 60) throw fault(8, frame.place);
        List<Integer> args = new ArrayList<>(frame.stack.subList(frame.stack.size() - b, frame.stack.size()));
        for (int i = 0; i < b; i++) {
            pop(frame);
        }
        push(frame, call(a, args));
    }
}
