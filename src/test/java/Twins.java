import java.util.ArrayList;
import java.util.List;

/**
 * Two objects made alike, of which one gets a call more. What the call changed, also out of sight
 * (what is given, first values, bodies, rooms, the interrupt), shows in what both answer afterwards.
 */
final class Twins {
    interface Build {
        void on(ZRoutines z);
    }

    interface Call {
        int on(ZRoutines z);
    }

    /** So many routines are run by the questions; each of them is once the first, which gets what is given. */
    private static final int RUNS = 4;

    private final Check check;
    private final String name;
    private final Build build;

    Twins(Check check, String name, Build build) {
        this.check = check;
        this.name = name;
        this.build = build;
    }

    /** The call answers so, and changed nothing. */
    void dueUnchanged(String what, int want, Call call) {
        for (int first = 0; first < RUNS; first++) {
            ZRoutines asked = new ZRoutines();
            ZRoutines other = new ZRoutines();
            build.on(asked);
            build.on(other);
            check.due(name + ": " + what, call.on(asked), want);
            List<Integer> got = answers(asked, first);
            List<Integer> due = answers(other, first);
            check.due(name + ": how much can be asked behind " + what, got.size(), due.size());
            for (int i = 0; i < due.size() && i < got.size(); i++) {
                check.due(name + ": question " + i + " behind " + what, got.get(i), due.get(i));
            }
        }
    }

    private static List<Integer> answers(ZRoutines z, int first) {
        List<Integer> all = new ArrayList<>();
        for (int what = 0; what <= 20; what++) {
            all.add(z.size(what));
        }
        look(z, all);
        for (int i = 0; i < RUNS; i++) {
            all.add(z.run((first + i) % RUNS, 2000));
            look(z, all);
        }
        all.add(z.give(1));
        all.add(z.routine(0));
        all.add(z.size(0));
        z.interrupt(-1, 0);
        for (int s = 0; s < 4; s++) {
            Bodies.fill(z, 0, 0, 7, 0, 15, s, 0, 8, 4, 0, 9, 0, 0);
            all.add(z.run(0, 2000));
            all.add(z.user(s, -1));
        }
        return all;
    }

    private static void look(ZRoutines z, List<Integer> all) {
        for (int what = 0; what < 8; what++) {
            all.add(z.told(what));
        }
        for (int s = 0; s < 4; s++) {
            int count = z.user(s, -1);
            all.add(count);
            for (int k = 0; k < count; k++) {
                all.add(z.user(s, k));
            }
        }
    }
}
