/**
 * Each instruction with each fault that the document tells behind it, on both sides of the boundary;
 * and where several fit at once, that the first one comes. Each scene with a fault is run four times:
 * as it is; with one step less of fuel (FUEL, ahead of all); and both once more in an interrupt.
 */
public final class FaultOrderTest {
    private static final Check CHECK = new Check("FaultOrderTest");
    private static final int UNDER = 1, LOCAL = 2, ZERO = 3, DEEP = 4, GONE = 5, ROUTINE = 6, PLACE = 7,
        FULL = 8, FUEL = 9, STACK = 10, INTERRUPT = 11;
    private static final int LEAST = Integer.MIN_VALUE, MOST = Integer.MAX_VALUE;
    private static final int[] EMPTY = {};

    public static void main(String[] args) {
        number();
        fromLocal();
        intoLocal();
        reckoning();
        division();
        jumps();
        calls();
        callsWithSeveralFaults();
        closing();
        frameNumber();
        throwing();
        givenCount();
        toUserStack();
        fromUserStack();
        onceMore();
        takenAway();
        others();
        CHECK.finish();
    }

    /** So many numbers of one's own in a fourth frame that all stacks have 60, or some less. */
    private static int[] toSixty(int less) {
        return Scene.numbers(15 - less);
    }

    private static void wrong(String what, int fault, int[] own, int... instruction) {
        wrongIn(what, 1, 0, fault, own, instruction);
        wrongIn(what + ", deeper", 3, 2, fault, own, instruction);
    }

    /** As the numbers of toSixty need it. */
    private static void wrongWithSixty(String what, int fault, int[] own, int... instruction) {
        wrongIn(what, 4, 15, fault, own, instruction);
    }

    private static void wrongIn(String what, int frames, int each, int fault, int[] own, int... instruction) {
        String name = instruction[0] + " " + what;
        dueWrong(name, Scene.inRun(frames, each, own, instruction), fault, FUEL);
        dueWrong(name + ", in an interrupt", Scene.inInterrupt(frames, each, own, instruction), INTERRUPT, INTERRUPT);
    }

    private static void dueWrong(String what, Scene s, int fault, int fuelFault) {
        long before = s.userNumbers();
        CHECK.due(what, s.run(2000), -50000 - fault);
        CHECK.dueTold(what, s.z, 3, fault, Scene.TARGET, s.place, s.frames, s.steps, s.interrupts(), s.frames);
        CHECK.due(what + ": numbers of the user", s.userNumbers(), before);
        String less = what + ", with less fuel";
        CHECK.due(less, s.run(s.steps - 1), -50000 - fuelFault);
        CHECK.dueTold(less, s.z, 3, fuelFault, Scene.TARGET, s.place, s.frames, s.steps - 1, s.interrupts(), s.frames);
        CHECK.due(less + ": numbers of the user", s.userNumbers(), before);
        CHECK.due(what + ", with just the fuel", s.run(s.steps), -50000 - fault);
    }

    private static void fine(String what, int[] own, int... instruction) {
        fineIn(what, 1, 0, own, instruction);
        fineIn(what + ", deeper", 3, 2, own, instruction);
    }

    private static void fineWithSixty(String what, int[] own, int... instruction) {
        fineIn(what, 4, 15, own, instruction);
    }

    /** Fuel ends behind the instruction, so what is told shows that it was done and what is next. */
    private static void fineIn(String what, int frames, int each, int[] own, int... instruction) {
        String name = instruction[0] + " " + what;
        Scene run = Scene.inRun(frames, each, own, instruction);
        dueNext(name, run, FUEL, Scene.TARGET, run.place + 1, run.frames);
        Scene in = Scene.inInterrupt(frames, each, own, instruction);
        dueNext(name + ", in an interrupt", in, INTERRUPT, Scene.TARGET, in.place + 1, in.frames);
    }

    private static void fineCall(String what, int frames, int each, int[] own, int... instruction) {
        String name = "10 " + what;
        Scene run = Scene.inRun(frames, each, own, instruction);
        dueNext(name, run, FUEL, instruction[1], 0, run.frames + 1);
        Scene in = Scene.inInterrupt(frames, each, own, instruction);
        dueNext(name + ", in an interrupt", in, INTERRUPT, instruction[1], 0, in.frames + 1);
    }

    private static void fineJump(String what, int to, int[] own, int... instruction) {
        Scene s = Scene.inRun(2, 1, own, instruction);
        dueNext(instruction[0] + " " + what, s, FUEL, Scene.TARGET, to, 2);
    }

    private static void dueNext(String what, Scene s, int fault, int routine, int place, int frames) {
        CHECK.due(what, s.run(s.steps), -50000 - fault);
        CHECK.dueTold(what, s.z, 3, fault, routine, place, frames, s.steps, s.interrupts(), Math.max(frames, s.frames));
    }

    private static void number() {
        CHECK.sentence("0 a on the STACK (FULL).");
        fine("on an empty stack", EMPTY, 0, 9, 0);
        fineWithSixty("as a 60th", toSixty(1), 0, 9, 0);
        wrongWithSixty("as a 61st", FULL, toSixty(0), 0, 9, 0);
    }

    private static void fromLocal() {
        CHECK.sentence("1 LOCAL a on it (LOCAL; FULL).");
        fine("the first", EMPTY, 1, 0, 0);
        fine("the last", EMPTY, 1, 1, 0);
        int[] none = {-1, 2, 15, 16, 65536, LEAST, MOST};
        for (int local : none) {
            wrong("of " + local, LOCAL, EMPTY, 1, local, 0);
            wrongWithSixty("LOCAL ahead of FULL, of " + local, LOCAL, toSixty(0), 1, local, 0);
        }
        fineWithSixty("as a 60th", toSixty(1), 1, 1, 0);
        wrongWithSixty("as a 61st", FULL, toSixty(0), 1, 1, 0);
    }

    private static void intoLocal() {
        CHECK.sentence("2 the top into LOCAL a (UNDER; LOCAL).");
        fine("the first", Scene.numbers(1), 2, 0, 0);
        fine("the last", Scene.numbers(1), 2, 1, 0);
        fineWithSixty("with 60", toSixty(0), 2, 1, 0);
        wrong("of an empty stack", UNDER, EMPTY, 2, 1, 0);
        int[] none = {-1, 2, 15, 16, 65536, LEAST, MOST};
        for (int local : none) {
            wrong("to " + local, LOCAL, Scene.numbers(1), 2, local, 0);
            wrong("UNDER ahead of LOCAL, to " + local, UNDER, EMPTY, 2, local, 0);
        }
    }

    private static void reckoning() {
        CHECK.sentence("3 to 7: the top x, below it y (UNDER; ..). 19 .. (likewise).");
        int[] ops = {3, 4, 5, 6, 7, 19};
        for (int op : ops) {
            wrong("of none", UNDER, EMPTY, op, 0, 0);
            wrong("of one", UNDER, Scene.numbers(1), op, 0, 0);
            fine("of two", Scene.numbers(2), op, 0, 0);
            fine("of three", Scene.numbers(3), op, 0, 0);
            fineWithSixty("with 60", toSixty(0), op, 0, 0);
        }
    }

    private static void division() {
        CHECK.sentence("y by x (cut toward 0), what is left of that (UNDER; ZERO).");
        for (int op = 6; op <= 7; op++) {
            wrong("by 0", ZERO, new int[] {5, 0}, op, 0, 0);
            wrong("0 by 0", ZERO, new int[] {0, 0}, op, 0, 0);
            wrong("by 65536, which is 0", ZERO, new int[] {5, 65536}, op, 0, 0);
            wrong("UNDER ahead of ZERO", UNDER, new int[] {0}, op, 0, 0);
            fine("by 1", new int[] {5, 1}, op, 0, 0);
            fine("by -1", new int[] {-32768, -1}, op, 0, 0);
            fine("0 by 1", new int[] {0, 1}, op, 0, 0);
        }
    }

    private static void jumps() {
        CHECK.sentence("8 the top (UNDER); if it is 0, a is next. 9 a is next. (PLACE comes when it would be done.)");
        wrong("of an empty stack", UNDER, EMPTY, 8, 0, 0);
        wrong("UNDER ahead of PLACE", UNDER, EMPTY, 8, -1, 0);
        fine("with 1", new int[] {1}, 8, 0, 0);
        fine("with -1", new int[] {-1}, 8, -1, 0);
        int[] places = {0, 1, 2, -1, 23, 24, 65536, LEAST, MOST};
        for (int place : places) {
            fineJump("with 0 to " + place, place, new int[] {0}, 8, place, 0);
            fineJump("with 65536 to " + place, place, new int[] {65536}, 8, place, 0);
            fineJump("to " + place, place, new int[] {1}, 9, place, 0);
        }
        CHECK.sentence("(PLACE comes when it would be done.)");
        int[] none = {-1, 2, 24, 65536, LEAST, MOST};
        for (int place : none) {
            Scene s = Scene.inRun(2, 1, new int[] {0}, 8, place, 0);
            CHECK.due("8 to " + place, s.run(s.steps + 1), -50000 - PLACE);
            CHECK.dueTold("8 to " + place, s.z, 3, PLACE, Scene.TARGET, place, 2, s.steps + 1, 0, 2);
        }
        Scene s = Scene.inRun(2, 1, new int[] {0}, 8, 1, 0);
        CHECK.due("8 to itself, the last place", s.run(2000), -50000 - UNDER);
        CHECK.dueTold("8 to itself, the last place", s.z, 3, UNDER, Scene.TARGET, 1, 2, s.steps + 1, 0, 2);
    }

    private static void calls() {
        CHECK.sentence("10 .. (b below 0, or above 15, or not so many: UNDER; ..)");
        wrong("with -1", UNDER, Scene.numbers(3), 10, Scene.SIMPLE, -1);
        wrong("with the least", UNDER, Scene.numbers(3), 10, Scene.SIMPLE, LEAST);
        wrong("with 16 of 16", UNDER, Scene.numbers(16), 10, Scene.SIMPLE, 16);
        wrong("with the most", UNDER, Scene.numbers(16), 10, Scene.SIMPLE, MOST);
        wrong("with 65536", UNDER, Scene.numbers(3), 10, Scene.SIMPLE, 65536);
        wrong("with 15 of 14", UNDER, Scene.numbers(14), 10, Scene.SIMPLE, 15);
        wrong("with 1 of 0", UNDER, EMPTY, 10, Scene.SIMPLE, 1);
        fineCall("with 0 of 0", 1, 0, EMPTY, 10, Scene.SIMPLE, 0);
        fineCall("with 1 of 1", 1, 0, Scene.numbers(1), 10, Scene.SIMPLE, 1);
        fineCall("with 15 of 15", 3, 2, Scene.numbers(15), 10, Scene.SIMPLE, 15);
        fineCall("with 15 of 16", 3, 2, Scene.numbers(16), 10, Scene.SIMPLE, 15);

        CHECK.sentence("10 .. (..; ROUTINE; ..)");
        int[] none = {-1, Scene.NONE_SUCH, 19, 20, 65536, LEAST, MOST};
        for (int routine : none) {
            wrong("of " + routine, ROUTINE, EMPTY, 10, routine, 0);
        }
        fineCall("of the first", 3, 0, EMPTY, 10, 0, 0);
        fineCall("of the last", 3, 0, EMPTY, 10, Scene.SIMPLE, 0);

        CHECK.sentence("10 .. (..; DEEP; ..)");
        fineCall("as a 25th", 24, 0, EMPTY, 10, Scene.SIMPLE, 0);
        wrongIn("as a 26th", 25, 0, DEEP, EMPTY, 10, Scene.SIMPLE, 0);

        CHECK.sentence("10 .. (..; FULL: 60 NUMBERS are left)");
        fineCall("59 are there", 4, 15, toSixty(1), 10, Scene.SIMPLE, 0);
        wrongWithSixty("60 are left", FULL, toSixty(0), 10, Scene.SIMPLE, 0);
        fineCall("60 were there, 59 are left", 4, 15, toSixty(0), 10, Scene.SIMPLE, 1);
        fineCall("60 were there, 45 are left", 4, 15, toSixty(0), 10, Scene.SIMPLE, 15);
    }

    private static void callsWithSeveralFaults() {
        CHECK.sentence("10 .. UNDER ahead of ROUTINE, DEEP, FULL");
        int[] tooMany = {-1, 16, LEAST, MOST};
        for (int b : tooMany) {
            wrong("UNDER ahead of ROUTINE", UNDER, EMPTY, 10, Scene.NONE_SUCH, b);
            wrongIn("UNDER ahead of DEEP", 25, 0, UNDER, EMPTY, 10, Scene.SIMPLE, b);
            wrongWithSixty("UNDER ahead of FULL", UNDER, toSixty(0), 10, Scene.SIMPLE, b);
            wrongIn("UNDER ahead of ROUTINE, DEEP, FULL", 25, 2, UNDER, Scene.numbers(12), 10, -1, b);
        }
        wrong("UNDER, 1 of 0, ahead of ROUTINE", UNDER, EMPTY, 10, -1, 1);
        wrongIn("UNDER, 1 of 0, ahead of DEEP", 25, 2, UNDER, EMPTY, 10, Scene.SIMPLE, 1);
        wrongIn("UNDER, 13 of 12, ahead of DEEP, FULL", 25, 2, UNDER, Scene.numbers(12), 10, Scene.SIMPLE, 13);
        wrongIn("UNDER, 13 of 12, ahead of ROUTINE, DEEP, FULL", 25, 2, UNDER, Scene.numbers(12), 10, 4, 13);

        CHECK.sentence("10 .. ROUTINE ahead of DEEP, FULL");
        wrongIn("ROUTINE ahead of DEEP", 25, 0, ROUTINE, EMPTY, 10, Scene.NONE_SUCH, 0);
        wrongIn("ROUTINE ahead of DEEP, with one", 25, 0, ROUTINE, Scene.numbers(1), 10, -1, 1);
        wrongWithSixty("ROUTINE ahead of FULL", ROUTINE, toSixty(0), 10, Scene.NONE_SUCH, 0);
        wrongIn("ROUTINE ahead of DEEP, FULL", 25, 2, ROUTINE, Scene.numbers(12), 10, -1, 0);

        CHECK.sentence("10 .. DEEP ahead of FULL");
        wrongIn("DEEP ahead of FULL", 25, 2, DEEP, Scene.numbers(12), 10, Scene.SIMPLE, 0);
        wrongIn("DEEP, with 59 left", 25, 2, DEEP, Scene.numbers(12), 10, Scene.SIMPLE, 1);
        wrongIn("FULL in a 24th frame", 24, 2, FULL, Scene.numbers(14), 10, Scene.SIMPLE, 0);
        fineCall("a 25th frame, 59 left", 24, 2, Scene.numbers(14), 10, Scene.SIMPLE, 1);
    }

    private static void closing() {
        CHECK.sentence("11 the FRAME comes to the top (UNDER) and is closed.");
        wrong("of an empty stack", UNDER, EMPTY, 11, 0, 0);
        Scene alone = Scene.inRun(1, 0, new int[] {5, 8}, 11, 0, 0);
        CHECK.due("11 of the first", alone.run(alone.steps), 8);
        CHECK.dueTold("11 of the first", alone.z, 1, 0, 0, 0, 0, alone.steps, 0, 1);
        Scene second = Scene.inRun(2, 3, new int[] {8}, 11, 0, 0);
        dueNext("11 of a second", second, FUEL, Scene.CHAIN, 3 + Scene.BEHIND_TARGET, 1);
        Scene deepest = Scene.inRun(25, 0, new int[] {8}, 11, 0, 0);
        dueNext("11 of a 25th", deepest, FUEL, Scene.CHAIN, Scene.BEHIND_TARGET, 24);
        Scene sixty = Scene.inRun(4, 15, toSixty(0), 11, 0, 0);
        dueNext("11 with 60", sixty, FUEL, Scene.CHAIN, 15 + Scene.BEHIND_TARGET, 3);
    }

    private static void frameNumber() {
        CHECK.sentence("12 this FRAME's NUMBER on the STACK (FULL).");
        fine("on an empty stack", EMPTY, 12, 0, 0);
        fineWithSixty("as a 60th", toSixty(1), 12, 0, 0);
        wrongWithSixty("as a 61st", FULL, toSixty(0), 12, 0, 0);
    }

    private static void throwing() {
        CHECK.sentence("13 the top x, below it n (UNDER) .. GONE: none of this RUN .. is n.");
        wrong("of none", UNDER, EMPTY, 13, 0, 0);
        wrong("of one", UNDER, new int[] {1}, 13, 0, 0);
        wrong("UNDER ahead of GONE", UNDER, new int[] {99}, 13, 0, 0);
        int[] gone = {0, -1, 4, 25, 26, 32767, -32768};
        for (int n : gone) {
            wrongIn("to " + n, 3, 2, GONE, new int[] {n, 7}, 13, 0, 0);
        }
        dueWrong("13 to a second of one", Scene.inRun(1, 0, new int[] {2, 7}, 13, 0, 0), GONE, FUEL);
        wrongIn("to a 26th of 25", 25, 0, GONE, new int[] {26, 7}, 13, 0, 0);
        for (int n = 2; n <= 25; n++) {
            Scene s = Scene.inRun(25, 1, new int[] {n, 7}, 13, 0, 0);
            int behind = 1 + (n == 25 ? Scene.BEHIND_TARGET : Scene.BEHIND_CHAIN);
            dueNext("13 to " + n, s, FUEL, Scene.CHAIN, behind, n - 1);
        }
        int[] depths = {1, 2, 25};
        for (int depth : depths) {
            Scene s = Scene.inRun(depth, 1, new int[] {1, 7}, 13, 0, 0);
            CHECK.due("13 to the first of " + depth, s.run(s.steps), 7);
            CHECK.dueTold("13 to the first of " + depth, s.z, 1, 0, 0, 0, 0, s.steps, 0, depth);
        }

        CHECK.sentence("13 .. or of this INTERRUPT alone within one ..");
        for (int n = -1; n <= 6; n++) {
            Scene s = Scene.inInterrupt(4, 1, new int[] {n, 7}, 13, 0, 0);
            String what = "13 to " + n + " in an interrupt that is frame 2 of 4";
            if (n == 2) {
                CHECK.due(what, s.run(2000), 7);
                CHECK.dueTold(what, s.z, 2, 0, 0, 0, 0, s.steps, 1, 4);
            } else if (n == 3 || n == 4) {
                int behind = 1 + (n == 4 ? Scene.BEHIND_TARGET : Scene.BEHIND_CHAIN);
                dueNext(what, s, INTERRUPT, Scene.CHAIN, behind, n - 1);
            } else {
                dueWrong(what, s, INTERRUPT, INTERRUPT);
            }
        }
    }

    private static void givenCount() {
        CHECK.sentence("14 how many were GIVEN to this FRAME (FULL).");
        fine("on an empty stack", EMPTY, 14, 0, 0);
        fineWithSixty("as a 60th", toSixty(1), 14, 0, 0);
        wrongWithSixty("as a 61st", FULL, toSixty(0), 14, 0, 0);
    }

    private static void toUserStack() {
        CHECK.sentence("15 the top (UNDER) on USER STACK a (STACK), and 1 on the STACK, if there was room, else 0.");
        wrong("of an empty stack", UNDER, EMPTY, 15, 0, 0);
        int[] none = {-1, 4, 65536, LEAST, MOST};
        for (int s : none) {
            wrong("on " + s, STACK, Scene.numbers(1), 15, s, 0);
            wrong("UNDER ahead of STACK, on " + s, UNDER, EMPTY, 15, s, 0);
            wrongWithSixty("with 60, on " + s, STACK, toSixty(0), 15, s, 0);
        }
        for (int s = 0; s < 4; s++) {
            fine("on " + s, Scene.numbers(1), 15, s, 0);
            fineWithSixty("with 60, on " + s, toSixty(0), 15, s, 0);
        }
    }

    private static void fromUserStack() {
        CHECK.sentence("16 the top of USER STACK a (STACK; UNDER: it is empty) on the STACK (FULL).");
        int[] none = {-1, 4, 65536, LEAST, MOST};
        for (int s : none) {
            wrong("of " + s, STACK, Scene.numbers(1), 16, s, 0);
            wrongWithSixty("STACK ahead of FULL, of " + s, STACK, toSixty(0), 16, s, 0);
        }
        for (int s = 1; s <= 2; s++) {
            wrong("of " + s + ", which is empty", UNDER, Scene.numbers(1), 16, s, 0);
            wrongWithSixty("UNDER ahead of FULL", UNDER, toSixty(0), 16, s, 0);
        }
        for (int s = 0; s <= 3; s += 3) {
            fine("of " + s, EMPTY, 16, s, 0);
            fineWithSixty("as a 60th", toSixty(1), 16, s, 0);
            wrongWithSixty("as a 61st", FULL, toSixty(0), 16, s, 0);
        }
    }

    private static void onceMore() {
        CHECK.sentence("17 the top once more (UNDER; FULL).");
        wrong("of an empty stack", UNDER, EMPTY, 17, 0, 0);
        fine("of one", Scene.numbers(1), 17, 0, 0);
        fineWithSixty("as a 60th", toSixty(1), 17, 0, 0);
        wrongWithSixty("as a 61st", FULL, toSixty(0), 17, 0, 0);
        // A frame without numbers of its own finds 60 only as an interrupt, where both are told alike.
        Scene s = Scene.inInterrupt(2, 15, EMPTY, 17, 0, 0);
        dueWrong("17 of an empty stack in an interrupt", s, INTERRUPT, INTERRUPT);
    }

    private static void takenAway() {
        CHECK.sentence("18 the top is taken away (UNDER).");
        wrong("of an empty stack", UNDER, EMPTY, 18, 0, 0);
        fine("of one", Scene.numbers(1), 18, 0, 0);
        fineWithSixty("with 60", toSixty(0), 18, 0, 0);
    }

    private static void others() {
        CHECK.sentence("All others, and behind the last one: PLACE.");
        int[] ops = {-1, 20, 21, 65536, 65555, LEAST, MOST};
        for (int op : ops) {
            wrong("on an empty stack", PLACE, EMPTY, op, 0, 0);
            wrong("on two numbers", PLACE, Scene.numbers(2), op, 0, 0);
            wrongWithSixty("with 60", PLACE, toSixty(0), op, 0, 0);
        }
        Scene s = Scene.inRun(3, 2, EMPTY, 0, 9, 0);
        CHECK.due("behind the last one", s.run(2000), -50000 - PLACE);
        CHECK.dueTold("behind the last one", s.z, 3, PLACE, Scene.TARGET, 1, 3, s.steps + 1, 0, 3);
        Scene in = Scene.inInterrupt(3, 2, EMPTY, 0, 9, 0);
        CHECK.due("behind the last one of an interrupt", in.run(2000), -50000 - INTERRUPT);
        CHECK.dueTold("behind the last one of an interrupt", in.z, 3, INTERRUPT, Scene.TARGET, 1, 3, in.steps + 1, 1, 3);
    }
}
