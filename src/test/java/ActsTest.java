/** Promises 19 and 20: undo, redo. */
public final class ActsTest {
    private static final int NONE = AngleNet.NONE, OUTSIDE = AngleNet.OUTSIDE, STATE = AngleNet.STATE,
        NO = AngleNet.NO, UNKNOWN = AngleNet.UNKNOWN;
    private static final int ACTS = 8;
    private static final Check CHECK = new Check("ActsTest");

    public static void main(String[] args) {
        everyStepBackAndForth();
        redoEndsWithAnAct();
        refusedCallsLeaveRedo();
        sixtyAreKept();
        keptAfterMoreActs();
        othersAreNoActs();
        CHECK.end();
    }

    /** Each look is at a net of its own, as one object is used for 512 calls at most. */
    private static void everyStepBackAndForth() {
        int[][] seen = new int[ACTS + 1][];
        for (int step = 0; step <= ACTS; step++) {
            seen[step] = Nets.all(acted(step));
        }
        for (int turns = 0; turns < 2; turns++) {
            for (int step = ACTS; step >= 0; step--) {
                CHECK.same("all after undo() to " + step, Nets.all(back(turns, step)), seen[step]);
                CHECK.same("all after redo() to " + step, Nets.all(forth(turns, step)), seen[step]);
            }
        }
        AngleNet first = back(1, 0);
        CHECK.due("undo() of none", first.undo(), STATE);
        CHECK.same("all after undo() was refused", Nets.all(first), seen[0]);
        AngleNet last = forth(1, ACTS);
        CHECK.due("redo() of none", last.redo(), STATE);
        CHECK.same("all after redo() was refused", Nets.all(last), seen[ACTS]);
    }

    private static AngleNet acted(int steps) {
        AngleNet net = new AngleNet();
        net.posts(5);
        for (int step = 0; step < steps; step++) {
            act(net, step);
        }
        return net;
    }

    /** All acts, some times all of them back and forth, then back to a step. */
    private static AngleNet back(int turns, int step) {
        AngleNet net = acted(ACTS);
        for (int turn = 0; turn < turns; turn++) {
            undoTo(net, 0);
            redoTo(net, ACTS);
        }
        undoTo(net, step);
        return net;
    }

    private static AngleNet forth(int turns, int step) {
        AngleNet net = back(turns, 0);
        redoTo(net, step);
        return net;
    }

    private static void undoTo(AngleNet net, int step) {
        for (int left = ACTS - 1; left >= step; left--) {
            CHECK.due("undo()", net.undo(), left);
        }
    }

    private static void redoTo(AngleNet net, int step) {
        for (int done = 1; done <= step; done++) {
            CHECK.due("redo()", net.redo(), ACTS - done);
        }
    }

    private static void act(AngleNet net, int step) {
        switch (step) {
            case 0: net.third(0, 1, 2); break;
            case 1: net.tell(1, 90); break;
            case 2: net.third(2, 1, 3); break;
            case 3: net.turn(2, 1); break;
            case 4: net.tell(1, 7); break;
            case 5: net.third(1, 4, 3); break;
            case 6: net.turn(3, 1); break;
            default: net.tell(1, -1); break;
        }
    }

    private static void redoEndsWithAnAct() {
        for (int kind = 0; kind < 3; kind++) {
            AngleNet net = Nets.of(5, Nets.FAN);
            net.tell(0, 100);
            net.tell(0, 200);
            net.undo();
            net.undo();
            if (kind == 0) {
                net.third(2, 1, 4);
            } else if (kind == 1) {
                net.turn(0, 1);
            } else {
                net.tell(0, -1);
            }
            CHECK.due("redo() after an act of kind " + kind, net.redo(), STATE);
            CHECK.due("undo() after an act of kind " + kind, net.undo(), 4);
            CHECK.due("redo() of it", net.redo(), 0);
            CHECK.due("about(0, 4)", net.about(0, 4), NONE);
        }
    }

    private static void refusedCallsLeaveRedo() {
        AngleNet net = Nets.of(5, Nets.FAN);
        net.tell(0, 100);
        net.undo();
        CHECK.due("third(0, 1, 3)", net.third(0, 1, 3), NO);
        CHECK.due("turn(1, 3)", net.turn(1, 3), UNKNOWN);
        CHECK.due("turn(1, 2)", net.turn(1, 2), STATE);
        CHECK.due("tell(0, 4001)", net.tell(0, 4001), OUTSIDE);
        CHECK.due("posts(10)", net.posts(10), OUTSIDE);
        CHECK.due("redo()", net.redo(), 0);
        CHECK.due("about(0, 4)", net.about(0, 4), 100);
    }

    private static void sixtyAreKept() {
        AngleNet net = new AngleNet();
        net.third(0, 1, 2);
        for (int sum = 1; sum <= 60; sum++) {
            net.tell(3, sum);
        }
        for (int left = 59; left >= 0; left--) {
            CHECK.due("undo()", net.undo(), left);
            CHECK.due("about(3, 4)", net.about(3, 4), left == 0 ? NONE : left);
        }
        CHECK.due("undo() of the 61st", net.undo(), STATE);
        CHECK.due("told(1)", net.told(1), 1);
        for (int left = 59; left >= 0; left--) {
            CHECK.due("redo()", net.redo(), left);
            CHECK.due("about(3, 4)", net.about(3, 4), 60 - left);
        }
        CHECK.due("redo() of the 61st", net.redo(), STATE);
    }

    private static void keptAfterMoreActs() {
        AngleNet net = new AngleNet();
        for (int sum = 1; sum <= 150; sum++) {
            net.tell(sum % 4, sum);
        }
        for (int turns = 0; turns < 30; turns++) {
            net.undo();
        }
        CHECK.due("about(0, 4)", net.about(0, 4), 120);
        net.tell(0, 1000);
        CHECK.due("redo()", net.redo(), STATE);
        CHECK.due("undo()", net.undo(), 30);
        CHECK.due("about(0, 4)", net.about(0, 4), 120);
        for (int left = 29; left >= 0; left--) {
            CHECK.due("undo()", net.undo(), left);
        }
        CHECK.due("undo()", net.undo(), STATE);
        int[] due = {88, 89, 90, 87};
        for (int p = 0; p < 4; p++) {
            CHECK.due("about(" + p + ", 4)", net.about(p, 4), due[p]);
        }
    }

    private static void othersAreNoActs() {
        AngleNet net = new AngleNet();
        net.straight(90);
        net.least(3);
        net.can();
        net.best();
        CHECK.due("undo()", net.undo(), STATE);
        net.tell(0, 1);
        CHECK.due("undo()", net.undo(), 0);
        CHECK.due("told(6)", net.told(6), 90);
        CHECK.due("told(7)", net.told(7), 3);
        net.straight(91);
        net.least(4);
        CHECK.due("redo()", net.redo(), 0);
        CHECK.due("told(6)", net.told(6), 91);
        CHECK.due("told(7)", net.told(7), 4);
    }
}
