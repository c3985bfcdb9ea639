import java.util.function.ToIntFunction;

/** The edges that part 3 of the Terms, promises 19 and 20 and "What it is" name, sentence by sentence. */
public final class ActEdgesTest {
    private static final int NONE = AngleNet.NONE, STATE = AngleNet.STATE, NO = AngleNet.NO,
        UNKNOWN = AngleNet.UNKNOWN, OUTSIDE = AngleNet.OUTSIDE, FULL = AngleNet.FULL;
    private static final int CALLS = 512;
    private static final Check CHECK = new Check("ActEdgesTest");

    public static void main(String[] args) {
        noActsAtFirst();
        oneAct();
        undoAnswersHowManyAreLeft();
        redoAnswersHowManyAreLeft();
        fiftyNineSixtyAndSixtyOne();
        theOldestIsForgotten();
        sixtyAgainAfterUndo();
        sixtyUndoneAndDoneAgain();
        actsThatAreDoneAgainAreKept();
        noRedoAfterAnAct();
        redoAfterRefusedActs();
        redoAfterCallsThatAreNoActs();
        redoOfAFullNet();
        undoOfATurn();
        tellsThatChangeNothing();
        postsForgetsActs();
        the512thCall();
        callsBehindTheLast();
        CHECK.end();
    }

    private static void noActsAtFirst() {
        AngleNet net = new AngleNet();
        CHECK.due("redo() of a new net", net.redo(), STATE);
        CHECK.due("undo() of a new net", net.undo(), STATE);
        CHECK.due("redo() after undo() was refused", net.redo(), STATE);
        CHECK.same("all after both", Nets.all(net), Nets.all(new AngleNet()));
    }

    private static void oneAct() {
        AngleNet net = new AngleNet();
        net.third(3, 0, 1);
        CHECK.due("redo() after one act", net.redo(), STATE);
        CHECK.due("undo() of one act", net.undo(), 0);
        CHECK.due("told(1) after undo()", net.told(1), 0);
        CHECK.due("undo() once more", net.undo(), STATE);
        CHECK.due("redo() of one act", net.redo(), 0);
        CHECK.due("at(0) after redo()", net.at(0), 3);
        CHECK.due("redo() once more", net.redo(), STATE);
        CHECK.due("told(1) after redo()", net.told(1), 1);
    }

    private static AngleNet told(int acts) {
        AngleNet net = new AngleNet();
        for (int sum = 1; sum <= acts; sum++) {
            net.tell(0, sum);
        }
        return net;
    }

    private static void undoAnswersHowManyAreLeft() {
        AngleNet net = told(3);
        for (int left = 2; left >= 0; left--) {
            CHECK.due("undo()", net.undo(), left);
            CHECK.due("about(0, 4)", net.about(0, 4), left == 0 ? NONE : left);
        }
        CHECK.due("undo() of none", net.undo(), STATE);
    }

    private static void redoAnswersHowManyAreLeft() {
        AngleNet net = told(3);
        for (int turns = 0; turns < 3; turns++) {
            net.undo();
        }
        for (int left = 2; left >= 0; left--) {
            CHECK.due("redo()", net.redo(), left);
            CHECK.due("about(0, 4)", net.about(0, 4), 3 - left);
        }
        CHECK.due("redo() of none", net.redo(), STATE);
    }

    private static void fiftyNineSixtyAndSixtyOne() {
        for (int acts : new int[] {1, 58, 59, 60, 61, 62, 119, 120, 121, 180, 181}) {
            AngleNet net = told(acts);
            int kept = Math.min(acts, 60);
            CHECK.due("the first undo() of " + acts, net.undo(), kept - 1);
            for (int left = kept - 2; left >= 0; left--) {
                CHECK.due("undo() of " + acts, net.undo(), left);
            }
            CHECK.due("undo() of none of " + acts, net.undo(), STATE);
            int stays = acts - kept;
            CHECK.due("what stays of " + acts, net.about(0, 4), stays == 0 ? NONE : stays);
        }
    }

    /** The 61st act makes that the first one can't be taken back, of whichever kind it is. */
    private static void theOldestIsForgotten() {
        for (int before = 58; before <= 60; before++) {
            AngleNet net = new AngleNet();
            net.third(0, 1, 2);
            net.third(1, 0, 3);
            net.turn(0, 1);
            for (int sum = 0; sum < before; sum++) {
                net.tell(3, sum);
            }
            for (int left = 59; left >= 0; left--) {
                CHECK.due("undo() with " + before, net.undo(), left);
            }
            CHECK.due("undo() of none with " + before, net.undo(), STATE);
            CHECK.due("told(1) with " + before, net.told(1), before == 58 ? 1 : 2);
            CHECK.due("side(0, 1) with " + before, net.side(0, 1), before == 58 ? 1 : before == 59 ? 2 : 0);
            for (int left = 59; left >= 0; left--) {
                CHECK.due("redo() with " + before, net.redo(), left);
            }
            CHECK.due("side(0, 1) after all with " + before, net.side(0, 1), 0);
            CHECK.due("about(3, 4) after all with " + before, net.about(3, 4), before - 1);
        }
    }

    /** An act in place of one that was taken back does not make another one forgotten. */
    private static void sixtyAgainAfterUndo() {
        AngleNet net = told(60);
        CHECK.due("undo() of sixty", net.undo(), 59);
        net.tell(0, 1000);
        for (int left = 59; left >= 0; left--) {
            CHECK.due("undo()", net.undo(), left);
            CHECK.due("about(0, 4)", net.about(0, 4), left == 0 ? NONE : left);
        }
        CHECK.due("undo() of none", net.undo(), STATE);
        for (int left = 59; left >= 0; left--) {
            CHECK.due("redo()", net.redo(), left);
        }
        CHECK.due("about(0, 4) after all", net.about(0, 4), 1000);
    }

    private static void sixtyUndoneAndDoneAgain() {
        AngleNet net = told(75);
        for (int left = 59; left >= 0; left--) {
            CHECK.due("undo()", net.undo(), left);
        }
        CHECK.due("about(0, 4), fifteen are forgotten", net.about(0, 4), 15);
        for (int left = 59; left >= 0; left--) {
            CHECK.due("redo()", net.redo(), left);
            CHECK.due("about(0, 4)", net.about(0, 4), 75 - left);
        }
        CHECK.due("redo() of none", net.redo(), STATE);
        CHECK.due("about(0, 4)", net.about(0, 4), 75);
    }

    private static void actsThatAreDoneAgainAreKept() {
        AngleNet net = told(60);
        for (int turns = 0; turns < 5; turns++) {
            net.undo();
        }
        for (int turns = 0; turns < 5; turns++) {
            net.redo();
        }
        net.tell(0, 61);
        CHECK.due("undo() after redo() and one act more", net.undo(), 59);
        CHECK.due("about(0, 4)", net.about(0, 4), 60);
        for (int left = 58; left >= 0; left--) {
            CHECK.due("undo()", net.undo(), left);
        }
        CHECK.due("undo() of none", net.undo(), STATE);
        CHECK.due("about(0, 4), the first is forgotten", net.about(0, 4), 1);
    }

    private static AngleNet undone() {
        AngleNet net = Nets.of(5, Nets.FAN);
        net.tell(1, 100);
        net.tell(1, 90);
        net.undo();
        return net;
    }

    private static void noRedoAfterAnAct() {
        CHECK.due("redo() with no act since", undone().redo(), 0);
        noRedo("third()", net -> net.third(2, 1, 4), 4);
        noRedo("turn()", net -> net.turn(0, 1), 1);
        noRedo("tell()", net -> net.tell(3, 0), NONE);
        noRedo("tell() as before", net -> net.tell(1, 90), 100);
        noRedo("tell() that changes nothing", net -> net.tell(1, 100), 100);
        noRedo("tell() of -1", net -> net.tell(2, -1), NONE);
    }

    private static void noRedo(String name, ToIntFunction<AngleNet> act, int due) {
        AngleNet net = undone();
        CHECK.due(name, act.applyAsInt(net), due);
        int[] all = Nets.all(net);
        AngleNet other = undone();
        act.applyAsInt(other);
        CHECK.due("redo() after " + name, other.redo(), STATE);
        CHECK.same("all after redo() was refused", Nets.all(other), all);
        CHECK.due("undo() of " + name, other.undo(), 5);
        CHECK.due("redo() of " + name, other.redo(), 0);
        CHECK.due("redo() of none", other.redo(), STATE);
    }

    private static void redoAfterRefusedActs() {
        AngleNet net = undone();
        CHECK.due("third(0, 1, 2)", net.third(0, 1, 2), NO);
        CHECK.due("third(0, 0, 2)", net.third(0, 0, 2), UNKNOWN);
        CHECK.due("turn(1, 2)", net.turn(1, 2), STATE);
        CHECK.due("turn(1, 3)", net.turn(1, 3), UNKNOWN);
        CHECK.due("tell(5, 1)", net.tell(5, 1), UNKNOWN);
        CHECK.due("tell(1, 4001)", net.tell(1, 4001), OUTSIDE);
        CHECK.due("tell(1, -2)", net.tell(1, -2), OUTSIDE);
        CHECK.due("posts(2)", net.posts(2), OUTSIDE);
        CHECK.due("straight(5)", net.straight(5), OUTSIDE);
        CHECK.due("least(61)", net.least(61), OUTSIDE);
        CHECK.due("redo() after refused calls", net.redo(), 0);
        CHECK.due("about(1, 4)", net.about(1, 4), 90);
        CHECK.due("undo() after refused calls", net.undo(), 5);
    }

    private static void redoAfterCallsThatAreNoActs() {
        AngleNet net = undone();
        net.straight(90);
        net.least(7);
        net.straight(90);
        net.least(7);
        Nets.all(net);
        CHECK.due("redo() after calls that are no acts", net.redo(), 0);
        CHECK.due("about(1, 4)", net.about(1, 4), 90);
        CHECK.due("told(6)", net.told(6), 90);
        CHECK.due("told(7)", net.told(7), 7);
        CHECK.due("undo()", net.undo(), 5);
        CHECK.due("told(6) after undo()", net.told(6), 90);
        CHECK.due("told(7) after undo()", net.told(7), 7);
    }

    private static void redoOfAFullNet() {
        AngleNet net = Nets.of(9, Nets.TWELVE);
        for (int left = 11; left >= 0; left--) {
            CHECK.due("undo()", net.undo(), left);
            CHECK.due("told(1) after undo()", net.told(1), left);
        }
        for (int left = 11; left >= 0; left--) {
            CHECK.due("redo()", net.redo(), left);
            CHECK.due("told(1) after redo()", net.told(1), 12 - left);
        }
        for (int c = 0; c < 36; c++) {
            CHECK.due("at(" + c + ")", net.at(c), Nets.TWELVE[c / 3][c % 3]);
        }
        CHECK.due("third(0, 2, 8)", net.third(0, 2, 8), FULL);
    }

    private static void undoOfATurn() {
        AngleNet net = Nets.of(9, Nets.TWELVE);
        net.turn(0, 5);
        int[] after = Nets.corners(net);
        CHECK.due("undo() of turn()", net.undo(), 12);
        for (int c = 0; c < 36; c++) {
            CHECK.due("at(" + c + ") after undo()", net.at(c), Nets.TWELVE[c / 3][c % 3]);
        }
        CHECK.due("side(6, 7) after undo()", net.side(6, 7), 0);
        CHECK.due("redo() of turn()", net.redo(), 0);
        CHECK.same("corners after redo()", Nets.corners(net), after);
        CHECK.due("side(6, 7) after redo()", net.side(6, 7), 2);
    }

    private static void tellsThatChangeNothing() {
        AngleNet net = new AngleNet();
        net.tell(2, -1);
        net.tell(2, 0);
        net.tell(2, 0);
        CHECK.due("undo()", net.undo(), 2);
        CHECK.due("about(2, 4)", net.about(2, 4), 0);
        CHECK.due("undo()", net.undo(), 1);
        CHECK.due("about(2, 4)", net.about(2, 4), NONE);
        CHECK.due("undo()", net.undo(), 0);
        CHECK.due("about(2, 4)", net.about(2, 4), NONE);
        CHECK.due("undo() of none", net.undo(), STATE);
    }

    private static void postsForgetsActs() {
        AngleNet net = told(60);
        net.undo();
        CHECK.due("posts(4)", net.posts(4), 4);
        CHECK.due("undo() after posts()", net.undo(), STATE);
        CHECK.due("redo() after posts()", net.redo(), STATE);
        CHECK.due("about(0, 4) after posts()", net.about(0, 4), NONE);
        net.tell(0, 5);
        CHECK.due("undo() of the first act of posts anew", net.undo(), 0);
        CHECK.due("redo()", net.redo(), 0);
    }

    /** Acts up to the 510th call, so that the last two answers that are promised can be seen. */
    private static void the512thCall() {
        AngleNet net = Nets.of(9, Nets.TWELVE);
        int calls = 13;
        for (int sum = 0; calls < CALLS - 2; calls++, sum++) {
            CHECK.due("tell() as call " + (calls + 1), net.tell(8, sum), sum == 0 ? NONE : sum - 1);
        }
        CHECK.due("undo() as call 511", net.undo(), 59);
        CHECK.due("about(8, 4) as call 512", net.about(8, 4), 495);
        AngleNet other = Nets.of(4, Nets.TETRAHEDRON);
        for (calls = 5; calls < CALLS - 1; calls++) {
            CHECK.due("best() as call " + (calls + 1), other.best(), 60);
        }
        CHECK.due("angle(11) as call 512", other.angle(11), 178);
    }

    /** What later calls answer is free, but no call may throw. */
    private static void callsBehindTheLast() {
        AngleNet net = Nets.of(9, Nets.TWELVE);
        int answers = 0;
        for (int call = 0; call < 4 * CALLS; call++) {
            net.turn(call % 9, call / 9 % 9);
            net.tell(call % 9, call % 300);
            net.undo();
            net.third(call % 9, call / 9 % 9, call / 81 % 9);
            net.bar(call % 3);
            answers++;
        }
        CHECK.due("rounds of calls that came back", answers, 4 * CALLS);
    }
}
