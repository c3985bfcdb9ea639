import java.util.function.Supplier;
import java.util.function.ToIntFunction;

/**
 * The first sentence of the Terms, for promises 2 to 20: every answer that refuses a call, in nets of
 * several kinds, the first that fits where two do, and that a refused call changes nothing.
 */
public final class RefusedTest {
    private static final int UNKNOWN = AngleNet.UNKNOWN, OUTSIDE = AngleNet.OUTSIDE, STATE = AngleNet.STATE,
        FULL = AngleNet.FULL, NO = AngleNet.NO, NONE = AngleNet.NONE;
    private static final int MIN = Integer.MIN_VALUE, MAX = Integer.MAX_VALUE;
    private static final Check CHECK = new Check("RefusedTest");

    /** A net that can be made again and again, so that one can be looked at with and without a call. */
    private record Kind(String name, Supplier<AngleNet> maker) {
    }

    private static final Kind NEW = new Kind("a new net", AngleNet::new);
    private static final Kind SMALL = new Kind("three posts", () -> Nets.of(3, new int[][] {}));
    private static final Kind FEW = new Kind("a fan", RefusedTest::fan);
    private static final Kind BARRED = new Kind("a fan without a giving", RefusedTest::barredFan);
    private static final Kind TWO = new Kind("two thirds of three posts", () -> Nets.of(3, Nets.DOUBLE));
    private static final Kind TWELVE = new Kind("a full net", RefusedTest::fullNet);
    private static final Kind LONG = new Kind("many acts", RefusedTest::manyActs);
    private static final Kind[] KINDS = {NEW, SMALL, FEW, BARRED, TWO, TWELVE, LONG};

    public static void main(String[] args) {
        for (Kind kind : KINDS) {
            posts(kind);
            thirdOfNoPosts(kind);
            thirdOfOnePostTwice(kind);
            corners(kind);
            pairs(kind);
            about(kind);
            told(kind);
            straight(kind);
            least(kind);
            tell(kind);
            bar(kind);
            askingChangesNothing(kind);
        }
        thirdOfAnArrow();
        thirdOfAFullNet();
        turnWithoutASide();
        turnAtTheRim();
        turnOfTwoOnTheSamePosts();
        turnWhereTheOtherSideIs();
        oppositeWithoutASide();
        undoOfNone();
        redoOfNone();
        firstThatFits();
        CHECK.end();
    }

    private static AngleNet fan() {
        AngleNet net = Nets.of(5, Nets.FAN);
        net.straight(100);
        net.least(20);
        net.tell(0, 120);
        net.tell(1, 70);
        net.tell(1, 60);
        net.undo();
        return net;
    }

    private static AngleNet barredFan() {
        AngleNet net = Nets.of(5, Nets.FAN);
        net.straight(6);
        net.least(2);
        net.tell(3, 0);
        net.tell(3, 4);
        net.undo();
        return net;
    }

    private static AngleNet fullNet() {
        AngleNet net = Nets.of(9, Nets.TWELVE);
        net.straight(360);
        net.least(60);
        net.tell(8, 0);
        net.turn(2, 3);
        net.undo();
        return net;
    }

    private static AngleNet manyActs() {
        AngleNet net = new AngleNet();
        net.third(0, 1, 2);
        net.third(1, 0, 3);
        for (int sum = 1; sum <= 68; sum++) {
            net.tell(sum % 4, sum);
        }
        for (int turns = 0; turns < 10; turns++) {
            net.undo();
        }
        return net;
    }

    private static void refused(Kind kind, String name, int due, ToIntFunction<AngleNet> call) {
        String text = kind.name() + ": " + name;
        AngleNet net = kind.maker().get();
        CHECK.due(text, call.applyAsInt(net), due);
        CHECK.same("all after " + text, Nets.all(net), Nets.all(kind.maker().get()));
        AngleNet other = kind.maker().get();
        call.applyAsInt(other);
        CHECK.same("acts after " + text, Nets.acts(other), Nets.acts(kind.maker().get()));
    }

    private static void posts(Kind kind) {
        for (int n : new int[] {2, 10, 1, 0, -1, -4, MIN, MAX}) {
            refused(kind, "posts(" + n + ")", OUTSIDE, net -> net.posts(n));
        }
    }

    private static int[] noPosts(Kind kind) {
        return new int[] {-1, kind.maker().get().told(0), 9, MIN, MAX};
    }

    private static void thirdOfNoPosts(Kind kind) {
        for (int p : noPosts(kind)) {
            refused(kind, "third(" + p + ", 2, 1)", UNKNOWN, net -> net.third(p, 2, 1));
            refused(kind, "third(0, " + p + ", 1)", UNKNOWN, net -> net.third(0, p, 1));
            refused(kind, "third(0, 2, " + p + ")", UNKNOWN, net -> net.third(0, 2, p));
            refused(kind, "third() of " + p + " three times", UNKNOWN, net -> net.third(p, p, p));
        }
    }

    private static void thirdOfOnePostTwice(Kind kind) {
        refused(kind, "third(0, 0, 2)", UNKNOWN, net -> net.third(0, 0, 2));
        refused(kind, "third(2, 0, 0)", UNKNOWN, net -> net.third(2, 0, 0));
        refused(kind, "third(0, 2, 0)", UNKNOWN, net -> net.third(0, 2, 0));
        refused(kind, "third(1, 1, 1)", UNKNOWN, net -> net.third(1, 1, 1));
    }

    private static void corners(Kind kind) {
        int corners = 3 * kind.maker().get().told(1);
        for (int c : new int[] {-1, corners, 36, MIN, MAX}) {
            refused(kind, "at(" + c + ")", UNKNOWN, net -> net.at(c));
            refused(kind, "angle(" + c + ")", UNKNOWN, net -> net.angle(c));
        }
    }

    private static void pairs(Kind kind) {
        for (int p : noPosts(kind)) {
            pair(kind, p, 0);
            pair(kind, 2, p);
            pair(kind, p, p);
        }
        pair(kind, 0, 0);
        pair(kind, 2, 2);
    }

    private static void pair(Kind kind, int p, int q) {
        String named = "(" + p + ", " + q + ")";
        refused(kind, "side" + named, UNKNOWN, net -> net.side(p, q));
        refused(kind, "arrow" + named, UNKNOWN, net -> net.arrow(p, q));
        refused(kind, "turn" + named, UNKNOWN, net -> net.turn(p, q));
        refused(kind, "opposite" + named, UNKNOWN, net -> net.opposite(p, q));
    }

    private static void about(Kind kind) {
        for (int p : noPosts(kind)) {
            refused(kind, "about(" + p + ", 0)", UNKNOWN, net -> net.about(p, 0));
            refused(kind, "about(" + p + ", 5)", UNKNOWN, net -> net.about(p, 5));
        }
        for (int what : new int[] {-1, 6, 7, MIN, MAX}) {
            refused(kind, "about(0, " + what + ")", OUTSIDE, net -> net.about(0, what));
            refused(kind, "about(2, " + what + ")", OUTSIDE, net -> net.about(2, what));
        }
    }

    private static void told(Kind kind) {
        for (int what : new int[] {-1, 9, 10, MIN, MAX}) {
            refused(kind, "told(" + what + ")", -1002, net -> net.told(what));
        }
    }

    private static void straight(Kind kind) {
        int tooLow = 3 * kind.maker().get().told(7) - 1;
        for (int n : new int[] {5, 361, tooLow, 3, 0, -180, MIN, MAX}) {
            refused(kind, "straight(" + n + ")", OUTSIDE, net -> net.straight(n));
        }
    }

    private static void least(Kind kind) {
        int tooHigh = kind.maker().get().told(6) / 3 + 1;
        // Three times each of the last two is a low number again, in an int.
        for (int m : new int[] {0, 61, tooHigh, -1, MIN, MAX, 715827883, 1431655766}) {
            refused(kind, "least(" + m + ")", OUTSIDE, net -> net.least(m));
        }
    }

    private static void tell(Kind kind) {
        for (int p : noPosts(kind)) {
            refused(kind, "tell(" + p + ", 0)", UNKNOWN, net -> net.tell(p, 0));
            refused(kind, "tell(" + p + ", -1)", UNKNOWN, net -> net.tell(p, -1));
        }
        for (int sum : new int[] {-2, 4001, NONE, MIN, MAX}) {
            refused(kind, "tell(0, " + sum + ")", OUTSIDE, net -> net.tell(0, sum));
            refused(kind, "tell(2, " + sum + ")", OUTSIDE, net -> net.tell(2, sum));
        }
    }

    private static void bar(Kind kind) {
        for (int what : new int[] {-1, 3, MIN, MAX}) {
            refused(kind, "bar(" + what + ")", OUTSIDE, net -> net.bar(what));
        }
    }

    private static void askingChangesNothing(Kind kind) {
        AngleNet asked = kind.maker().get();
        int[] once = Nets.all(asked);
        CHECK.same(kind.name() + ": acts after all was asked", actsOfNew(asked), actsOfNew(kind.maker().get()));
        CHECK.same(kind.name() + ": all of another such net", Nets.all(kind.maker().get()), once);
    }

    /** The first step back and the first one forth, so that one object is not asked too often. */
    private static int[] actsOfNew(AngleNet net) {
        int forth = net.redo();
        int sums = net.told(8);
        int back = net.undo();
        return new int[] {forth, sums, back, net.told(8), net.told(1)};
    }

    private static void thirdOfAnArrow() {
        // The fan has (0, 1, 2), (0, 2, 3) and more: the arrow comes first, second or third here.
        int[][] no = {{0, 1, 2}, {1, 2, 0}, {2, 0, 1}, {0, 1, 3}, {3, 0, 1}, {1, 3, 0}, {1, 2, 4}, {4, 1, 2},
            {2, 4, 1}, {2, 0, 4}, {3, 0, 2}, {0, 2, 4}};
        for (int[] t : no) {
            refused(FEW, "third(" + t[0] + ", " + t[1] + ", " + t[2] + ")", NO, net -> net.third(t[0], t[1], t[2]));
        }
        refused(TWO, "third(0, 1, 2)", NO, net -> net.third(0, 1, 2));
        refused(TWO, "third(0, 2, 1)", NO, net -> net.third(0, 2, 1));
    }

    private static void thirdOfAFullNet() {
        refused(TWELVE, "third(0, 2, 8)", FULL, net -> net.third(0, 2, 8));
        refused(TWELVE, "third(8, 7, 6)", FULL, net -> net.third(8, 7, 6));
    }

    private static void turnWithoutASide() {
        refused(NEW, "turn(0, 1)", UNKNOWN, net -> net.turn(0, 1));
        refused(SMALL, "turn(2, 1)", UNKNOWN, net -> net.turn(2, 1));
        refused(FEW, "turn(1, 3)", UNKNOWN, net -> net.turn(1, 3));
        refused(TWELVE, "turn(6, 7)", UNKNOWN, net -> net.turn(6, 7));
        refused(TWELVE, "turn(8, 0)", UNKNOWN, net -> net.turn(8, 0));
    }

    private static void turnAtTheRim() {
        refused(FEW, "turn(1, 2)", STATE, net -> net.turn(1, 2));
        refused(FEW, "turn(2, 1)", STATE, net -> net.turn(2, 1));
        refused(BARRED, "turn(1, 4)", STATE, net -> net.turn(1, 4));
        refused(LONG, "turn(1, 2)", STATE, net -> net.turn(1, 2));
    }

    private static void turnOfTwoOnTheSamePosts() {
        for (int p = 0; p < 3; p++) {
            int from = p;
            int to = (p + 1) % 3;
            refused(TWO, "turn(" + from + ", " + to + ")", NO, net -> net.turn(from, to));
            refused(TWO, "turn(" + to + ", " + from + ")", NO, net -> net.turn(to, from));
        }
    }

    private static void turnWhereTheOtherSideIs() {
        // Turned, the side 0, 1 would be 2, 3: which is there with the one arrow, the other, or both.
        int[][][] more = {{{2, 3, 4}}, {{3, 2, 4}}, {{2, 3, 4}, {3, 2, 4}}};
        for (int[][] thirds : more) {
            Kind kind = new Kind(thirds.length + " thirds more", () -> {
                AngleNet net = Nets.of(5, new int[][] {{0, 1, 2}, {1, 0, 3}});
                for (int[] t : thirds) {
                    net.third(t[0], t[1], t[2]);
                }
                net.tell(4, 9);
                net.undo();
                return net;
            });
            refused(kind, "turn(0, 1)", NO, net -> net.turn(0, 1));
            refused(kind, "turn(1, 0)", NO, net -> net.turn(1, 0));
        }
        Kind ball = new Kind("a ball", () -> Nets.of(4, Nets.TETRAHEDRON));
        refused(ball, "turn(0, 1)", NO, net -> net.turn(0, 1));
        refused(ball, "turn(3, 2)", NO, net -> net.turn(3, 2));
    }

    private static void oppositeWithoutASide() {
        refused(NEW, "opposite(0, 1)", UNKNOWN, net -> net.opposite(0, 1));
        refused(FEW, "opposite(1, 3)", UNKNOWN, net -> net.opposite(1, 3));
        refused(BARRED, "opposite(1, 3)", UNKNOWN, net -> net.opposite(1, 3));
        refused(TWELVE, "opposite(6, 7)", UNKNOWN, net -> net.opposite(6, 7));
    }

    private static void undoOfNone() {
        refused(NEW, "undo()", STATE, AngleNet::undo);
        refused(SMALL, "undo()", STATE, AngleNet::undo);
        Kind back = new Kind("all undone", () -> {
            AngleNet net = new AngleNet();
            net.third(0, 1, 2);
            net.tell(0, 10);
            net.undo();
            net.undo();
            return net;
        });
        refused(back, "undo()", STATE, AngleNet::undo);
    }

    private static void redoOfNone() {
        refused(NEW, "redo()", STATE, AngleNet::redo);
        refused(TWO, "redo()", STATE, AngleNet::redo);
        Kind forth = new Kind("all done again", () -> {
            AngleNet net = fan();
            net.redo();
            return net;
        });
        refused(forth, "redo()", STATE, AngleNet::redo);
        Kind since = new Kind("an act since", () -> {
            AngleNet net = fan();
            net.tell(2, 50);
            return net;
        });
        refused(since, "redo()", STATE, AngleNet::redo);
    }

    private static void firstThatFits() {
        refused(TWELVE, "third(8, 9, 7): no such post, and full", UNKNOWN, net -> net.third(8, 9, 7));
        refused(TWELVE, "third(0, 1, 0): two are one, full, an arrow is there", UNKNOWN, net -> net.third(0, 1, 0));
        refused(TWELVE, "third(0, 1, 8): full, and an arrow is there", FULL, net -> net.third(0, 1, 8));
        refused(FEW, "third(0, 1, 5): no such post, and an arrow is there", UNKNOWN, net -> net.third(0, 1, 5));
        refused(FEW, "about(5, 6): no such post, and outside", UNKNOWN, net -> net.about(5, 6));
        refused(FEW, "about(-1, -1): no such post, and outside", UNKNOWN, net -> net.about(-1, -1));
        refused(FEW, "tell(5, 4001): no such post, and outside", UNKNOWN, net -> net.tell(5, 4001));
        refused(FEW, "tell(-1, -2): no such post, and outside", UNKNOWN, net -> net.tell(-1, -2));
        // NONE is what a call answers that goes: a refused one comes ahead of it.
        refused(BARRED, "about(5, 5): no such post, and no giving", UNKNOWN, net -> net.about(5, 5));
        refused(BARRED, "angle(12): no such corner, and no giving", UNKNOWN, net -> net.angle(12));
        refused(BARRED, "bar(3): outside, and no giving", OUTSIDE, net -> net.bar(3));
        refused(BARRED, "about(0, 5)", NONE, net -> net.about(0, 5));
        refused(BARRED, "angle(11)", NONE, net -> net.angle(11));
        refused(BARRED, "opposite(0, 1)", NONE, net -> net.opposite(0, 1));
        refused(BARRED, "fit()", NONE, AngleNet::fit);
    }
}
