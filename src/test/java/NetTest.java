/** Promises 2 to 9: posts, third, at, side, arrow, turn, about, told. */
public final class NetTest {
    private static final int NONE = AngleNet.NONE, UNKNOWN = AngleNet.UNKNOWN, OUTSIDE = AngleNet.OUTSIDE,
        STATE = AngleNet.STATE, FULL = AngleNet.FULL, NO = AngleNet.NO;
    private static final Check CHECK = new Check("NetTest");

    public static void main(String[] args) {
        posts();
        third();
        thirdRefused();
        at();
        side();
        arrow();
        turn();
        turnRefused();
        aboutCounts();
        aboutRound();
        aboutSums();
        toldCounts();
        toldCharacter();
        CHECK.end();
    }

    private static void posts() {
        AngleNet net = Nets.of(4, Nets.TETRAHEDRON);
        net.straight(90);
        net.least(7);
        net.tell(0, 50);
        net.undo();
        int[] before = Nets.all(net);
        for (int n : new int[] {2, 10, 0, -1, Integer.MIN_VALUE, Integer.MAX_VALUE}) {
            CHECK.due("posts(" + n + ")", net.posts(n), OUTSIDE);
        }
        CHECK.same("all after posts() was refused", Nets.all(net), before);
        CHECK.due("redo() after posts() was refused", net.redo(), 0);
        CHECK.due("posts(3)", net.posts(3), 4);
        int[] due = {3, 0, 0, 0, 0, 0, 90, 7, 0};
        for (int what = 0; what < due.length; what++) {
            CHECK.due("told(" + what + ") after posts()", net.told(what), due[what]);
        }
        CHECK.due("arrow(0, 1) after posts()", net.arrow(0, 1), NONE);
        CHECK.due("about(0, 4) after posts()", net.about(0, 4), NONE);
        CHECK.due("undo() after posts()", net.undo(), STATE);
        CHECK.due("redo() after posts()", net.redo(), STATE);
        CHECK.due("can() after posts()", net.can(), 1);
        net.tell(0, 1);
        CHECK.due("can() with a sum", net.can(), 0);
        CHECK.due("posts(3)", net.posts(3), 3);
        CHECK.due("can() after posts()", net.can(), 1);
        CHECK.due("posts(9)", net.posts(9), 3);
        CHECK.due("posts(9)", net.posts(9), 9);
        net.third(6, 7, 8);
        net.undo();
        CHECK.due("posts(9)", net.posts(9), 9);
        CHECK.due("redo() after posts()", net.redo(), STATE);
    }

    private static void third() {
        AngleNet net = new AngleNet();
        net.posts(9);
        int number = 0;
        for (int p = 0; p < 6; p++) {
            CHECK.due("third()", net.third(p, (p + 1) % 6, 6), number++);
        }
        for (int p = 0; p < 6; p++) {
            CHECK.due("third()", net.third((p + 1) % 6, p, 7), number++);
        }
        CHECK.due("told(1)", net.told(1), 12);
        CHECK.due("third() once more", net.third(0, 2, 8), FULL);
        CHECK.due("third() that is full and has an arrow twice", net.third(0, 1, 8), FULL);
        CHECK.due("third() that is full and unknown", net.third(0, 0, 8), UNKNOWN);
        CHECK.due("told(1)", net.told(1), 12);
        CHECK.due("undo()", net.undo(), 11);
        CHECK.due("third() in its place", net.third(0, 2, 8), 11);
        CHECK.due("arrow(8, 0)", net.arrow(8, 0), 11);
    }

    private static void thirdRefused() {
        AngleNet net = new AngleNet();
        CHECK.due("third(0, 1, 2)", net.third(0, 1, 2), 0);
        int[] before = Nets.all(net);
        int[][] unknown = {{0, 0, 1}, {0, 1, 0}, {1, 0, 0}, {3, 3, 3}, {-1, 1, 2}, {0, -1, 2}, {0, 1, -1},
            {4, 1, 2}, {0, 4, 2}, {0, 1, 4}, {Integer.MIN_VALUE, 1, 2}, {0, Integer.MAX_VALUE, 2}};
        for (int[] t : unknown) {
            CHECK.due("third" + t[0] + t[1] + t[2], net.third(t[0], t[1], t[2]), UNKNOWN);
        }
        int[][] no = {{0, 1, 2}, {1, 2, 0}, {2, 0, 1}, {0, 1, 3}, {3, 0, 1}, {1, 3, 0}, {1, 2, 3}, {2, 0, 3}};
        for (int[] t : no) {
            CHECK.due("third" + t[0] + t[1] + t[2], net.third(t[0], t[1], t[2]), NO);
        }
        CHECK.same("all after third() was refused", Nets.all(net), before);
        CHECK.due("undo() after third() was refused", net.undo(), 0);
        CHECK.due("third(0, 2, 1)", net.third(0, 2, 1), 0);
        CHECK.due("third(0, 1, 2)", net.third(0, 1, 2), 1);
    }

    private static void at() {
        AngleNet net = new AngleNet();
        CHECK.due("at(0) without thirds", net.at(0), UNKNOWN);
        net.third(3, 1, 2);
        net.third(1, 3, 0);
        CHECK.same("corners", Nets.corners(net), new int[] {3, 1, 2, 1, 3, 0});
        for (int corner : new int[] {-1, 6, 36, Integer.MIN_VALUE, Integer.MAX_VALUE}) {
            CHECK.due("at(" + corner + ")", net.at(corner), UNKNOWN);
        }
        net.undo();
        CHECK.due("at(3) of a third that was taken back", net.at(3), UNKNOWN);
        CHECK.due("at(2)", net.at(2), 2);
    }

    private static void side() {
        AngleNet net = Nets.of(5, new int[][] {{0, 1, 2}, {1, 0, 3}});
        CHECK.due("side(0, 1)", net.side(0, 1), 2);
        CHECK.due("side(1, 0)", net.side(1, 0), 2);
        CHECK.due("side(1, 2)", net.side(1, 2), 1);
        CHECK.due("side(2, 1)", net.side(2, 1), 1);
        CHECK.due("side(2, 3)", net.side(2, 3), 0);
        CHECK.due("side(4, 0)", net.side(4, 0), 0);
        int[][] unknown = {{0, 0}, {4, 4}, {5, 0}, {0, 5}, {-1, 0}, {0, -1}, {-1, -1}, {Integer.MAX_VALUE, 1}};
        for (int[] s : unknown) {
            CHECK.due("side(" + s[0] + ", " + s[1] + ")", net.side(s[0], s[1]), UNKNOWN);
            CHECK.due("arrow(" + s[0] + ", " + s[1] + ")", net.arrow(s[0], s[1]), UNKNOWN);
        }
    }

    private static void arrow() {
        AngleNet net = Nets.of(5, new int[][] {{0, 1, 2}, {1, 0, 3}});
        int[][] due = {{0, 1, 0}, {1, 2, 0}, {2, 0, 0}, {1, 0, 1}, {0, 3, 1}, {3, 1, 1},
            {2, 1, NONE}, {0, 2, NONE}, {3, 0, NONE}, {1, 3, NONE}, {2, 3, NONE}, {4, 0, NONE}};
        for (int[] a : due) {
            CHECK.due("arrow(" + a[0] + ", " + a[1] + ")", net.arrow(a[0], a[1]), a[2]);
        }
    }

    private static void turn() {
        // The first third has the arrow p to q, whichever number it has and wherever it begins.
        AngleNet net = Nets.of(4, new int[][] {{3, 1, 0}, {2, 0, 1}});
        CHECK.due("turn(0, 1)", net.turn(0, 1), 1);
        // (0, 1, 2) is third 1 and becomes (0, 3, 2); (1, 0, 3) is third 0 and becomes (3, 1, 2).
        CHECK.same("corners", Nets.corners(net), new int[] {3, 1, 2, 0, 3, 2});
        CHECK.due("side(0, 1)", net.side(0, 1), 0);
        CHECK.due("side(2, 3)", net.side(2, 3), 2);
        CHECK.due("arrow(3, 2)", net.arrow(3, 2), 1);
        CHECK.due("arrow(2, 3)", net.arrow(2, 3), 0);
        CHECK.due("arrow(0, 3)", net.arrow(0, 3), 1);
        CHECK.due("arrow(3, 1)", net.arrow(3, 1), 0);
        CHECK.due("told(3)", net.told(3), 4);
        AngleNet other = Nets.of(4, new int[][] {{3, 1, 0}, {2, 0, 1}});
        CHECK.due("turn(1, 0)", other.turn(1, 0), 1);
        CHECK.same("corners, named the other way", Nets.corners(other), new int[] {1, 2, 3, 2, 0, 3});
        CHECK.due("undo()", other.undo(), 2);
        CHECK.same("corners, taken back", Nets.corners(other), new int[] {3, 1, 0, 2, 0, 1});
        CHECK.due("arrow(0, 1), taken back", other.arrow(0, 1), 1);
        CHECK.due("side(2, 3), taken back", other.side(2, 3), 0);
        CHECK.due("redo()", other.redo(), 0);
        CHECK.same("corners, again", Nets.corners(other), new int[] {1, 2, 3, 2, 0, 3});
        CHECK.due("arrow(2, 3), again", other.arrow(2, 3), 0);
    }

    private static void turnRefused() {
        AngleNet net = Nets.of(6, Nets.FAN);
        int[] before = Nets.all(Nets.of(6, Nets.FAN));
        int[][] unknown = {{0, 0}, {0, 6}, {6, 0}, {-1, 0}, {0, -1}, {0, 5}, {1, 3}, {5, 5}, {Integer.MIN_VALUE, 2}};
        for (int[] s : unknown) {
            CHECK.due("turn(" + s[0] + ", " + s[1] + ")", net.turn(s[0], s[1]), UNKNOWN);
        }
        CHECK.due("turn(1, 2) at the rim", net.turn(1, 2), STATE);
        CHECK.due("turn(2, 1) at the rim", net.turn(2, 1), STATE);
        CHECK.same("all after turn() was refused", Nets.all(net), before);
        turnRefusedAfterTurn();
        AngleNet twice = Nets.of(3, new int[][] {{0, 1, 2}, {1, 0, 2}});
        CHECK.due("turn(0, 1), r and s being one", twice.turn(0, 1), NO);
        // A side r, s at the rim, with its arrow either way, is there too.
        AngleNet rim = Nets.of(5, new int[][] {{0, 1, 2}, {1, 0, 3}, {2, 3, 4}});
        CHECK.due("turn(0, 1), the arrow 2 to 3 being there", rim.turn(0, 1), NO);
        CHECK.due("turn(1, 0), the arrow 2 to 3 being there", rim.turn(1, 0), NO);
    }

    private static void turnRefusedAfterTurn() {
        AngleNet net = Nets.of(6, Nets.FAN);
        CHECK.due("turn(0, 1)", net.turn(0, 1), 1);
        int[] before = Nets.all(net);
        CHECK.due("turn(0, 3), a side 2, 4 being there", net.turn(0, 3), NO);
        CHECK.due("turn(3, 0), a side 2, 4 being there", net.turn(3, 0), NO);
        CHECK.same("all after turn() was refused", Nets.all(net), before);
        CHECK.due("undo() after turn() was refused", net.undo(), 4);
    }

    private static void aboutCounts() {
        AngleNet net = Nets.of(6, Nets.FAN);
        int[][] due = {{4, 4, 1, 1}, {2, 3, 0, 1}, {2, 3, 0, 1}, {2, 3, 0, 1}, {2, 3, 0, 1}, {0, 0, 0, 0}};
        for (int p = 0; p < due.length; p++) {
            for (int what = 0; what < 4; what++) {
                CHECK.due("about(" + p + ", " + what + ")", net.about(p, what), due[p][what]);
            }
        }
        CHECK.due("about(6, 0)", net.about(6, 0), UNKNOWN);
        CHECK.due("about(-1, 0)", net.about(-1, 0), UNKNOWN);
        CHECK.due("about(6, 6)", net.about(6, 6), UNKNOWN);
        CHECK.due("about(0, 6)", net.about(0, 6), OUTSIDE);
        CHECK.due("about(0, -1)", net.about(0, -1), OUTSIDE);
        CHECK.due("about(5, 99)", net.about(5, 99), OUTSIDE);
    }

    private static void aboutRound() {
        // Two thirds that meet at post 0 alone: not round there, but round at their other posts.
        AngleNet net = Nets.of(5, new int[][] {{0, 1, 2}, {0, 3, 4}});
        CHECK.due("about(0, 3), two thirds at one post", net.about(0, 3), 0);
        CHECK.due("about(1, 3)", net.about(1, 3), 1);
        // They hang together by the side 1, 2 through other thirds, but not by sides at post 0.
        AngleNet far = Nets.of(6, new int[][] {{0, 1, 2}, {2, 1, 3}, {1, 4, 3}, {3, 4, 5}, {0, 5, 4}});
        CHECK.due("told(5)", far.told(5), 1);
        CHECK.due("about(0, 3), hanging together elsewhere", far.about(0, 3), 0);
        CHECK.due("about(1, 3)", far.about(1, 3), 1);
        // Two rounds at one post, each closed: free of rim, but not round.
        AngleNet twins = Nets.of(9, new int[][] {{0, 1, 2}, {0, 2, 3}, {0, 3, 1}, {0, 4, 5}, {0, 5, 6}, {0, 6, 4}});
        CHECK.due("about(0, 2) of two closed rounds", twins.about(0, 2), 1);
        CHECK.due("about(0, 3) of two closed rounds", twins.about(0, 3), 0);
        CHECK.due("about(0, 0) of two closed rounds", twins.about(0, 0), 6);
        // A chain whose thirds come in an order that does not follow it.
        AngleNet chain = Nets.of(8, new int[][] {{0, 1, 2}, {0, 5, 6}, {0, 3, 4}, {0, 4, 5}, {0, 2, 3}});
        CHECK.due("about(0, 3) of a chain", chain.about(0, 3), 1);
        CHECK.due("about(0, 2) of a chain", chain.about(0, 2), 0);
    }

    private static void aboutSums() {
        AngleNet net = Nets.of(4, new int[][] {{0, 1, 2}, {2, 1, 3}});
        CHECK.due("about(1, 4)", net.about(1, 4), NONE);
        net.tell(1, 200);
        CHECK.due("about(1, 4)", net.about(1, 4), 200);
        CHECK.same("the row", Nets.row(net), new int[] {1, 22, 157, 1, 178, 1});
        int[] together = {1, 200, 158, 1};
        for (int p = 0; p < 4; p++) {
            CHECK.due("about(" + p + ", 5)", net.about(p, 5), together[p]);
        }
        net.tell(1, 0);
        CHECK.due("about(1, 4)", net.about(1, 4), 0);
        CHECK.due("about(0, 5) without a giving", net.about(0, 5), NONE);
        net.tell(1, -1);
        CHECK.due("about(1, 4)", net.about(1, 4), NONE);
    }

    private static void toldCounts() {
        AngleNet net = Nets.of(9, new int[][] {{0, 1, 2}, {2, 1, 3}, {0, 4, 5}});
        net.straight(30);
        net.least(4);
        net.tell(0, 17);
        net.tell(8, 5);
        net.tell(7, 0);
        int[] due = {9, 3, 8, 7, 1, 2, 30, 4, 22};
        for (int what = 0; what < due.length; what++) {
            CHECK.due("told(" + what + ")", net.told(what), due[what]);
        }
        net.tell(0, -1);
        CHECK.due("told(8)", net.told(8), 5);
        for (int what : new int[] {-1, 9, 1000, Integer.MIN_VALUE, Integer.MAX_VALUE}) {
            CHECK.due("told(" + what + ")", net.told(what), -1002);
        }
    }

    private static void toldCharacter() {
        CHECK.due("told(4) of a ball", Nets.of(6, Nets.OCTAHEDRON).told(4), 2);
        CHECK.due("told(4) of a disc", Nets.of(9, Nets.FAN).told(4), 1);
        // Thirds without a common side: a post shared by all, and many sides.
        AngleNet bare = Nets.of(9, new int[][] {{0, 1, 2}, {0, 3, 4}, {0, 5, 6}, {1, 3, 5}, {2, 4, 6},
            {1, 4, 7}, {2, 3, 7}});
        CHECK.due("told(2) of bare thirds", bare.told(2), 21);
        CHECK.due("told(4) of bare thirds", bare.told(4), -6);
        CHECK.due("told(5) of bare thirds", bare.told(5), 7);
        AngleNet pairs = Nets.of(9, Nets.APART);
        int[] due = {9, 12, 36, 36, -15, 12};
        for (int what = 0; what < due.length; what++) {
            CHECK.due("told(" + what + ") of twelve thirds apart", pairs.told(what), due[what]);
        }
        CHECK.due("about(0, 1) of twelve thirds apart", pairs.about(0, 1), 8);
        // A strip whose two ends meet at post 0 alone.
        AngleNet strip = Nets.of(5, new int[][] {{0, 1, 2}, {2, 1, 3}, {2, 3, 4}, {4, 3, 0}});
        CHECK.due("told(4) of a strip", strip.told(4), 0);
        CHECK.due("told(5) of a strip", strip.told(5), 1);
    }
}
