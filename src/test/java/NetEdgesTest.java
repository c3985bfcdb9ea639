/** The edges that part 1 of the Terms and promises 1 to 9 name, sentence by sentence. */
public final class NetEdgesTest {
    private static final int NONE = AngleNet.NONE, UNKNOWN = AngleNet.UNKNOWN, OUTSIDE = AngleNet.OUTSIDE,
        STATE = AngleNet.STATE, FULL = AngleNet.FULL, NO = AngleNet.NO;
    private static final Check CHECK = new Check("NetEdgesTest");

    public static void main(String[] args) {
        fourPostsAtFirst();
        threeToNinePosts();
        postsZeroToTheLast();
        postsAnew();
        twelveThirdsAtMost();
        thirdsAreNumberedFromZero();
        threeUnlikePosts();
        noArrowInTwoThirds();
        threeArrows();
        cornersOfTheFirstAndTheLastThird();
        sideOfNoneOneOrTwo();
        freeOfRim();
        round();
        roundBySidesAtThePostAlone();
        character();
        pieces();
        toTurn();
        turnNamedEitherWay();
        turnNotWhereTheOtherSideIs();
        turnOfAFullNet();
        netWithoutThirds();
        aboutLowestAndHighest();
        aboutOfAPostWithoutThirds();
        toldLowestAndHighest();
        toldBelowZero();
        CHECK.end();
    }

    private static void fourPostsAtFirst() {
        AngleNet net = new AngleNet();
        CHECK.due("told(0) of a new net", net.told(0), 4);
        CHECK.due("about(3, 0) of a new net", net.about(3, 0), 0);
        CHECK.due("about(4, 0) of a new net", net.about(4, 0), UNKNOWN);
        CHECK.due("about(3, 4) of a new net", net.about(3, 4), NONE);
        CHECK.due("at(0) of a new net", net.at(0), UNKNOWN);
        CHECK.due("posts(4) of a new net", net.posts(4), 4);
        CHECK.due("third(1, 2, 3) of a new net", new AngleNet().third(1, 2, 3), 0);
        CHECK.due("third(2, 3, 4) of a new net", new AngleNet().third(2, 3, 4), UNKNOWN);
    }

    private static void threeToNinePosts() {
        AngleNet net = new AngleNet();
        CHECK.due("posts(2)", net.posts(2), OUTSIDE);
        CHECK.due("told(0) after posts(2)", net.told(0), 4);
        CHECK.due("posts(3)", net.posts(3), 4);
        CHECK.due("told(0) after posts(3)", net.told(0), 3);
        CHECK.due("posts(10)", net.posts(10), OUTSIDE);
        CHECK.due("told(0) after posts(10)", net.told(0), 3);
        CHECK.due("posts(9)", net.posts(9), 3);
        CHECK.due("told(0) after posts(9)", net.told(0), 9);
        CHECK.due("posts(3) after nine", net.posts(3), 9);
    }

    private static void postsZeroToTheLast() {
        for (int n = 3; n <= 9; n++) {
            AngleNet net = new AngleNet();
            net.posts(n);
            int last = n - 1;
            String of = " of " + n + " posts";
            CHECK.due("third() with the last" + of, net.third(last, 0, 1), 0);
            CHECK.due("third() with one behind it" + of, net.third(n, 1, 0), UNKNOWN);
            CHECK.due("side() with the last" + of, net.side(0, last), 1);
            CHECK.due("side() with one behind it" + of, net.side(0, n), UNKNOWN);
            CHECK.due("side() with one ahead of the first" + of, net.side(0, -1), UNKNOWN);
            CHECK.due("arrow() with the last" + of, net.arrow(last, 0), 0);
            CHECK.due("arrow() with one behind it" + of, net.arrow(n, 0), UNKNOWN);
            CHECK.due("arrow() with one ahead of the first" + of, net.arrow(-1, 0), UNKNOWN);
            CHECK.due("turn() with the last" + of, net.turn(last, 0), STATE);
            CHECK.due("turn() with one behind it" + of, net.turn(n, 0), UNKNOWN);
            CHECK.due("opposite() with the last" + of, net.opposite(last, 0), 178);
            CHECK.due("opposite() with one behind it" + of, net.opposite(n, 0), UNKNOWN);
            CHECK.due("about() of the last" + of, net.about(last, 0), 1);
            CHECK.due("about() of one behind it" + of, net.about(n, 0), UNKNOWN);
            CHECK.due("about() of one ahead of the first" + of, net.about(-1, 0), UNKNOWN);
            CHECK.due("tell() of the last" + of, net.tell(last, 7), NONE);
            CHECK.due("tell() of one behind it" + of, net.tell(n, 7), UNKNOWN);
            CHECK.due("tell() of one ahead of the first" + of, net.tell(-1, 7), UNKNOWN);
            CHECK.due("told(8)" + of, net.told(8), 7);
        }
    }

    /** Posts behind the last one must not keep what they had when they were there. */
    private static void postsAnew() {
        AngleNet net = Nets.of(9, Nets.APART);
        for (int p = 0; p < 9; p++) {
            net.tell(p, 100 + p);
        }
        net.straight(360);
        net.least(60);
        CHECK.due("posts(3) of a full net", net.posts(3), 9);
        CHECK.due("can() after posts(3)", net.can(), 1);
        CHECK.due("posts(9) after three", net.posts(9), 3);
        CHECK.same("all of posts anew", Nets.all(net), Nets.all(emptyNine()));
        CHECK.due("undo() after posts()", net.undo(), STATE);
        CHECK.due("redo() after posts()", net.redo(), STATE);
        postsAnewAfterNoGiving();
        AngleNet same = Nets.of(4, Nets.TETRAHEDRON);
        same.tell(2, 50);
        same.undo();
        CHECK.due("posts(4) of four posts", same.posts(4), 4);
        CHECK.due("told(1) after as many posts", same.told(1), 0);
        CHECK.due("redo() after as many posts", same.redo(), STATE);
        CHECK.due("undo() after as many posts", same.undo(), STATE);
    }

    private static void postsAnewAfterNoGiving() {
        for (int n = 3; n <= 9; n++) {
            AngleNet net = Nets.of(9, Nets.APART);
            for (int p = 0; p < 9; p++) {
                net.tell(p, p % 2 == 0 ? 0 : 4000);
            }
            CHECK.due("can() ahead of posts(" + n + ")", net.can(), 0);
            CHECK.due("posts(" + n + ")", net.posts(n), 9);
            CHECK.due("can() after posts(" + n + ")", net.can(), 1);
            CHECK.due("bar(1) after posts(" + n + ")", net.bar(1), 0);
            CHECK.due("best() after posts(" + n + ")", net.best(), 60);
            CHECK.due("third() after posts(" + n + ")", net.third(2, 1, 0), 0);
            CHECK.due("angle(2) after posts(" + n + ")", net.angle(2), 178);
            CHECK.due("can() with a third after posts(" + n + ")", net.can(), 1);
        }
    }

    private static AngleNet emptyNine() {
        AngleNet net = new AngleNet();
        net.posts(9);
        net.straight(360);
        net.least(60);
        return net;
    }

    private static void twelveThirdsAtMost() {
        AngleNet net = Nets.of(9, Nets.TWELVE);
        CHECK.due("told(1) of a full net", net.told(1), 12);
        CHECK.due("the 13th third", net.third(0, 2, 8), FULL);
        CHECK.due("told(1) after the 13th", net.told(1), 12);
        CHECK.due("arrow(0, 2) after the 13th", net.arrow(0, 2), NONE);
        CHECK.due("undo() of the 12th", net.undo(), 11);
        CHECK.due("redo() of the 12th", net.redo(), 0);
        CHECK.due("the 13th third after redo()", net.third(0, 2, 8), FULL);
        CHECK.due("undo() of the 12th", net.undo(), 11);
        CHECK.due("another 12th third", net.third(0, 2, 8), 11);
        CHECK.due("the 13th third behind it", net.third(0, 5, 7), FULL);
        CHECK.due("told(1)", net.told(1), 12);
        CHECK.due("posts(9)", net.posts(9), 9);
        CHECK.due("the first third of posts anew", net.third(0, 2, 8), 0);
    }

    private static void thirdsAreNumberedFromZero() {
        AngleNet net = new AngleNet();
        net.posts(9);
        for (int k = 0; k < 12; k++) {
            int[] t = Nets.APART[k];
            CHECK.due("the number of third " + k, net.third(t[0], t[1], t[2]), k);
            CHECK.due("told(1) after third " + k, net.told(1), k + 1);
            CHECK.due("arrow() of third " + k, net.arrow(t[2], t[0]), k);
        }
    }

    private static void threeUnlikePosts() {
        AngleNet net = new AngleNet();
        int goes = 0;
        for (int p = 0; p < 4; p++) {
            for (int q = 0; q < 4; q++) {
                for (int r = 0; r < 4; r++) {
                    boolean unlike = p != q && q != r && r != p;
                    int got = new AngleNet().third(p, q, r);
                    CHECK.due("third(" + p + ", " + q + ", " + r + ")", got, unlike ? 0 : UNKNOWN);
                    goes += got == 0 ? 1 : 0;
                }
            }
        }
        CHECK.due("thirds of four posts", goes, 24);
        CHECK.due("third(1, 1, 2)", net.third(1, 1, 2), UNKNOWN);
        CHECK.due("told(1)", net.told(1), 0);
    }

    private static void noArrowInTwoThirds() {
        // Each arrow of (0, 1, 2), as the first, the second and the third arrow of another one.
        int[][] no = {{0, 1, 3}, {3, 0, 1}, {1, 3, 0}, {1, 2, 3}, {3, 1, 2}, {2, 3, 1}, {2, 0, 3}, {3, 2, 0}, {0, 3, 2}};
        for (int[] t : no) {
            AngleNet net = Nets.of(4, new int[][] {{0, 1, 2}});
            CHECK.due("third(" + t[0] + ", " + t[1] + ", " + t[2] + ")", net.third(t[0], t[1], t[2]), NO);
            CHECK.due("told(1) after it", net.told(1), 1);
            CHECK.due("the same posts the other way round", net.third(t[2], t[1], t[0]), 1);
        }
        AngleNet twice = Nets.of(3, Nets.DOUBLE);
        CHECK.due("told(1), the same three posts both ways", twice.told(1), 2);
        CHECK.due("third(2, 0, 1) with both there", twice.third(2, 0, 1), NO);
        CHECK.due("third(1, 0, 2) with both there", twice.third(1, 0, 2), NO);
        twice.undo();
        CHECK.due("third(1, 0, 2) after undo()", twice.third(1, 0, 2), 1);
    }

    private static void threeArrows() {
        AngleNet net = Nets.of(9, new int[][] {{8, 0, 4}});
        for (int p = 0; p < 9; p++) {
            for (int q = 0; q < 9; q++) {
                boolean there = p == 8 && q == 0 || p == 0 && q == 4 || p == 4 && q == 8;
                int due = p == q ? UNKNOWN : there ? 0 : NONE;
                CHECK.due("arrow(" + p + ", " + q + ")", net.arrow(p, q), due);
            }
        }
    }

    private static void cornersOfTheFirstAndTheLastThird() {
        AngleNet net = Nets.of(9, Nets.TWELVE);
        int[] due = {0, 1, 6};
        for (int c = 0; c < 3; c++) {
            CHECK.due("at(" + c + ")", net.at(c), due[c]);
        }
        due = new int[] {0, 5, 7};
        for (int c = 33; c < 36; c++) {
            CHECK.due("at(" + c + ")", net.at(c), due[c - 33]);
            CHECK.due("angle(" + c + ")", net.angle(c), c == 35 ? 178 : 1);
        }
        CHECK.due("at(36) of a full net", net.at(36), UNKNOWN);
        CHECK.due("angle(36) of a full net", net.angle(36), UNKNOWN);
        CHECK.due("at(-1)", net.at(-1), UNKNOWN);
        CHECK.due("angle(-1)", net.angle(-1), UNKNOWN);
        net.undo();
        CHECK.due("at(32) with eleven thirds", net.at(32), 7);
        CHECK.due("at(33) with eleven thirds", net.at(33), UNKNOWN);
        CHECK.due("angle(32) with eleven thirds", net.angle(32), 178);
        CHECK.due("angle(33) with eleven thirds", net.angle(33), UNKNOWN);
    }

    private static void sideOfNoneOneOrTwo() {
        AngleNet net = new AngleNet();
        for (int thirds = 0; thirds <= 2; thirds++) {
            CHECK.due("side(1, 3) of " + thirds, net.side(1, 3), thirds);
            CHECK.due("side(3, 1) of " + thirds, net.side(3, 1), thirds);
            CHECK.due("told(3) with " + thirds, net.told(3), thirds == 0 ? 0 : thirds + 2);
            net.third(thirds == 0 ? 1 : 3, thirds == 0 ? 3 : 1, thirds == 0 ? 0 : 2);
        }
        CHECK.due("told(2)", net.told(2), 5);
        CHECK.due("side(0, 2), between posts with thirds", net.side(0, 2), 0);
        CHECK.due("side(1, 1)", net.side(1, 1), UNKNOWN);
    }

    private static void freeOfRim() {
        AngleNet net = Nets.of(6, Nets.FAN);
        CHECK.due("about(0, 2), no side at the rim", net.about(0, 2), 1);
        CHECK.due("about(1, 2), two sides at the rim", net.about(1, 2), 0);
        CHECK.due("about(5, 2), no thirds", net.about(5, 2), 0);
        net.undo();
        CHECK.due("about(0, 2), the round is open", net.about(0, 2), 0);
        net.redo();
        CHECK.due("about(0, 2), the round is closed", net.about(0, 2), 1);
        net.third(0, 5, 5);
        net.third(5, 1, 0);
        CHECK.due("about(0, 2) after refused thirds", net.about(0, 2), 1);
        AngleNet twice = Nets.of(3, Nets.DOUBLE);
        CHECK.due("about(0, 2) of two thirds of the same posts", twice.about(0, 2), 1);
        CHECK.due("told(3) of two thirds of the same posts", twice.told(3), 0);
        AngleNet one = Nets.of(3, new int[][] {{0, 1, 2}});
        CHECK.due("about(0, 2) of one third", one.about(0, 2), 0);
    }

    private static void round() {
        AngleNet net = new AngleNet();
        net.posts(5);
        CHECK.due("about(0, 3) without thirds", net.about(0, 3), 0);
        net.third(0, 1, 2);
        CHECK.due("about(0, 3) of one third", net.about(0, 3), 1);
        net.third(0, 3, 4);
        CHECK.due("about(0, 3) of two thirds apart", net.about(0, 3), 0);
        CHECK.due("about(3, 3) of one third", net.about(3, 3), 1);
        net.third(0, 2, 3);
        CHECK.due("about(0, 3) of three thirds in a chain", net.about(0, 3), 1);
        net.third(0, 4, 1);
        CHECK.due("about(0, 3) of a closed round", net.about(0, 3), 1);
        AngleNet twice = Nets.of(3, Nets.DOUBLE);
        CHECK.due("about(2, 3) of two thirds of the same posts", twice.about(2, 3), 1);
        // Eight thirds at post 0, the most there can be: a closed round, then open by one.
        AngleNet wheel = Nets.of(9, Nets.WHEEL);
        CHECK.due("about(0, 0) of a wheel", wheel.about(0, 0), 8);
        CHECK.due("about(0, 1) of a wheel", wheel.about(0, 1), 8);
        CHECK.due("about(0, 3) of a wheel", wheel.about(0, 3), 1);
        CHECK.due("about(0, 2) of a wheel", wheel.about(0, 2), 1);
        wheel.undo();
        CHECK.due("about(0, 3) of an open wheel", wheel.about(0, 3), 1);
        CHECK.due("about(0, 2) of an open wheel", wheel.about(0, 2), 0);
    }

    private static void roundBySidesAtThePostAlone() {
        // The two thirds at post 0 hang together by the sides 1, 2, then 1, 3, then 3, 4.
        AngleNet net = Nets.of(5, new int[][] {{0, 1, 2}, {0, 3, 4}, {2, 1, 3}, {4, 3, 1}});
        CHECK.due("told(5), all hang together", net.told(5), 1);
        CHECK.due("about(0, 3), not by sides at it", net.about(0, 3), 0);
        CHECK.due("about(1, 3), three in a chain", net.about(1, 3), 1);
        CHECK.due("about(3, 3), three in a chain", net.about(3, 3), 1);
        AngleNet two = Nets.of(4, new int[][] {{0, 1, 2}, {1, 0, 3}});
        CHECK.due("about(0, 3), by the side 0, 1", two.about(0, 3), 1);
        CHECK.due("about(1, 3), by the side 0, 1", two.about(1, 3), 1);
        CHECK.due("about(2, 3), one third", two.about(2, 3), 1);
    }

    private static void character() {
        AngleNet net = new AngleNet();
        CHECK.due("told(4) without thirds", net.told(4), 0);
        net.third(0, 1, 2);
        CHECK.due("told(4) of one third", net.told(4), 1);
        net.third(0, 2, 1);
        CHECK.due("told(4) of two thirds of the same posts", net.told(4), 2);
        CHECK.due("told(4) of a round", Nets.of(9, Nets.WHEEL).told(4), 1);
        CHECK.due("told(4) of a full ball", Nets.of(9, Nets.TWELVE).told(4), 2);
        CHECK.due("told(4), the lowest: nine posts, 36 sides, twelve thirds", Nets.of(9, Nets.APART).told(4), -15);
        // Posts that only have a sum told are not counted.
        net.tell(3, 0);
        CHECK.due("told(4), a post with a sum and no thirds", net.told(4), 2);
    }

    private static void pieces() {
        AngleNet net = new AngleNet();
        net.posts(9);
        CHECK.due("told(5) without thirds", net.told(5), 0);
        for (int k = 0; k < 12; k++) {
            int[] t = Nets.APART[k];
            net.third(t[0], t[1], t[2]);
            CHECK.due("told(5) of thirds without a common side", net.told(5), k + 1);
        }
        CHECK.due("told(5) of a full ball", Nets.of(9, Nets.TWELVE).told(5), 1);
        // The last third is what joins the first one and the second one.
        AngleNet joined = Nets.of(5, new int[][] {{0, 1, 2}, {0, 3, 4}});
        CHECK.due("told(5) of two apart", joined.told(5), 2);
        joined.third(0, 2, 3);
        CHECK.due("told(5) after a third joins them", joined.told(5), 1);
        joined.undo();
        CHECK.due("told(5) after undo()", joined.told(5), 2);
    }

    private static void toTurn() {
        AngleNet net = Nets.of(4, new int[][] {{0, 1, 2}, {1, 0, 3}});
        CHECK.due("turn(0, 1)", net.turn(0, 1), 1);
        CHECK.same("corners: (p, s, r), (s, q, r)", Nets.corners(net), new int[] {0, 3, 2, 3, 1, 2});
        CHECK.due("told(1) after turn()", net.told(1), 2);
        CHECK.due("turn(0, 1), which is no side any more", net.turn(0, 1), UNKNOWN);
        CHECK.due("side(2, 3)", net.side(2, 3), 2);
        // Now p, q are 3, 2 with (0, 3, 2) and (3, 1, 2): r is 0 and s is 1.
        CHECK.due("turn(3, 2)", net.turn(3, 2), 1);
        CHECK.same("corners after the second turn", Nets.corners(net), new int[] {3, 1, 0, 1, 2, 0});
        CHECK.due("turn(0, 2): it is at the rim", net.turn(0, 2), STATE);
    }

    private static void turnNamedEitherWay() {
        AngleNet net = Nets.of(4, new int[][] {{0, 1, 2}, {1, 0, 3}});
        CHECK.due("turn(1, 0)", net.turn(1, 0), 1);
        // Here p, q are 1, 0: (1, 0, 3) is the first third, r is 3, and s is 2.
        CHECK.same("corners", Nets.corners(net), new int[] {2, 0, 3, 1, 2, 3});
        CHECK.due("undo()", net.undo(), 2);
        CHECK.same("corners after undo()", Nets.corners(net), new int[] {0, 1, 2, 1, 0, 3});
    }

    private static void turnNotWhereTheOtherSideIs() {
        int[][][] more = {{{2, 3, 4}}, {{3, 2, 4}}, {{2, 3, 4}, {3, 2, 4}}, {{2, 4, 0}, {4, 3, 0}}};
        int[] due = {NO, NO, NO, 1};
        for (int i = 0; i < more.length; i++) {
            AngleNet net = Nets.of(5, new int[][] {{0, 1, 2}, {1, 0, 3}});
            for (int[] t : more[i]) {
                CHECK.holds("a third more", net.third(t[0], t[1], t[2]) >= 2);
            }
            CHECK.due("turn(0, 1) of net " + i, net.turn(0, 1), due[i]);
            CHECK.due("side(0, 1) after it", net.side(0, 1), due[i] == 1 ? 0 : 2);
        }
        AngleNet twice = Nets.of(3, Nets.DOUBLE);
        CHECK.due("turn(0, 1), r and s are one", twice.turn(0, 1), NO);
        CHECK.due("turn(2, 1), r and s are one", twice.turn(2, 1), NO);
        CHECK.same("corners after it", Nets.corners(twice), new int[] {0, 1, 2, 0, 2, 1});
    }

    private static void turnOfAFullNet() {
        AngleNet net = Nets.of(9, Nets.TWELVE);
        CHECK.due("turn(5, 0) of a full net", net.turn(5, 0), 1);
        CHECK.due("told(1)", net.told(1), 12);
        CHECK.due("told(3)", net.told(3), 0);
        int[] due = {5, 7, 6};
        for (int c = 15; c < 18; c++) {
            CHECK.due("at(" + c + ")", net.at(c), due[c - 15]);
        }
        due = new int[] {7, 0, 6};
        for (int c = 33; c < 36; c++) {
            CHECK.due("at(" + c + ")", net.at(c), due[c - 33]);
        }
        CHECK.due("turn(0, 1): a side 6, 7 is there", net.turn(0, 1), NO);
        CHECK.due("undo()", net.undo(), 12);
        CHECK.due("turn(0, 1)", net.turn(0, 1), 1);
    }

    private static void netWithoutThirds() {
        for (int n = 3; n <= 9; n++) {
            AngleNet net = new AngleNet();
            net.posts(n);
            int[] due = {n, 0, 0, 0, 0, 0, 180, 1, 0};
            for (int what = 0; what < due.length; what++) {
                CHECK.due("told(" + what + ") of " + n + " posts without thirds", net.told(what), due[what]);
            }
            CHECK.due("at(0) without thirds", net.at(0), UNKNOWN);
            CHECK.due("angle(0) without thirds", net.angle(0), UNKNOWN);
            CHECK.due("side(0, 1) without thirds", net.side(0, 1), 0);
            CHECK.due("arrow(0, 1) without thirds", net.arrow(0, 1), NONE);
            CHECK.due("turn(0, 1) without thirds", net.turn(0, 1), UNKNOWN);
            CHECK.due("opposite(0, 1) without thirds", net.opposite(0, 1), UNKNOWN);
        }
    }

    private static void aboutLowestAndHighest() {
        AngleNet net = Nets.of(3, new int[][] {{0, 1, 2}});
        net.tell(2, 40);
        int[] due = {1, 2, 0, 1, 40, 40};
        for (int what = 0; what < due.length; what++) {
            CHECK.due("about(2, " + what + ")", net.about(2, what), due[what]);
        }
        CHECK.due("about(2, -1)", net.about(2, -1), OUTSIDE);
        CHECK.due("about(2, 6)", net.about(2, 6), OUTSIDE);
        CHECK.due("about(3, 6)", net.about(3, 6), UNKNOWN);
    }

    private static void aboutOfAPostWithoutThirds() {
        AngleNet net = Nets.of(4, new int[][] {{0, 1, 2}});
        int[] due = {0, 0, 0, 0, NONE, 0};
        for (int what = 0; what < due.length; what++) {
            CHECK.due("about(3, " + what + ")", net.about(3, what), due[what]);
        }
        net.tell(3, 0);
        CHECK.due("about(3, 4) with sum 0", net.about(3, 4), 0);
        CHECK.due("about(3, 5) with sum 0", net.about(3, 5), 0);
        net.tell(3, 1);
        CHECK.due("about(3, 5) with sum 1", net.about(3, 5), NONE);
        CHECK.due("about(0, 5) without a giving", net.about(0, 5), NONE);
    }

    private static void toldLowestAndHighest() {
        AngleNet net = new AngleNet();
        CHECK.due("told(0)", net.told(0), 4);
        CHECK.due("told(-1)", net.told(-1), -1002);
        CHECK.due("told(8)", net.told(8), 0);
        CHECK.due("told(9)", net.told(9), -1002);
        net.posts(9);
        for (int p = 0; p < 9; p++) {
            net.tell(p, 4000);
        }
        CHECK.due("told(8), nine sums of 4000", net.told(8), 36000);
        net.tell(8, -1);
        CHECK.due("told(8), one not told any more", net.told(8), 32000);
        net.tell(7, 0);
        CHECK.due("told(8), one that is 0", net.told(8), 28000);
    }

    /** A character that is a number of a refused answer: told() has another one for a wrong what. */
    private static void toldBelowZero() {
        int[] due = {1, 2, 3, 1, -1, -3, -5, -7, -9, -11, -13, -15};
        AngleNet net = new AngleNet();
        net.posts(9);
        for (int k = 0; k < due.length; k++) {
            int[] t = Nets.APART[k];
            net.third(t[0], t[1], t[2]);
            CHECK.due("told(4) of " + (k + 1) + " thirds apart", net.told(4), due[k]);
        }
        AngleNet eight = Nets.of(8, new int[][] {{0, 1, 2}, {0, 3, 4}, {0, 5, 6}, {1, 3, 5}, {2, 4, 7}});
        CHECK.due("told(4), as the number OUTSIDE", eight.told(4), OUTSIDE);
        CHECK.due("told(9) beside it", eight.told(9), -1002);
    }
}
