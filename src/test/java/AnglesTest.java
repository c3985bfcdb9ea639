/** Promises 10 to 18: straight, least, tell, can, angle, best, bar, opposite, fit. */
public final class AnglesTest {
    private static final int NONE = AngleNet.NONE, UNKNOWN = AngleNet.UNKNOWN, OUTSIDE = AngleNet.OUTSIDE,
        STATE = AngleNet.STATE;
    private static final Check CHECK = new Check("AnglesTest");

    public static void main(String[] args) {
        straight();
        least();
        tell();
        tellRefused();
        can();
        angle();
        angleAfterChanges();
        best();
        barOfThirds();
        barWantsTooMuch();
        barWantsTooLittle();
        barOfSeveral();
        opposite();
        fit();
        CHECK.end();
    }

    private static void straight() {
        AngleNet net = Nets.of(4, Nets.TETRAHEDRON);
        int[] before = Nets.all(net);
        for (int n : new int[] {5, 361, 0, -6, Integer.MIN_VALUE, Integer.MAX_VALUE}) {
            CHECK.due("straight(" + n + ")", net.straight(n), OUTSIDE);
        }
        CHECK.same("all after straight() was refused", Nets.all(net), before);
        CHECK.due("straight(6)", net.straight(6), 180);
        CHECK.due("straight(360)", net.straight(360), 6);
        CHECK.due("straight(360)", net.straight(360), 360);
        CHECK.due("told(6)", net.told(6), 360);
        net.least(20);
        CHECK.due("straight(59), 3 m above it", net.straight(59), OUTSIDE);
        CHECK.due("straight(60), 3 m being as much", net.straight(60), 360);
        CHECK.same("the row", Nets.row(net), new int[] {20, 20, 20, 20, 20, 20, 20, 20, 20, 20, 20, 20});
        CHECK.due("undo(): no act", net.undo(), 3);
        CHECK.due("told(6) after undo()", net.told(6), 60);
        CHECK.due("straight(61)", net.straight(61), 60);
        CHECK.due("redo(): straight() is no act", net.redo(), 0);
        CHECK.due("told(6) after redo()", net.told(6), 61);
    }

    private static void least() {
        AngleNet net = Nets.of(4, Nets.TETRAHEDRON);
        int[] before = Nets.all(net);
        for (int m : new int[] {0, 61, -1, Integer.MIN_VALUE, Integer.MAX_VALUE, 715827883, 1431655766}) {
            CHECK.due("least(" + m + ")", net.least(m), OUTSIDE);
        }
        CHECK.same("all after least() was refused", Nets.all(net), before);
        CHECK.due("least(60)", net.least(60), 1);
        CHECK.due("least(2)", net.least(2), 60);
        CHECK.due("straight(100)", net.straight(100), 180);
        CHECK.due("least(34), 3 m above N", net.least(34), OUTSIDE);
        CHECK.due("told(7)", net.told(7), 2);
        CHECK.due("least(33)", net.least(33), 2);
        CHECK.due("told(7)", net.told(7), 33);
        CHECK.due("angle(2)", net.angle(2), 34);
        net.undo();
        CHECK.due("least(1)", net.least(1), 33);
        CHECK.due("redo(): least() is no act", net.redo(), 0);
        CHECK.due("told(7)", net.told(7), 1);
        net.straight(360);
        CHECK.due("least(61), 3 m below N", net.least(61), OUTSIDE);
    }

    private static void tell() {
        AngleNet net = new AngleNet();
        CHECK.due("tell(1, 0)", net.tell(1, 0), NONE);
        CHECK.due("tell(1, 4000)", net.tell(1, 4000), 0);
        CHECK.due("about(1, 4)", net.about(1, 4), 4000);
        CHECK.due("tell(1, -1)", net.tell(1, -1), 4000);
        CHECK.due("about(1, 4)", net.about(1, 4), NONE);
        CHECK.due("tell(1, -1)", net.tell(1, -1), NONE);
        CHECK.due("tell(1, 12)", net.tell(1, 12), NONE);
        CHECK.due("tell(1, 12)", net.tell(1, 12), 12);
        CHECK.due("undo(): tells that change nothing are acts too", net.undo(), 5);
        CHECK.due("about(1, 4)", net.about(1, 4), 12);
        CHECK.due("undo()", net.undo(), 4);
        CHECK.due("about(1, 4)", net.about(1, 4), NONE);
    }

    private static void tellRefused() {
        AngleNet net = Nets.of(4, Nets.TETRAHEDRON);
        net.tell(0, 9);
        net.undo();
        int[] before = Nets.all(net);
        int[][] refused = {{4, 0, UNKNOWN}, {-1, 0, UNKNOWN}, {4, 4001, UNKNOWN}, {Integer.MAX_VALUE, -9, UNKNOWN},
            {0, -2, OUTSIDE}, {0, 4001, OUTSIDE}, {3, NONE, OUTSIDE}, {3, Integer.MAX_VALUE, OUTSIDE}};
        for (int[] t : refused) {
            CHECK.due("tell(" + t[0] + ", " + t[1] + ")", net.tell(t[0], t[1]), t[2]);
        }
        CHECK.same("all after tell() was refused", Nets.all(net), before);
        CHECK.due("redo() after tell() was refused", net.redo(), 0);
        CHECK.due("about(0, 4)", net.about(0, 4), 9);
    }

    private static void can() {
        AngleNet net = new AngleNet();
        net.tell(0, 0);
        net.tell(3, 0);
        CHECK.due("can() without thirds, sums 0", net.can(), 1);
        net.tell(3, 1);
        CHECK.due("can() without thirds, a sum 1", net.can(), 0);
        net.tell(3, 0);
        net.third(0, 1, 2);
        CHECK.due("can() with a corner at a post of sum 0", net.can(), 0);
        int[][] due = {{1, 1}, {178, 1}, {179, 0}, {4000, 0}};
        for (int[] d : due) {
            net.tell(0, d[0]);
            CHECK.due("can() with sum " + d[0], net.can(), d[1]);
        }
        net.tell(0, 60);
        net.tell(1, 60);
        CHECK.due("can()", net.can(), 1);
        net.tell(2, 61);
        CHECK.due("can() with sums too high together", net.can(), 0);
        net.tell(2, 59);
        CHECK.due("can() with sums too low together", net.can(), 0);
        net.tell(2, 60);
        CHECK.due("can() with sums just as due", net.can(), 1);
        net.straight(181);
        CHECK.due("can() after straight()", net.can(), 0);
        net.straight(180);
        net.least(60);
        CHECK.due("can() after least()", net.can(), 1);
        net.tell(0, -1);
        net.tell(1, 59);
        CHECK.due("can() with a sum below the least", net.can(), 0);
    }

    private static void angle() {
        AngleNet net = new AngleNet();
        CHECK.due("angle(0) without thirds", net.angle(0), UNKNOWN);
        net.third(0, 1, 2);
        CHECK.same("a row without sums", Nets.row(net), new int[] {1, 1, 178});
        for (int corner : new int[] {-1, 3, 36, Integer.MIN_VALUE, Integer.MAX_VALUE}) {
            CHECK.due("angle(" + corner + ")", net.angle(corner), UNKNOWN);
        }
        net.tell(2, 70);
        CHECK.same("the row with one sum", Nets.row(net), new int[] {1, 109, 70});
        net.tell(0, 30);
        CHECK.same("the row with two sums", Nets.row(net), new int[] {30, 80, 70});
        net.tell(1, 81);
        CHECK.same("no row", Nets.row(net), new int[] {NONE, NONE, NONE});
        CHECK.due("angle(3) without a giving", net.angle(3), UNKNOWN);
        // Corner 0 may be 1 only if what post 0 is due is given by the later thirds.
        AngleNet fan = Nets.of(5, Nets.FAN);
        fan.straight(12);
        fan.tell(0, 24);
        CHECK.same("the row of a fan", Nets.row(fan), new int[] {1, 1, 10, 3, 1, 8, 10, 1, 1, 10, 1, 1});
        fan.tell(2, 2);
        CHECK.same("the row of a fan, post 2 least", Nets.row(fan),
            new int[] {1, 10, 1, 3, 1, 8, 10, 1, 1, 10, 1, 1});
        fan.least(3);
        CHECK.due("can()", fan.can(), 0);
        fan.tell(2, 6);
        CHECK.same("the row of a fan, with least 3", Nets.row(fan),
            new int[] {6, 3, 3, 6, 3, 3, 6, 3, 3, 6, 3, 3});
    }

    private static void angleAfterChanges() {
        AngleNet net = Nets.of(4, new int[][] {{0, 1, 2}, {2, 1, 3}});
        CHECK.due("angle(2)", net.angle(2), 178);
        net.straight(100);
        CHECK.due("angle(2) after straight()", net.angle(2), 98);
        net.least(5);
        CHECK.due("angle(2) after least()", net.angle(2), 90);
        net.tell(2, 20);
        CHECK.same("the row after tell()", Nets.row(net), new int[] {5, 80, 15, 5, 5, 90});
        net.undo();
        CHECK.due("angle(2) after undo()", net.angle(2), 90);
        net.redo();
        CHECK.due("angle(2) after redo()", net.angle(2), 15);
        net.best();
        CHECK.same("the row after best()", Nets.row(net), new int[] {5, 80, 15, 5, 5, 90});
        net.turn(1, 2);
        CHECK.same("corners after turn()", Nets.corners(net), new int[] {1, 3, 0, 3, 2, 0});
        CHECK.same("the row after turn()", Nets.row(net), new int[] {5, 5, 90, 5, 20, 75});
        net.third(0, 2, 1);
        CHECK.same("the row after third()", Nets.row(net), new int[] {5, 5, 90, 5, 5, 90, 5, 15, 80});
        net.posts(4);
        CHECK.due("angle(0) after posts()", net.angle(0), UNKNOWN);
    }

    private static void best() {
        AngleNet net = new AngleNet();
        int[][] due = {{360, 60}, {180, 60}, {179, 59}, {178, 59}, {177, 59}, {8, 2}, {6, 2}};
        for (int[] d : due) {
            net.straight(d[0]);
            CHECK.due("best() of N " + d[0], net.best(), d[1]);
        }
        net.straight(180);
        net.tell(0, 1);
        CHECK.due("best() without thirds, with a sum", net.best(), NONE);
        net.third(0, 1, 2);
        CHECK.due("best() with sum 1", net.best(), 1);
        net.tell(0, 0);
        CHECK.due("best() with sum 0", net.best(), NONE);
        net.tell(0, 47);
        net.least(50);
        CHECK.due("best() below LEAST", net.best(), 47);
        CHECK.due("told(7)", net.told(7), 50);
        CHECK.due("can()", net.can(), 0);
        net.least(1);
        net.tell(0, 80);
        CHECK.due("best() with sum 80", net.best(), 50);
        net.tell(1, 99);
        CHECK.due("best() with two sums", net.best(), 1);
        net.tell(1, 100);
        CHECK.due("best() with sums too high", net.best(), NONE);
        AngleNet octahedron = Nets.of(6, Nets.OCTAHEDRON);
        octahedron.tell(0, 239);
        CHECK.due("best() of four corners with 239", octahedron.best(), 59);
        octahedron.tell(0, 243);
        CHECK.due("best() of four corners with 243", octahedron.best(), 59);
    }

    private static void barOfThirds() {
        AngleNet net = Nets.of(5, Nets.FAN);
        net.straight(12);
        net.least(2);
        net.tell(0, 10);
        net.tell(1, 4);
        net.tell(2, 5);
        // Third 0 has at most 10 - 6, 4 - 2 and 5 - 2 of posts 0, 1, 2: 9, and wants 12.
        CHECK.due("bar(0)", net.bar(0), 1);
        net.tell(2, 8);
        CHECK.due("bar(0), just enough", net.bar(0), 0);
        net.tell(2, 7);
        CHECK.due("bar(0), one too few", net.bar(0), 1);
        net.tell(1, -1);
        CHECK.due("bar(0), a post not told", net.bar(0), 0);
        CHECK.due("can()", net.can(), 1);
        net.tell(3, 4);
        CHECK.due("bar(0), the second third", net.bar(0), 2);
        net.tell(1, 4);
        CHECK.due("bar(0), of several the least", net.bar(0), 1);
        barOfThirdsBesideOthers();
        CHECK.due("bar(-1)", net.bar(-1), OUTSIDE);
        CHECK.due("bar(3)", net.bar(3), OUTSIDE);
        CHECK.due("bar(MIN)", net.bar(Integer.MIN_VALUE), OUTSIDE);
    }

    /** Post 5 bars every giving by itself, so that bar(0) is looked at where no third is barred. */
    private static void barOfThirdsBesideOthers() {
        AngleNet net = Nets.of(6, Nets.FAN);
        net.straight(12);
        net.least(2);
        net.tell(5, 1);
        net.tell(0, 10);
        net.tell(1, 4);
        net.tell(2, 8);
        CHECK.due("bar(0) beside another bar, just enough", net.bar(0), 0);
        CHECK.due("bar(1) of post 5", net.bar(1), 32);
        net.tell(2, 7);
        CHECK.due("bar(0) beside another bar, one too few", net.bar(0), 1);
        net.tell(0, 9);
        net.tell(2, 9);
        net.tell(3, 9);
        // Third 0 has 3, 2 and 7 at most, third 1 has 3, 7 and 7; both have 9 + 4 + 9 + 9 - 8.
        CHECK.due("bar(0), each has enough, not both", net.bar(0), 3);
        net.tell(3, 10);
        CHECK.due("bar(0), both have just enough", net.bar(0), 0);
        net.tell(4, 0);
        CHECK.due("bar(0), thirds 2 and 3 at a post with less than its least", net.bar(0), 4);
    }

    private static void barWantsTooMuch() {
        AngleNet net = Nets.of(5, Nets.FAN);
        net.straight(12);
        net.least(2);
        net.tell(0, 32);
        CHECK.due("bar(1), just what four thirds can give", net.bar(1), 0);
        net.tell(0, 33);
        CHECK.due("bar(1), one too much", net.bar(1), 1);
        net.tell(0, -1);
        // Posts 1 and 2: third 0 gives both 10, thirds 1 and 3 give 8 each.
        net.tell(1, 13);
        net.tell(2, 13);
        CHECK.due("bar(1), just what three thirds can give", net.bar(1), 0);
        net.tell(2, 14);
        CHECK.due("bar(1), two posts", net.bar(1), 6);
        net.tell(2, 17);
        CHECK.due("bar(1), one post of the two", net.bar(1), 4);
        net.tell(2, -1);
        net.tell(1, -1);
        // All three corners of third 0 there: N, and thirds 1, 3 with two there: 10, third 2: 8.
        net.tell(0, 13);
        net.tell(1, 13);
        net.tell(2, 14);
        CHECK.due("bar(1), three posts", net.bar(1), 6);
        net.tell(2, 13);
        CHECK.due("bar(1), three posts, just enough", net.bar(1), 0);
        net.tell(0, 15);
        CHECK.due("bar(1), three posts want 41 of 40", net.bar(1), 7);
    }

    private static void barWantsTooLittle() {
        AngleNet net = Nets.of(5, Nets.FAN);
        net.straight(12);
        net.least(2);
        net.tell(0, 8);
        CHECK.due("bar(2), just the least", net.bar(2), 0);
        net.tell(0, 7);
        CHECK.due("bar(2), below the least", net.bar(2), 1);
        net.tell(0, 10);
        net.tell(1, 4);
        net.tell(2, 7);
        // Third 0 must have 12, thirds 1 and 3 four each, third 2 two: 22, and the sums are 21.
        CHECK.due("bar(2), all corners of a third there", net.bar(2), 7);
        CHECK.due("bar(1)", net.bar(1), 0);
        net.tell(2, 8);
        CHECK.due("bar(2), just enough", net.bar(2), 0);
    }

    private static void barOfSeveral() {
        AngleNet net = new AngleNet();
        net.posts(9);
        net.tell(8, 3);
        net.tell(5, 2);
        net.tell(6, 1);
        net.tell(2, 0);
        CHECK.due("bar(1) without thirds", net.bar(1), 32);
        CHECK.due("bar(0) without thirds", net.bar(0), 0);
        CHECK.due("bar(2) without thirds", net.bar(2), 0);
        // The fewest come before the least: posts 0, 1, 2 are too low together, post 8 by itself.
        net.posts(9);
        net.third(0, 1, 2);
        net.third(3, 4, 8);
        net.tell(0, 50);
        net.tell(1, 50);
        net.tell(2, 50);
        CHECK.due("bar(2) of three posts", net.bar(2), 7);
        CHECK.due("bar(0) of one third", net.bar(0), 1);
        net.tell(8, 0);
        CHECK.due("bar(2), the fewest", net.bar(2), 256);
        net.tell(8, 179);
        CHECK.due("bar(2)", net.bar(2), 7);
        CHECK.due("bar(1)", net.bar(1), 256);
        AngleNet full = new AngleNet();
        full.posts(9);
        for (int k = 0; k < 12; k++) {
            full.third(k < 6 ? k : (k + 1) % 6, k < 6 ? (k + 1) % 6 : k - 6, k < 6 ? 6 : 7);
        }
        for (int p = 0; p < 8; p++) {
            full.tell(p, 270 - (p == 7 ? 1 : 0));
        }
        CHECK.due("told(1)", full.told(1), 12);
        CHECK.due("bar(0) of all twelve", full.bar(0), 4095);
        CHECK.due("bar(2) of all eight", full.bar(2), 255);
        CHECK.due("bar(1)", full.bar(1), 0);
    }

    private static void opposite() {
        AngleNet net = Nets.of(5, new int[][] {{0, 1, 2}, {3, 1, 0}});
        net.tell(2, 70);
        net.tell(3, 50);
        CHECK.same("the row", Nets.row(net), new int[] {1, 109, 70, 50, 1, 129});
        int[][] due = {{0, 1, 120}, {1, 0, 120}, {1, 2, 1}, {2, 1, 1}, {2, 0, 109}, {3, 1, 129}, {0, 3, 1},
            {2, 3, UNKNOWN}, {0, 0, UNKNOWN}, {4, 0, UNKNOWN}, {5, 0, UNKNOWN}, {0, 5, UNKNOWN}, {-1, 1, UNKNOWN},
            {1, Integer.MIN_VALUE, UNKNOWN}};
        for (int[] d : due) {
            CHECK.due("opposite(" + d[0] + ", " + d[1] + ")", net.opposite(d[0], d[1]), d[2]);
        }
        net.tell(4, 1);
        CHECK.due("opposite(0, 1) without a giving", net.opposite(0, 1), NONE);
        CHECK.due("opposite(2, 3) without a giving", net.opposite(2, 3), UNKNOWN);
    }

    private static void fit() {
        AngleNet net = Nets.of(4, new int[][] {{0, 1, 2}, {1, 0, 3}});
        CHECK.due("opposite(0, 1)", net.opposite(0, 1), 356);
        CHECK.due("fit(), above N", net.fit(), 0);
        net.tell(2, 80);
        net.tell(3, 100);
        CHECK.due("opposite(0, 1)", net.opposite(0, 1), 180);
        CHECK.due("fit(), just N", net.fit(), 1);
        net.tell(3, 101);
        CHECK.due("fit(), one above N", net.fit(), 0);
        net.tell(3, 179);
        CHECK.due("fit() without a giving", net.fit(), NONE);
        CHECK.due("fit() of a ball", Nets.of(4, Nets.TETRAHEDRON).fit(), 6);
        AngleNet one = Nets.of(4, new int[][] {{0, 1, 2}});
        CHECK.due("fit() with sides at the rim alone", one.fit(), 0);
        CHECK.due("undo()", one.undo(), 0);
        CHECK.due("undo()", one.undo(), STATE);
    }
}
