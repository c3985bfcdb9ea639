/** The edges that part 2 of the Terms and promises 10 to 18 name, sentence by sentence. */
public final class AngleEdgesTest {
    private static final int NONE = AngleNet.NONE, UNKNOWN = AngleNet.UNKNOWN, OUTSIDE = AngleNet.OUTSIDE;
    private static final int[][] ONE = {{0, 1, 2}};
    private static final Check CHECK = new Check("AngleEdgesTest");

    public static void main(String[] args) {
        straightFromSixTo360();
        leastFromOneTo60();
        threeTimesLeastIsNeverAboveStraight();
        straightAndLeastAtFirst();
        sumFromZeroTo4000();
        sumZeroIsTold();
        sumThatIsNotToldAnyMore();
        givingWithoutThirds();
        leastOrMoreForEachCorner();
        straightForEachThird();
        sumForEachPost();
        onlyOneGiving();
        theMostThatAPostCanHave();
        theFewestThatAPostCanHave();
        rowIsLeastAtTheFirstDifference();
        rowOfAFullNet();
        bestUpTo60AndAThirdOfStraight();
        bestOfOneAndNone();
        bestLeavesLeast();
        noBarsWhereThereIsAGiving();
        barOutside();
        CHECK.end();
    }

    private static AngleNet one(int... sums) {
        AngleNet net = Nets.of(4, ONE);
        Nets.tell(net, sums);
        return net;
    }

    private static void straightFromSixTo360() {
        AngleNet net = one();
        CHECK.due("straight(5)", net.straight(5), OUTSIDE);
        CHECK.due("told(6) after straight(5)", net.told(6), 180);
        CHECK.due("straight(6)", net.straight(6), 180);
        CHECK.same("the row of N 6", Nets.row(net), new int[] {1, 1, 4});
        CHECK.due("straight(361)", net.straight(361), OUTSIDE);
        CHECK.due("told(6) after straight(361)", net.told(6), 6);
        CHECK.due("straight(360)", net.straight(360), 6);
        CHECK.same("the row of N 360", Nets.row(net), new int[] {1, 1, 358});
        CHECK.due("straight(180)", net.straight(180), 360);
    }

    private static void leastFromOneTo60() {
        AngleNet net = one();
        CHECK.due("least(0)", net.least(0), OUTSIDE);
        CHECK.due("told(7) after least(0)", net.told(7), 1);
        CHECK.due("least(60)", net.least(60), 1);
        CHECK.same("the row of m 60", Nets.row(net), new int[] {60, 60, 60});
        CHECK.due("straight(360)", net.straight(360), 180);
        CHECK.due("least(61), a third of 360 being 120", net.least(61), OUTSIDE);
        CHECK.due("told(7) after least(61)", net.told(7), 60);
        CHECK.due("least(1)", net.least(1), 60);
    }

    private static void threeTimesLeastIsNeverAboveStraight() {
        for (int m = 1; m <= 60; m++) {
            AngleNet net = one();
            int lowest = Math.max(6, 3 * m);
            net.straight(360);
            CHECK.due("least(" + m + ") of N 360", net.least(m), 1);
            CHECK.due("straight() just below, with m " + m, net.straight(lowest - 1), OUTSIDE);
            CHECK.due("told(6) after it", net.told(6), 360);
            CHECK.due("straight() just as told, with m " + m, net.straight(lowest), 360);
            CHECK.due("can() with m " + m, net.can(), 1);
        }
        for (int n = 6; n <= 360; n++) {
            AngleNet net = one();
            int highest = Math.min(60, n / 3);
            net.straight(n);
            CHECK.due("least() just above, of N " + n, net.least(highest + 1), OUTSIDE);
            CHECK.due("told(7) after it", net.told(7), 1);
            CHECK.due("least() just as told, of N " + n, net.least(highest), 1);
            CHECK.due("can() of N " + n, net.can(), 1);
        }
    }

    private static void straightAndLeastAtFirst() {
        AngleNet net = new AngleNet();
        CHECK.due("straight() of a new net: 180 at first", net.straight(181), 180);
        CHECK.due("least() of a new net: 1 at first", net.least(2), 1);
        CHECK.due("posts(): N and m stay", net.posts(5), 4);
        CHECK.due("told(6) after posts()", net.told(6), 181);
        CHECK.due("told(7) after posts()", net.told(7), 2);
    }

    private static void sumFromZeroTo4000() {
        AngleNet net = new AngleNet();
        CHECK.due("tell(0, 0)", net.tell(0, 0), NONE);
        CHECK.due("about(0, 4)", net.about(0, 4), 0);
        CHECK.due("tell(0, 4001)", net.tell(0, 4001), OUTSIDE);
        CHECK.due("tell(0, 4000)", net.tell(0, 4000), 0);
        CHECK.due("about(0, 4)", net.about(0, 4), 4000);
        CHECK.due("tell(0, -2)", net.tell(0, -2), OUTSIDE);
        CHECK.due("about(0, 4)", net.about(0, 4), 4000);
        CHECK.due("undo()", net.undo(), 1);
        CHECK.due("about(0, 4) after undo()", net.about(0, 4), 0);
        CHECK.due("redo()", net.redo(), 0);
        CHECK.due("about(0, 4) after redo()", net.about(0, 4), 4000);
    }

    private static void sumZeroIsTold() {
        AngleNet net = one();
        CHECK.due("can(), no sum told", net.can(), 1);
        net.tell(0, 0);
        CHECK.due("can(), a sum 0 and a corner", net.can(), 0);
        CHECK.due("bar(2), a sum 0 and a corner", net.bar(2), 1);
        CHECK.due("undo()", net.undo(), 1);
        CHECK.due("about(0, 4), not told again", net.about(0, 4), NONE);
        CHECK.due("can(), not told again", net.can(), 1);
    }

    private static void sumThatIsNotToldAnyMore() {
        AngleNet net = one(179);
        CHECK.due("can()", net.can(), 0);
        CHECK.due("tell(0, -1)", net.tell(0, -1), 179);
        CHECK.due("can(), not told any more", net.can(), 1);
        CHECK.due("about(0, 4)", net.about(0, 4), NONE);
        CHECK.due("told(8)", net.told(8), 0);
        CHECK.due("tell(0, -1) once more", net.tell(0, -1), NONE);
        CHECK.due("tell(0, 0)", net.tell(0, 0), NONE);
        CHECK.due("tell(0, -1) of a sum 0", net.tell(0, -1), 0);
        CHECK.due("tell(3, -1), never told", net.tell(3, -1), NONE);
        CHECK.due("undo(), seven acts went", net.undo(), 6);
    }

    private static void givingWithoutThirds() {
        for (int n = 3; n <= 9; n++) {
            AngleNet net = new AngleNet();
            net.posts(n);
            String of = " of " + n + " posts";
            without(net, 1, "no sums" + of);
            net.tell(0, 0);
            without(net, 1, "one sum 0" + of);
            for (int p = 1; p < n; p++) {
                net.tell(p, 0);
            }
            without(net, 1, "all sums 0" + of);
            net.tell(n - 1, 1);
            without(net, 0, "the last sum 1" + of);
            CHECK.due("bar(1), the last sum 1" + of, net.bar(1), 1 << n - 1);
            net.tell(0, 4000);
            CHECK.due("bar(1), of two the least" + of, net.bar(1), 1);
            net.tell(0, -1);
            net.tell(n - 1, -1);
            without(net, 1, "sums 0, or not told" + of);
        }
    }

    private static void without(AngleNet net, int can, String which) {
        CHECK.due("can(), " + which, net.can(), can);
        CHECK.due("best(), " + which, net.best(), can == 1 ? 60 : NONE);
        CHECK.due("fit(), " + which, net.fit(), can == 1 ? 0 : NONE);
        CHECK.due("about(0, 5), " + which, net.about(0, 5), can == 1 ? 0 : NONE);
        CHECK.due("angle(0), " + which, net.angle(0), UNKNOWN);
        CHECK.due("opposite(0, 1), " + which, net.opposite(0, 1), UNKNOWN);
        CHECK.due("bar(0), " + which, net.bar(0), 0);
        CHECK.holds("bar(1), " + which, net.bar(1) == 0 == (can == 1));
        CHECK.due("bar(2), " + which, net.bar(2), 0);
    }

    private static void leastOrMoreForEachCorner() {
        AngleNet net = one(20);
        net.least(20);
        CHECK.same("the row, a sum just the least", Nets.row(net), new int[] {20, 20, 140});
        net.least(21);
        CHECK.due("can(), a sum one below the least", net.can(), 0);
        // Two of the corners have the least, the third all that is left.
        AngleNet high = one(-1, -1, 140);
        high.least(20);
        CHECK.same("the row, a sum just the most", Nets.row(high), new int[] {20, 20, 140});
        high.tell(2, 141);
        CHECK.due("can(), a sum one above the most", high.can(), 0);
    }

    private static void straightForEachThird() {
        AngleNet net = one(60, 60, 60);
        int[][] due = {{179, 0}, {180, 1}, {181, 0}};
        for (int[] d : due) {
            net.straight(d[0]);
            CHECK.due("can() of N " + d[0], net.can(), d[1]);
        }
        // With 3 m just N, every corner has m.
        AngleNet full = Nets.of(9, Nets.TWELVE);
        full.least(60);
        for (int c = 0; c < 36; c++) {
            CHECK.due("angle(" + c + ") with 3 m just N", full.angle(c), 60);
        }
        CHECK.due("fit() with 3 m just N", full.fit(), 18);
        full.tell(6, 360);
        CHECK.due("can(), six corners with 360", full.can(), 1);
        full.tell(6, 361);
        CHECK.due("can(), six corners with 361", full.can(), 0);
        full.tell(6, 359);
        CHECK.due("can(), six corners with 359", full.can(), 0);
    }

    private static void sumForEachPost() {
        // Two thirds at post 0 have its sum together.
        AngleNet net = Nets.of(5, new int[][] {{0, 1, 2}, {0, 3, 4}});
        int[][] due = {{1, 0}, {2, 1}, {356, 1}, {357, 0}};
        for (int[] d : due) {
            net.tell(0, d[0]);
            CHECK.due("can(), two corners with " + d[0], net.can(), d[1]);
            CHECK.due("about(0, 5)", net.about(0, 5), d[1] == 1 ? d[0] : NONE);
        }
    }

    private static void onlyOneGiving() {
        AngleNet net = one(1, 1, 178);
        CHECK.same("the only giving", Nets.row(net), new int[] {1, 1, 178});
        CHECK.same("the only giving, turned", Nets.row(one(178, 1, 1)), new int[] {178, 1, 1});
        CHECK.due("best() of the only giving", net.best(), 1);
        AngleNet ball = Nets.of(4, Nets.TETRAHEDRON);
        ball.least(60);
        Nets.tell(ball, 180, 180, 180, 180);
        CHECK.due("can(), just one giving of a ball", ball.can(), 1);
        CHECK.due("best()", ball.best(), 60);
        ball.tell(3, 181);
        CHECK.due("can(), one too much", ball.can(), 0);
    }

    private static void theMostThatAPostCanHave() {
        AngleNet net = Nets.of(9, Nets.WHEEL);
        net.straight(360);
        net.tell(0, 8 * 358);
        CHECK.due("can(), eight corners with the most", net.can(), 1);
        CHECK.due("angle(0)", net.angle(0), 358);
        CHECK.due("angle(21)", net.angle(21), 358);
        CHECK.due("fit()", net.fit(), 8);
        net.tell(0, 8 * 358 + 1);
        CHECK.due("can(), eight corners with one more", net.can(), 0);
        CHECK.due("bar(1)", net.bar(1), 1);
        CHECK.due("bar(2)", net.bar(2), 0);
        net.tell(0, 4000);
        CHECK.due("bar(1), the highest sum", net.bar(1), 1);
    }

    private static void theFewestThatAPostCanHave() {
        AngleNet net = Nets.of(9, Nets.WHEEL);
        net.straight(6);
        net.tell(0, 8);
        CHECK.due("can(), eight corners with the least", net.can(), 1);
        CHECK.due("angle(0)", net.angle(0), 1);
        CHECK.due("angle(21)", net.angle(21), 1);
        net.tell(0, 7);
        CHECK.due("can(), eight corners with one less", net.can(), 0);
        CHECK.due("bar(1)", net.bar(1), 0);
        CHECK.due("bar(2)", net.bar(2), 1);
        net.tell(0, 0);
        CHECK.due("bar(2), the lowest sum", net.bar(2), 1);
    }

    private static void rowIsLeastAtTheFirstDifference() {
        CHECK.same("no sums", Nets.row(one()), new int[] {1, 1, 178});
        CHECK.same("the last corner told", Nets.row(one(-1, -1, 1)), new int[] {1, 178, 1});
        CHECK.same("the two last corners told", Nets.row(one(-1, 1, 1)), new int[] {178, 1, 1});
        // Corner 0 is the least as long as corner 3 can take the rest of post 0, 178 at most.
        AngleNet net = Nets.of(5, new int[][] {{0, 1, 2}, {0, 3, 4}});
        net.tell(0, 179);
        CHECK.same("the row, 179 at post 0", Nets.row(net), new int[] {1, 1, 178, 178, 1, 1});
        net.tell(0, 180);
        CHECK.same("the row, 180 at post 0", Nets.row(net), new int[] {2, 1, 177, 178, 1, 1});
        net.tell(0, -1);
        net.tell(4, 1);
        CHECK.same("the row, 1 at post 4", Nets.row(net), new int[] {1, 1, 178, 1, 178, 1});
        net.tell(3, 1);
        CHECK.same("the row, 1 at posts 3 and 4", Nets.row(net), new int[] {1, 1, 178, 178, 1, 1});
        net.tell(0, 180);
        net.tell(3, -1);
        CHECK.same("the row, 180 at post 0 and 1 at post 4", Nets.row(net), new int[] {2, 1, 177, 178, 1, 1});
        net.tell(2, 1);
        CHECK.same("the row, 1 at posts 2 and 4", Nets.row(net), new int[] {2, 177, 1, 178, 1, 1});
    }

    private static void rowOfAFullNet() {
        AngleNet net = Nets.of(9, Nets.TWELVE);
        CHECK.due("angle(35), no sums", net.angle(35), 178);
        Nets.tell(net, 358, 358, 358, 358, 358, 358, 6, 6);
        // What posts 6 and 7 have not, the others have: 12 times 180 together.
        CHECK.due("told(8)", net.told(8), 2160);
        CHECK.due("can() of a full net", net.can(), 1);
        for (int k = 0; k < 12; k++) {
            CHECK.due("angle(" + (3 * k + 2) + ")", net.angle(3 * k + 2), 1);
            CHECK.due("third " + k, net.angle(3 * k) + net.angle(3 * k + 1), 179);
        }
        CHECK.due("angle(0)", net.angle(0), 1);
        net.tell(8, 0);
        CHECK.due("can(), a post without corners and sum 0", net.can(), 1);
        net.tell(8, 1);
        CHECK.due("can(), a post without corners and sum 1", net.can(), 0);
        CHECK.due("bar(1), a post without corners", net.bar(1), 256);
        CHECK.due("bar(0)", net.bar(0), 0);
        CHECK.due("bar(2)", net.bar(2), 0);
        net.tell(8, -1);
        net.tell(7, 5);
        CHECK.due("can(), one too few", net.can(), 0);
        CHECK.due("bar(2), one too few", net.bar(2), 128);
        CHECK.due("bar(1), one too few", net.bar(1), 0);
    }

    private static void bestUpTo60AndAThirdOfStraight() {
        for (int n = 6; n <= 360; n++) {
            AngleNet net = one();
            net.straight(n);
            CHECK.due("best() of N " + n, net.best(), Math.min(60, n / 3));
            AngleNet empty = new AngleNet();
            empty.straight(n);
            CHECK.due("best() without thirds of N " + n, empty.best(), Math.min(60, n / 3));
        }
        AngleNet high = one(61, 61);
        high.straight(360);
        CHECK.due("best(), 61 could be given to all", high.best(), 60);
    }

    private static void bestOfOneAndNone() {
        CHECK.due("best(), a sum 1", one(1).best(), 1);
        CHECK.due("best(), a sum 0", one(0).best(), NONE);
        CHECK.due("best(), a sum 178", one(178).best(), 1);
        CHECK.due("best(), a sum 179", one(179).best(), NONE);
        CHECK.due("best(), sums too low together", one(60, 60, 59).best(), NONE);
        CHECK.due("best(), sums too high together", one(60, 60, 61).best(), NONE);
        CHECK.due("best(), sums just right", one(60, 60, 60).best(), 60);
        CHECK.due("best(), the lowest sum", one(59, 60, 61).best(), 59);
        CHECK.due("best(), a sum 2", one(2).best(), 2);
        CHECK.due("best(), a sum 177: 3 for two", one(177).best(), 1);
        CHECK.due("best(), a sum 176: 4 for two", one(176).best(), 2);
        AngleNet low = one(0);
        low.straight(6);
        CHECK.due("best() of N 6, a sum 0", low.best(), NONE);
        low.tell(0, 2);
        CHECK.due("best() of N 6, a sum 2", low.best(), 2);
        low.tell(0, 3);
        CHECK.due("best() of N 6, a sum 3", low.best(), 1);
    }

    private static void bestLeavesLeast() {
        AngleNet net = one(30);
        net.least(31);
        CHECK.due("can() ahead of best()", net.can(), 0);
        CHECK.due("best(), below m", net.best(), 30);
        CHECK.due("told(7) after best()", net.told(7), 31);
        CHECK.due("can() after best()", net.can(), 0);
        CHECK.due("angle(0) after best()", net.angle(0), NONE);
        net.least(2);
        CHECK.due("best(), above m", net.best(), 30);
        CHECK.due("told(7) after best()", net.told(7), 2);
        CHECK.same("the row after best()", Nets.row(net), new int[] {30, 2, 148});
        CHECK.due("best() after the row", net.best(), 30);
        CHECK.same("the row after best() once more", Nets.row(net), new int[] {30, 2, 148});
    }

    private static void noBarsWhereThereIsAGiving() {
        for (AngleNet net : new AngleNet[] {new AngleNet(), one(), one(60, 60, 60), one(178), one(1),
            Nets.of(9, Nets.TWELVE), Nets.of(9, Nets.APART)}) {
            CHECK.due("can()", net.can(), 1);
            for (int what = 0; what < 3; what++) {
                CHECK.due("bar(" + what + "), there is a giving", net.bar(what), 0);
            }
        }
    }

    private static void barOutside() {
        AngleNet net = one(0);
        CHECK.due("bar(-1)", net.bar(-1), OUTSIDE);
        CHECK.due("bar(0)", net.bar(0), 0);
        CHECK.due("bar(1)", net.bar(1), 0);
        CHECK.due("bar(2)", net.bar(2), 1);
        CHECK.due("bar(3)", net.bar(3), OUTSIDE);
    }
}
