/** The edges that part 2 of the Terms names for BARS, OPPOSITE and FIT (promises 16 to 18). */
public final class BarEdgesTest {
    private static final int NONE = AngleNet.NONE, UNKNOWN = AngleNet.UNKNOWN;
    private static final int[][] ONE = {{0, 1, 2}};
    /** Two thirds with the side 0, 2. */
    private static final int[][] PAIR = {{0, 1, 2}, {0, 2, 3}};
    private static final Check CHECK = new Check("BarEdgesTest");

    public static void main(String[] args) {
        justStraightTogether();
        moreThanOneCornerCanHave();
        moreThanTwoCornersCanHave();
        lessThanOneCornerMustHave();
        leastOfOtherThirdsIsTakenOff();
        noOtherThirdsBesideAll();
        thirdAtAPostThatIsNotTold();
        postThatIsNotToldIsNoBar();
        allKindsOfOneNet();
        fewestThirds();
        fewestPostsThatWantTooMuch();
        fewestPostsThatWantTooLittle();
        ofSeveralTheLeastAsBits();
        ofSeveralPairsTheLeastAsBits();
        allThirdsAndAllPosts();
        lastThirdAndLastPost();
        fitIsStraightAtMost();
        oppositeLowestAndHighest();
        oppositeASideAtTheRim();
        oppositeInThirdsOfTheSamePosts();
        withoutAGiving();
        CHECK.end();
    }

    /** A net with N 12 and m 2, if it is told no other ones. */
    private static AngleNet twelfths(int posts, int[][] thirds, int... sums) {
        AngleNet net = Nets.of(posts, thirds);
        net.straight(12);
        net.least(2);
        Nets.tell(net, sums);
        return net;
    }

    private static AngleNet one(int least, int... sums) {
        AngleNet net = Nets.of(4, ONE);
        net.least(least);
        Nets.tell(net, sums);
        return net;
    }

    private static void bars(String which, AngleNet net, int ofThirds, int tooMuch, int tooLittle) {
        boolean none = ofThirds == 0 && tooMuch == 0 && tooLittle == 0;
        CHECK.due("can(), " + which, net.can(), none ? 1 : 0);
        CHECK.due("bar(0), " + which, net.bar(0), ofThirds);
        CHECK.due("bar(1), " + which, net.bar(1), tooMuch);
        CHECK.due("bar(2), " + which, net.bar(2), tooLittle);
    }

    private static void justStraightTogether() {
        bars("three sums that are N", one(1, 60, 60, 60), 0, 0, 0);
        bars("three sums, one below N", one(1, 60, 60, 59), 1, 0, 7);
        bars("three sums, one above N", one(1, 60, 60, 61), 0, 7, 0);
    }

    private static void moreThanOneCornerCanHave() {
        bars("the most of one corner", one(20, 140), 0, 0, 0);
        bars("one more", one(20, 141), 0, 1, 0);
        bars("the most of one corner, m 60", one(60, 60), 0, 0, 0);
        bars("one more, m 60", one(60, 61), 0, 1, 0);
    }

    private static void moreThanTwoCornersCanHave() {
        bars("the most of two corners", one(20, 100, 60), 0, 0, 0);
        bars("one more for two", one(20, 100, 61), 0, 3, 0);
        bars("the most of two corners, the last ones", one(20, -1, 60, 100), 0, 0, 0);
        bars("one more for two, the last ones", one(20, -1, 61, 100), 0, 6, 0);
    }

    private static void lessThanOneCornerMustHave() {
        bars("the least of one corner", one(20, 20), 0, 0, 0);
        bars("one less", one(20, 19), 0, 0, 1);
        bars("the least of two corners", one(20, 20, 20), 0, 0, 0);
        bars("one less for the second", one(20, 20, 19), 0, 0, 2);
        AngleNet net = twelfths(4, PAIR, 4);
        bars("the least of two corners at one post", net, 0, 0, 0);
        net.tell(0, 3);
        bars("one less for two corners at one post", net, 0, 0, 1);
    }

    private static void leastOfOtherThirdsIsTakenOff() {
        // Third 1 has 2 at least at posts 0 and 2, so that third 0 has 4, 4 and 4, or 3.
        AngleNet net = twelfths(4, PAIR, 6, 4, 6);
        bars("just enough beside another third", net, 0, 0, 0);
        net.tell(2, 5);
        bars("one too few beside another third", net, 1, 0, 7);
        net.least(1);
        bars("enough, as the other third has 1 there", net, 0, 0, 0);
    }

    private static void noOtherThirdsBesideAll() {
        AngleNet net = twelfths(4, PAIR, 8, 4, 8, 4);
        bars("all sums are N for each third", net, 0, 0, 0);
        net.tell(3, 3);
        bars("all sums, one too few", net, 3, 0, 15);
        net.tell(3, 5);
        bars("all sums, one too many", net, 0, 15, 0);
    }

    /** Post 4 bars every giving by itself, so that the thirds are looked at beside it. */
    private static void thirdAtAPostThatIsNotTold() {
        AngleNet net = twelfths(5, PAIR, 6, 4, 5, -1, 1);
        bars("all posts of third 0 told", net, 1, 16, 7);
        net.tell(1, -1);
        bars("post 1 not told any more", net, 0, 16, 0);
        net.tell(1, 4);
        net.tell(0, -1);
        bars("post 0 not told any more", net, 0, 16, 0);
        net.tell(0, 6);
        net.tell(2, -1);
        bars("post 2 not told any more", net, 0, 16, 0);
    }

    private static void postThatIsNotToldIsNoBar() {
        AngleNet net = one(20, 141, -1, -1, 1);
        bars("a sum too high, and one without corners", net, 0, 1, 0);
        net.tell(0, -1);
        bars("the first one not told any more", net, 0, 8, 0);
        net.tell(3, 0);
        bars("the second one 0", net, 0, 0, 0);
    }

    private static void allKindsOfOneNet() {
        bars("posts 1 and 2 too high, post 0 too low", one(1, 0, 100, 80), 0, 6, 1);
        bars("a third has too few, and post 0 too low", one(1, 0, 178, 1), 1, 0, 1);
        AngleNet net = Nets.of(7, new int[][] {{0, 1, 2}, {4, 5, 6}});
        Nets.tell(net, 60, 60, 59, 1, 60, 60, 61);
        bars("a third, a post without corners, three posts", net, 1, 8, 7);
    }

    private static void fewestThirds() {
        AngleNet net = twelfths(7, new int[][] {{0, 1, 2}, {0, 2, 3}, {4, 5, 6}}, 8, 4, 8, 3, 4, 4, 4);
        CHECK.due("bar(0), two thirds together", net.bar(0), 3);
        net.tell(6, 3);
        CHECK.due("bar(0), one third is fewer", net.bar(0), 4);
        net.tell(6, 5);
        CHECK.due("bar(0), two thirds again", net.bar(0), 3);
    }

    private static void fewestPostsThatWantTooMuch() {
        AngleNet net = twelfths(9, PAIR, 8, 4, 8, 5);
        CHECK.due("bar(1), four posts together", net.bar(1), 15);
        net.tell(8, 1);
        CHECK.due("bar(1), one post is fewer", net.bar(1), 256);
        net.tell(8, 0);
        CHECK.due("bar(1), four posts again", net.bar(1), 15);
        net.tell(3, 9);
        CHECK.due("bar(1), the last of the four by itself", net.bar(1), 8);
    }

    private static void fewestPostsThatWantTooLittle() {
        AngleNet net = twelfths(7, new int[][] {{0, 1, 2}, {0, 2, 3}, {4, 5, 6}}, 8, 4, 8, 3, 2);
        CHECK.due("bar(2), four posts together", net.bar(2), 15);
        net.tell(4, 1);
        CHECK.due("bar(2), one post is fewer", net.bar(2), 16);
        net.tell(4, 2);
        net.tell(2, 7);
        net.tell(0, 5);
        // Posts 0, 1, 2 have 16, which is just due; posts 0, 2, 3 have 15.
        CHECK.due("bar(2), three of the four posts", net.bar(2), 13);
        net.tell(1, 3);
        CHECK.due("bar(2), of two with three posts the least", net.bar(2), 7);
    }

    private static void ofSeveralTheLeastAsBits() {
        int[][] apart = {{0, 1, 2}, {3, 4, 5}};
        bars("two thirds too few", twelfths(6, apart, 3, 4, 4, 3, 4, 4), 1, 0, 7);
        bars("the second one too few", twelfths(6, apart, 4, 4, 4, 3, 4, 4), 2, 0, 56);
        bars("both too many", twelfths(6, apart, 5, 4, 4, 5, 4, 4), 0, 7, 0);
        bars("the second one too many", twelfths(6, apart, 4, 4, 4, 5, 4, 4), 0, 56, 0);
        bars("posts 3 and 5 too high", twelfths(6, apart, -1, -1, -1, 9, -1, 9), 0, 8, 0);
        bars("posts 3 and 5 too low", twelfths(6, apart, -1, -1, -1, 1, -1, 1), 0, 0, 8);
    }

    /** The least as bits is the set whose highest number is the lowest, not its first one. */
    private static void ofSeveralPairsTheLeastAsBits() {
        int[][] thirds = {{0, 1, 2}, {3, 4, 5}, {3, 5, 6}, {0, 2, 7}};
        bars("thirds 0 and 3 too few, and 1 and 2", twelfths(8, thirds, 8, 4, 8, 8, 4, 8, 3, 3), 6, 0, 120);
        bars("thirds 0 and 3 too few", twelfths(8, thirds, 8, 4, 8, 8, 4, 8, 4, 3), 9, 0, 135);
        bars("posts 0, 1, 2, 7 too many, and 3 to 6", twelfths(8, thirds, 8, 4, 8, 8, 4, 8, 5, 5), 0, 120, 0);
        bars("posts 0, 1, 2, 7 too many", twelfths(8, thirds, 8, 4, 8, 8, 4, 8, 4, 5), 0, 135, 0);
        int[][] apart = {{0, 3, 4}, {1, 2, 5}};
        bars("posts 0 and 3 too many, and 1 and 2", twelfths(6, apart, 6, 6, 5, 5), 0, 6, 0);
        bars("posts 0 and 3 too many", twelfths(6, apart, 6, 6, 4, 5), 0, 9, 0);
    }

    private static void allThirdsAndAllPosts() {
        AngleNet net = Nets.of(9, Nets.APART);
        for (int p = 0; p < 9; p++) {
            net.tell(p, 240);
        }
        bars("nine sums of 240", net, 0, 0, 0);
        net.tell(8, 239);
        bars("nine sums, one too few", net, 4095, 0, 511);
        net.tell(8, 241);
        bars("nine sums, one too many", net, 0, 511, 0);
        net.tell(8, -1);
        bars("eight sums", net, 0, 0, 0);
    }

    private static void lastThirdAndLastPost() {
        AngleNet net = Nets.of(9, Nets.APART);
        // The last third is (2, 4, 6), and each of its posts has three corners more.
        Nets.tell(net, -1, -1, 63, -1, 63, -1, 63);
        bars("the last third, just enough", net, 0, 0, 0);
        net.tell(4, 62);
        bars("the last third, one too few", net, 2048, 0, 84);
        net.posts(9);
        for (int[] t : Nets.APART) {
            net.third(t[0], t[1], t[2]);
        }
        net.tell(8, 712);
        bars("the last post, the most", net, 0, 0, 0);
        net.tell(8, 713);
        bars("the last post, one more", net, 0, 256, 0);
        net.tell(8, 4);
        bars("the last post, the least", net, 0, 0, 0);
        net.tell(8, 3);
        bars("the last post, one less", net, 0, 0, 256);
    }

    private static void fitIsStraightAtMost() {
        for (int n : new int[] {6, 7, 180, 359, 360}) {
            AngleNet net = Nets.of(4, new int[][] {{0, 1, 2}, {1, 0, 3}});
            net.straight(n);
            int half = n / 2;
            net.tell(2, half);
            int[] fits = {1, 1, 0};
            for (int more = -1; more <= 1; more++) {
                net.tell(3, n - half + more);
                CHECK.due("opposite(0, 1) of N " + n + " and " + more, net.opposite(0, 1), n + more);
                CHECK.due("fit() of N " + n + " and " + more, net.fit(), fits[more + 1]);
            }
        }
        CHECK.due("fit(), sides at the rim alone", one(1).fit(), 0);
        CHECK.due("fit() of a ball", Nets.of(4, Nets.TETRAHEDRON).fit(), 6);
        AngleNet full = Nets.of(9, Nets.TWELVE);
        CHECK.due("fit() of a full net", full.fit(), 12);
        full.least(60);
        CHECK.due("fit() of a full net, 60 for all", full.fit(), 18);
    }

    private static void oppositeLowestAndHighest() {
        AngleNet net = Nets.of(4, new int[][] {{0, 1, 2}, {1, 0, 3}});
        net.straight(360);
        CHECK.due("opposite(0, 1), the highest", net.opposite(0, 1), 716);
        CHECK.due("opposite(1, 0), the highest", net.opposite(1, 0), 716);
        net.tell(2, 1);
        net.tell(3, 1);
        CHECK.due("opposite(0, 1), the lowest", net.opposite(0, 1), 2);
        net.tell(2, 0);
        CHECK.due("opposite(0, 1), lower", net.opposite(0, 1), NONE);
        AngleNet same = Nets.of(4, new int[][] {{0, 1, 2}, {1, 0, 3}});
        same.least(60);
        CHECK.due("opposite(0, 1), 60 for all", same.opposite(0, 1), 120);
    }

    private static void oppositeASideAtTheRim() {
        AngleNet net = one(1, 30, 50);
        int[][] due = {{0, 1, 100}, {1, 2, 30}, {2, 0, 50}};
        for (int[] d : due) {
            CHECK.due("opposite(" + d[0] + ", " + d[1] + ")", net.opposite(d[0], d[1]), d[2]);
            CHECK.due("opposite(" + d[1] + ", " + d[0] + ")", net.opposite(d[1], d[0]), d[2]);
        }
        CHECK.due("opposite(0, 3), no side", net.opposite(0, 3), UNKNOWN);
        CHECK.due("fit()", net.fit(), 0);
    }

    private static void oppositeInThirdsOfTheSamePosts() {
        AngleNet net = Nets.of(3, Nets.DOUBLE);
        // The corners are at 0, 1, 2 and 0, 2, 1, and the last one of each third has 178.
        CHECK.due("opposite(0, 1)", net.opposite(0, 1), 179);
        CHECK.due("opposite(1, 2)", net.opposite(1, 2), 2);
        CHECK.due("opposite(2, 0)", net.opposite(2, 0), 179);
        CHECK.due("fit()", net.fit(), 3);
        net.tell(0, 2);
        net.tell(1, 177);
        CHECK.due("opposite(0, 1), all that post 2 has", net.opposite(0, 1), 181);
        CHECK.due("fit(), one above N", net.fit(), 2);
        net.tell(1, 178);
        CHECK.due("opposite(0, 1), all that post 2 has", net.opposite(0, 1), 180);
        CHECK.due("fit(), just N", net.fit(), 3);
    }

    private static void withoutAGiving() {
        AngleNet net = Nets.of(5, new int[][] {{0, 1, 2}, {1, 0, 3}});
        net.tell(4, 1);
        CHECK.due("opposite(0, 1)", net.opposite(0, 1), NONE);
        CHECK.due("opposite(1, 2), at the rim", net.opposite(1, 2), NONE);
        CHECK.due("opposite(2, 3), no side", net.opposite(2, 3), UNKNOWN);
        CHECK.due("fit()", net.fit(), NONE);
        CHECK.due("angle(5)", net.angle(5), NONE);
        CHECK.due("angle(6)", net.angle(6), UNKNOWN);
        CHECK.due("about(3, 5)", net.about(3, 5), NONE);
        CHECK.due("best()", net.best(), NONE);
        CHECK.due("can()", net.can(), 0);
        net.undo();
        CHECK.due("can() after undo()", net.can(), 1);
        CHECK.due("fit() after undo()", net.fit(), 0);
        CHECK.due("angle(5) after undo()", net.angle(5), 178);
    }
}
