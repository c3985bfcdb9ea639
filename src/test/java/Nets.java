import java.util.ArrayList;
import java.util.List;

/** Nets that several tests use, and all that can be seen of one. */
final class Nets {
    static final int[][] TETRAHEDRON = {{0, 1, 2}, {0, 2, 3}, {0, 3, 1}, {1, 3, 2}};
    static final int[][] OCTAHEDRON = {{0, 1, 2}, {0, 2, 3}, {0, 3, 4}, {0, 4, 1},
        {5, 2, 1}, {5, 3, 2}, {5, 4, 3}, {5, 1, 4}};
    /** A round of four thirds about post 0, with the rim 1, 2, 3, 4. */
    static final int[][] FAN = {{0, 1, 2}, {0, 2, 3}, {0, 3, 4}, {0, 4, 1}};
    /** Two thirds of the same three posts, the one the other way round. */
    static final int[][] DOUBLE = {{0, 1, 2}, {0, 2, 1}};
    /** A round of eight thirds about post 0, the most that one post can have. */
    static final int[][] WHEEL = {{0, 1, 2}, {0, 2, 3}, {0, 3, 4}, {0, 4, 5}, {0, 5, 6}, {0, 6, 7}, {0, 7, 8}, {0, 8, 1}};
    /** Twelve thirds, six at post 6 and six at post 7, on a round of the posts 0 to 5. */
    static final int[][] TWELVE = {{0, 1, 6}, {1, 2, 6}, {2, 3, 6}, {3, 4, 6}, {4, 5, 6}, {5, 0, 6},
        {1, 0, 7}, {2, 1, 7}, {3, 2, 7}, {4, 3, 7}, {5, 4, 7}, {0, 5, 7}};
    /** Twelve thirds of nine posts that have each pair of posts once: no two share a side. */
    static final int[][] APART = {{0, 1, 2}, {3, 4, 5}, {6, 7, 8}, {0, 3, 6}, {1, 4, 7}, {2, 5, 8},
        {0, 4, 8}, {1, 5, 6}, {2, 3, 7}, {0, 5, 7}, {1, 3, 8}, {2, 4, 6}};

    private Nets() {
    }

    static AngleNet of(int posts, int[][] thirds) {
        AngleNet net = new AngleNet();
        net.posts(posts);
        for (int[] third : thirds) {
            net.third(third[0], third[1], third[2]);
        }
        return net;
    }

    /** Tells the sums of the first posts; -1 leaves one as it is. */
    static void tell(AngleNet net, int... sums) {
        for (int p = 0; p < sums.length; p++) {
            if (sums[p] >= 0) {
                net.tell(p, sums[p]);
            }
        }
    }

    static int[] corners(AngleNet net) {
        int[] posts = new int[3 * net.told(1)];
        for (int c = 0; c < posts.length; c++) {
            posts[c] = net.at(c);
        }
        return posts;
    }

    static int[] row(AngleNet net) {
        int[] row = new int[3 * net.told(1)];
        for (int c = 0; c < row.length; c++) {
            row[c] = net.angle(c);
        }
        return row;
    }

    /** What can be seen by undo() and redo(): it goes to the latest act, then back to the first. */
    static int[] acts(AngleNet net) {
        List<Integer> seen = new ArrayList<>();
        int left = 0;
        for (int step = 0; step <= 60 && left != AngleNet.STATE; step++) {
            left = net.redo();
            lookAfterAct(net, left, seen);
        }
        left = 0;
        for (int step = 0; step <= 60 && left != AngleNet.STATE; step++) {
            left = net.undo();
            lookAfterAct(net, left, seen);
        }
        return toArray(seen);
    }

    private static void lookAfterAct(AngleNet net, int left, List<Integer> seen) {
        seen.add(left);
        seen.add(net.told(1));
        seen.add(net.told(8));
        seen.add(net.at(0));
        seen.add(net.side(0, 1));
    }

    private static int[] toArray(List<Integer> seen) {
        return seen.stream().mapToInt(Integer::intValue).toArray();
    }

    /** Every answer of a call that changes nothing: 389 calls at most, with nine posts. */
    static int[] all(AngleNet net) {
        List<Integer> seen = new ArrayList<>();
        for (int what = 0; what <= 8; what++) {
            seen.add(net.told(what));
        }
        for (int c = -1; c <= 36; c++) {
            seen.add(net.at(c));
            seen.add(net.angle(c));
        }
        int posts = net.told(0);
        for (int p = 0; p < posts; p++) {
            for (int what = 0; what <= 5; what++) {
                seen.add(net.about(p, what));
            }
            for (int q = 0; q < posts; q++) {
                seen.add(net.side(p, q));
                seen.add(net.arrow(p, q));
                seen.add(net.opposite(p, q));
            }
        }
        for (int what = 0; what <= 2; what++) {
            seen.add(net.bar(what));
        }
        seen.add(net.can());
        seen.add(net.best());
        seen.add(net.fit());
        return toArray(seen);
    }
}
