import java.util.ArrayList;
import java.util.List;

/** Nets that several tests use, and all that can be seen of one. */
final class Nets {
    static final int[][] TETRAHEDRON = {{0, 1, 2}, {0, 2, 3}, {0, 3, 1}, {1, 3, 2}};
    static final int[][] OCTAHEDRON = {{0, 1, 2}, {0, 2, 3}, {0, 3, 4}, {0, 4, 1},
        {5, 2, 1}, {5, 3, 2}, {5, 4, 3}, {5, 1, 4}};
    /** A round of four thirds about post 0, with the rim 1, 2, 3, 4. */
    static final int[][] FAN = {{0, 1, 2}, {0, 2, 3}, {0, 3, 4}, {0, 4, 1}};

    private Nets() {
    }

    static AngleNet of(int posts, int[][] thirds) {
        AngleNet net = new AngleNet();
        net.posts(posts);
        for (int[] third : thirds) {
            net.third(third[0], third[1], third[2]);
        }
        return net;
    }

    static int[] corners(AngleNet net) {
        int[] posts = new int[3 * net.told(1)];
        for (int c = 0; c < posts.length; c++) {
            posts[c] = net.at(c);
        }
        return posts;
    }

    static int[] row(AngleNet net) {
        int[] row = new int[3 * net.told(1)];
        for (int c = 0; c < row.length; c++) {
            row[c] = net.angle(c);
        }
        return row;
    }

    /** Every answer of a call that changes nothing. */
    static int[] all(AngleNet net) {
        List<Integer> seen = new ArrayList<>();
        for (int what = 0; what <= 8; what++) {
            seen.add(net.told(what));
        }
        for (int c = -1; c <= 36; c++) {
            seen.add(net.at(c));
            seen.add(net.angle(c));
        }
        for (int p = 0; p < net.told(0); p++) {
            for (int what = 0; what <= 5; what++) {
                seen.add(net.about(p, what));
            }
            for (int q = 0; q < net.told(0); q++) {
                seen.add(net.side(p, q));
                seen.add(net.arrow(p, q));
                seen.add(net.opposite(p, q));
            }
        }
        for (int what = 0; what <= 2; what++) {
            seen.add(net.bar(what));
        }
        seen.add(net.can());
        seen.add(net.best());
        seen.add(net.fit());
        return seen.stream().mapToInt(Integer::intValue).toArray();
    }
}
