/**
 * Givings of one net without finding any: there is one just if no set of posts with told sums
 * wants more or less than its thirds allow. All such sets are looked at, one by one.
 */
final class Sets {
    private static final int UNTOLD = AngleNet.NONE;

    private final int straight;
    /** The post of each corner. */
    private final int[] at;
    /** The sum of each post, NONE if it is not told. */
    private final int[] sums;
    private final int toldPosts;

    Sets(int straight, int[] at, int[] sums) {
        this.straight = straight;
        this.at = at;
        this.sums = sums;
        int told = 0;
        for (int p = 0; p < sums.length; p++) {
            told |= sums[p] == UNTOLD ? 0 : 1 << p;
        }
        toldPosts = told;
    }

    /** Whether there is a giving with a least. */
    boolean allow(int m) {
        return allow(0, new int[at.length], m);
    }

    /** Whether a giving has the first numbers of a row. */
    boolean allow(int fixed, int[] row, int m) {
        int thirds = at.length / 3;
        int[] left = new int[thirds];
        int[] openPosts = new int[thirds];
        int[] due = sums.clone();
        for (int c = 0; c < at.length; c++) {
            int k = c / 3;
            left[k] += c % 3 == 0 ? straight : 0;
            if (c < fixed) {
                left[k] -= row[c];
                due[at[c]] -= sums[at[c]] == UNTOLD ? 0 : row[c];
            } else {
                openPosts[k] |= 1 << at[c];
            }
        }
        for (int k = 0; k < thirds; k++) {
            int open = Integer.bitCount(openPosts[k]);
            if (left[k] < m * open || open == 0 && left[k] != 0) {
                return false;
            }
        }
        return allSetsAllow(left, openPosts, due, m);
    }

    private boolean allSetsAllow(int[] left, int[] openPosts, int[] due, int m) {
        // The next lower set of told posts, down to none.
        for (int set = toldPosts; set != 0; set = set - 1 & toldPosts) {
            int wanted = 0;
            for (int p = 0; p < sums.length; p++) {
                wanted += (set >> p & 1) == 1 ? due[p] : 0;
            }
            int most = 0;
            int fewest = 0;
            for (int k = 0; k < left.length; k++) {
                int in = Integer.bitCount(openPosts[k] & set);
                int out = Integer.bitCount(openPosts[k] & ~set);
                most += in == 0 ? 0 : left[k] - m * out;
                fewest += out == 0 ? in == 0 ? 0 : left[k] : m * in;
            }
            if (wanted > most || wanted < fewest) {
                return false;
            }
        }
        return true;
    }

    /** THE ROW: corner by corner the lowest number that a giving has there; null, if there is none. */
    int[] row(int m) {
        if (!allow(m)) {
            return null;
        }
        int[] row = new int[at.length];
        for (int c = 0; c < row.length; c++) {
            // The last corner of a third has what the others leave.
            row[c] = c % 3 == 2 ? straight - row[c - 1] - row[c - 2] : m;
            while (!allow(c + 1, row, m)) {
                row[c]++;
            }
        }
        return row;
    }
}
