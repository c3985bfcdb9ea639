import java.util.ArrayList;
import java.util.Arrays;
import java.util.List;

/**
 * The document once more, as slowly and plainly as can be: givings are found by trying every
 * number for every corner, bars by the words of the document, acts are whole states kept.
 */
class Model {
    private static final int NONE = -6, UNKNOWN = -1, OUTSIDE = -2, STATE = -3, FULL = -4, NO = -5;

    private static final class Held {
        final List<int[]> thirds = new ArrayList<>();
        int[] sums;

        Held copy() {
            Held other = new Held();
            for (int[] third : thirds) {
                other.thirds.add(third.clone());
            }
            other.sums = sums.clone();
            return other;
        }
    }

    private int n = 4;
    private int straight = 180;
    private int least = 1;
    private Held now = new Held();
    private List<Held> past = new ArrayList<>();
    private List<Held> future = new ArrayList<>();

    Model() {
        now.sums = new int[n];
        Arrays.fill(now.sums, NONE);
    }

    private boolean post(int p) {
        return 0 <= p && p < n;
    }

    private int holder(int p, int q) {
        for (int k = 0; k < now.thirds.size(); k++) {
            int[] t = now.thirds.get(k);
            for (int i = 0; i < 3; i++) {
                if (t[i] == p && t[(i + 1) % 3] == q) {
                    return k;
                }
            }
        }
        return NONE;
    }

    private void act() {
        past.add(now.copy());
        if (past.size() > 60) {
            past.remove(0);
        }
        future.clear();
    }

    int posts(int count) {
        if (count < 3 || count > 9) {
            return OUTSIDE;
        }
        int before = n;
        n = count;
        now = new Held();
        now.sums = new int[n];
        Arrays.fill(now.sums, NONE);
        past.clear();
        future.clear();
        return before;
    }

    int third(int p, int q, int r) {
        if (!post(p) || !post(q) || !post(r) || p == q || q == r || r == p) {
            return UNKNOWN;
        }
        if (now.thirds.size() == 12) {
            return FULL;
        }
        if (holder(p, q) != NONE || holder(q, r) != NONE || holder(r, p) != NONE) {
            return NO;
        }
        act();
        now.thirds.add(new int[] {p, q, r});
        return now.thirds.size() - 1;
    }

    int at(int corner) {
        if (corner < 0 || corner >= 3 * now.thirds.size()) {
            return UNKNOWN;
        }
        return now.thirds.get(corner / 3)[corner % 3];
    }

    int side(int p, int q) {
        if (!post(p) || !post(q) || p == q) {
            return UNKNOWN;
        }
        return (holder(p, q) == NONE ? 0 : 1) + (holder(q, p) == NONE ? 0 : 1);
    }

    int arrow(int p, int q) {
        return !post(p) || !post(q) || p == q ? UNKNOWN : holder(p, q);
    }

    private int away(int[] third, int p, int q) {
        for (int x : third) {
            if (x != p && x != q) {
                return x;
            }
        }
        throw new IllegalStateException();
    }

    int turn(int p, int q) {
        if (side(p, q) <= 0) {
            return UNKNOWN;
        }
        if (side(p, q) == 1) {
            return STATE;
        }
        int a = holder(p, q);
        int b = holder(q, p);
        int r = away(now.thirds.get(a), p, q);
        int s = away(now.thirds.get(b), p, q);
        if (r == s || side(r, s) > 0) {
            return NO;
        }
        act();
        now.thirds.set(a, new int[] {p, s, r});
        now.thirds.set(b, new int[] {s, q, r});
        return 1;
    }

    private boolean has(int[] third, int p) {
        return third[0] == p || third[1] == p || third[2] == p;
    }

    /** How many heaps the thirds (at a post, or all with -1) make, joined by sides (at it). */
    private int heaps(int at) {
        int size = now.thirds.size();
        int[] heap = new int[size];
        for (int k = 0; k < size; k++) {
            heap[k] = k;
        }
        for (int p = 0; p < n; p++) {
            for (int q = 0; q < n; q++) {
                if (p != q && side(p, q) == 2 && (at < 0 || p == at || q == at)) {
                    int from = heap[holder(p, q)];
                    int to = heap[holder(q, p)];
                    for (int k = 0; k < size; k++) {
                        if (heap[k] == from) {
                            heap[k] = to;
                        }
                    }
                }
            }
        }
        List<Integer> names = new ArrayList<>();
        for (int k = 0; k < size; k++) {
            if ((at < 0 || has(now.thirds.get(k), at)) && !names.contains(heap[k])) {
                names.add(heap[k]);
            }
        }
        return names.size();
    }

    int about(int post, int what) {
        if (!post(post)) {
            return UNKNOWN;
        }
        int corners = 0;
        for (int[] third : now.thirds) {
            corners += has(third, post) ? 1 : 0;
        }
        int sides = 0;
        int rim = 0;
        for (int q = 0; q < n; q++) {
            if (q != post) {
                sides += side(post, q) > 0 ? 1 : 0;
                rim += side(post, q) == 1 ? 1 : 0;
            }
        }
        switch (what) {
            case 0: return corners;
            case 1: return sides;
            case 2: return corners > 0 && rim == 0 ? 1 : 0;
            case 3: return corners > 0 && heaps(post) == 1 ? 1 : 0;
            case 4: return now.sums[post];
            case 5:
                int[] row = row(least);
                return row == null ? NONE : at(row, post);
            default: return OUTSIDE;
        }
    }

    private int at(int[] row, int post) {
        int sum = 0;
        for (int c = 0; c < row.length; c++) {
            sum += at(c) == post ? row[c] : 0;
        }
        return sum;
    }

    int told(int what) {
        int used = 0;
        int sides = 0;
        int rim = 0;
        int sums = 0;
        for (int p = 0; p < n; p++) {
            used += about(p, 0) > 0 ? 1 : 0;
            sums += now.sums[p] == NONE ? 0 : now.sums[p];
            for (int q = p + 1; q < n; q++) {
                sides += side(p, q) > 0 ? 1 : 0;
                rim += side(p, q) == 1 ? 1 : 0;
            }
        }
        int[] answers = {n, now.thirds.size(), sides, rim, used - sides + now.thirds.size(),
            heaps(-1), straight, least, sums};
        return what < 0 || what > 8 ? -1002 : answers[what];
    }

    int straight(int angle) {
        if (angle < 6 || angle > 360 || 3 * least > angle) {
            return OUTSIDE;
        }
        int before = straight;
        straight = angle;
        return before;
    }

    int least(int m) {
        if (m < 1 || m > 60 || 3 * m > straight) {
            return OUTSIDE;
        }
        int before = least;
        least = m;
        return before;
    }

    int tell(int post, int sum) {
        if (!post(post)) {
            return UNKNOWN;
        }
        if (sum < -1 || sum > 4000) {
            return OUTSIDE;
        }
        int before = now.sums[post];
        act();
        now.sums[post] = sum == -1 ? NONE : sum;
        return before;
    }

    /** The first giving in the order of the numbers, corner by corner; null, if there is none. */
    int[] row(int m) {
        int[] row = new int[3 * now.thirds.size()];
        int[] left = now.sums.clone();
        int[] open = new int[n];
        for (int[] third : now.thirds) {
            for (int p : third) {
                open[p]++;
            }
        }
        return tryFrom(0, row, left, open, m) ? row : null;
    }

    private boolean tryFrom(int c, int[] row, int[] left, int[] open, int m) {
        for (int p = 0; p < n; p++) {
            if (left[p] != NONE && (left[p] < m * open[p] || left[p] > (straight - 2 * m) * open[p])) {
                return false;
            }
        }
        if (c == row.length) {
            return true;
        }
        int p = at(c);
        int most = straight - 2 * m;
        int fewest = m;
        if (c % 3 == 1) {
            most = straight - row[c - 1] - m;
        } else if (c % 3 == 2) {
            fewest = straight - row[c - 1] - row[c - 2];
            most = fewest;
        }
        open[p]--;
        for (int x = fewest; x <= most && (left[p] == NONE || x <= left[p]); x++) {
            row[c] = x;
            left[p] -= left[p] == NONE ? 0 : x;
            boolean good = tryFrom(c + 1, row, left, open, m);
            left[p] += left[p] == NONE ? 0 : x;
            if (good) {
                return true;
            }
        }
        open[p]++;
        return false;
    }

    boolean hasGiving(int m) {
        return row(m) != null;
    }

    int can() {
        return hasGiving(least) ? 1 : 0;
    }

    int angle(int corner) {
        if (at(corner) == UNKNOWN) {
            return UNKNOWN;
        }
        int[] row = row(least);
        return row == null ? NONE : row[corner];
    }

    int best() {
        for (int m = Math.min(60, straight / 3); m >= 1; m--) {
            if (hasGiving(m)) {
                return m;
            }
        }
        return NONE;
    }

    int bar(int what) {
        if (what < 0 || what > 2) {
            return OUTSIDE;
        }
        return hasGiving(least) ? 0 : fewestBar(what);
    }

    /** The same without a look whether there is a giving: a set that bars it can't be there then. */
    int fewestBar(int what) {
        int size = what == 0 ? now.thirds.size() : n;
        int found = 0;
        for (int count = 1; count <= size && found == 0; count++) {
            for (int set = 1; set < 1 << size && found == 0; set++) {
                if (Integer.bitCount(set) == count && (what == 0 ? barOfThirds(set) : barOfPosts(set, what))) {
                    found = set;
                }
            }
        }
        return found;
    }

    private boolean barOfThirds(int set) {
        boolean[] there = new boolean[n];
        int want = 0;
        for (int k = 0; k < now.thirds.size(); k++) {
            if ((set >> k & 1) == 1) {
                want += straight;
                for (int p : now.thirds.get(k)) {
                    there[p] = true;
                }
            }
        }
        int have = 0;
        for (int p = 0; p < n; p++) {
            if (there[p]) {
                if (now.sums[p] == NONE) {
                    return false;
                }
                have += now.sums[p];
                for (int k = 0; k < now.thirds.size(); k++) {
                    if ((set >> k & 1) == 0 && has(now.thirds.get(k), p)) {
                        have -= least;
                    }
                }
            }
        }
        return want > have;
    }

    private boolean barOfPosts(int set, int what) {
        int sums = 0;
        for (int p = 0; p < n; p++) {
            if ((set >> p & 1) == 1) {
                if (now.sums[p] == NONE) {
                    return false;
                }
                sums += now.sums[p];
            }
        }
        int give = 0;
        int must = 0;
        for (int[] third : now.thirds) {
            int in = 0;
            for (int p : third) {
                in += set >> p & 1;
            }
            if (in == 3) {
                give += straight;
                must += straight;
            } else if (in > 0) {
                give += straight - (3 - in) * least;
                must += in * least;
            }
        }
        return what == 1 ? sums > give : sums < must;
    }

    int opposite(int p, int q) {
        if (side(p, q) <= 0) {
            return UNKNOWN;
        }
        int[] row = row(least);
        return row == null ? NONE : opposite(row, p, q);
    }

    private int opposite(int[] row, int p, int q) {
        int sum = 0;
        for (int k = 0; k < now.thirds.size(); k++) {
            int[] third = now.thirds.get(k);
            for (int i = 0; i < 3; i++) {
                if (has(third, p) && has(third, q) && third[i] != p && third[i] != q) {
                    sum += row[3 * k + i];
                }
            }
        }
        return sum;
    }

    int fit() {
        int[] row = row(least);
        if (row == null) {
            return NONE;
        }
        int fits = 0;
        for (int p = 0; p < n; p++) {
            for (int q = 0; q < p; q++) {
                fits += side(p, q) == 2 && opposite(row, p, q) <= straight ? 1 : 0;
            }
        }
        return fits;
    }

    int undo() {
        if (past.isEmpty()) {
            return STATE;
        }
        future.add(now);
        now = past.remove(past.size() - 1);
        return past.size();
    }

    int redo() {
        if (future.isEmpty()) {
            return STATE;
        }
        past.add(now);
        now = future.remove(future.size() - 1);
        return future.size();
    }
}
