import java.util.ArrayList;
import java.util.List;
import java.util.Random;

/**
 * Promises 13 to 18 on nets up to the limits of the document, where the Model is too slow. A row
 * that is a giving is THE ROW, if none of its corners can be lower while all before it stay.
 */
public final class LargeTest {
    private static final int RUNS = 1200;
    private static final int UNTOLD = -6;

    private final Check check = new Check("LargeTest");
    private Random dice;
    private AngleNet net;
    private int posts;
    private int[] at;
    private int[] sums;
    private int straight;
    private Sets sets;

    public static void main(String[] args) {
        LargeTest test = new LargeTest();
        int possible = 0;
        for (int run = 0; run < RUNS && test.check.wrong() < 10; run++) {
            possible += test.run(run);
        }
        test.check.holds("many runs with a giving, many without: " + possible, possible > RUNS / 5 && possible < RUNS * 4 / 5);
        test.check.end();
    }

    private int run(int number) {
        // Seeds next to each other throw much the same at first.
        dice = new Random(number * 0x9E3779B97F4A7C15L);
        build();
        tellSums();
        look();
        String run = "run " + number + " ";
        int m = net.told(7);
        boolean can = sets.allow(m);
        check.due(run + "can()", net.can(), can ? 1 : 0);
        check.due(run + "best()", net.best(), best());
        check.due(run + "can() after best()", net.can(), can ? 1 : 0);
        if (can) {
            checkRow(run, Nets.row(net), m);
        } else {
            check.holds(run + "a bar of posts", net.bar(1) != 0 || net.bar(2) != 0);
            checkBars(run);
            for (int c = 0; c < at.length; c++) {
                check.due(run + "angle(" + c + ")", net.angle(c), AngleNet.NONE);
            }
        }
        return can ? 1 : 0;
    }

    private void build() {
        net = new AngleNet();
        net.posts(3 + dice.nextInt(7));
        posts = net.told(0);
        straight = dice.nextBoolean() ? 180 : 6 + dice.nextInt(355);
        net.straight(straight);
        net.least(1 + dice.nextInt(Math.min(60, straight / 3)) / (1 + dice.nextInt(6)));
        for (int tries = 0; tries < 200; tries++) {
            net.third(dice.nextInt(posts), dice.nextInt(posts), dice.nextInt(posts));
        }
    }

    /** Sums that a giving by chance has at most of the posts, then some of them a little off. */
    private void tellSums() {
        int m = net.told(7);
        int[] have = new int[posts];
        int thirds = net.told(1);
        for (int k = 0; k < thirds; k++) {
            int first = m + dice.nextInt(straight - 3 * m + 1);
            int second = m + dice.nextInt(straight - first - 2 * m + 1);
            have[net.at(3 * k)] += first;
            have[net.at(3 * k + 1)] += second;
            have[net.at(3 * k + 2)] += straight - first - second;
        }
        int untold = dice.nextInt(4);
        int off = dice.nextInt(3);
        for (int p = 0; p < posts; p++) {
            if (dice.nextInt(9) >= untold) {
                int wrong = off > 0 && dice.nextInt(3) == 0 ? dice.nextInt(41) - 20 : 0;
                net.tell(p, Math.min(4000, Math.max(0, have[p] + wrong)));
            }
        }
    }

    private void look() {
        at = Nets.corners(net);
        sums = new int[posts];
        for (int p = 0; p < posts; p++) {
            sums[p] = net.about(p, 4);
        }
        sets = new Sets(straight, at, sums);
    }

    private int best() {
        for (int m = Math.min(60, straight / 3); m >= 1; m--) {
            if (sets.allow(m)) {
                return m;
            }
        }
        return AngleNet.NONE;
    }

    private void checkRow(String run, int[] row, int m) {
        int[] have = new int[posts];
        for (int c = 0; c < row.length; c++) {
            check.holds(run + "angle(" + c + ") is the least or more", row[c] >= m);
            have[at[c]] += row[c];
            if (c % 3 == 2) {
                check.due(run + "third " + c / 3, row[c] + row[c - 1] + row[c - 2], straight);
            }
            if (row[c] > m) {
                int[] lower = row.clone();
                lower[c]--;
                check.holds(run + "angle(" + c + ") can't be lower", !sets.allow(c + 1, lower, m));
            }
        }
        for (int p = 0; p < posts; p++) {
            check.due(run + "about(" + p + ", 5)", net.about(p, 5), have[p]);
            if (sums[p] != UNTOLD) {
                check.due(run + "sum of post " + p, have[p], sums[p]);
            }
        }
        checkBars(run);
        checkFit(run, row);
    }

    private void checkBars(String run) {
        Model model = new Model();
        model.posts(posts);
        model.straight(straight);
        model.least(net.told(7));
        for (int c = 0; c < at.length; c += 3) {
            model.third(at[c], at[c + 1], at[c + 2]);
        }
        for (int p = 0; p < posts; p++) {
            if (sums[p] != UNTOLD) {
                model.tell(p, sums[p]);
            }
        }
        for (int what = 0; what < 3; what++) {
            check.due(run + "bar(" + what + ")", net.bar(what), model.fewestBar(what));
        }
    }

    private void checkFit(String run, int[] row) {
        List<Integer> opposite = new ArrayList<>();
        for (int p = 0; p < posts; p++) {
            for (int q = p + 1; q < posts; q++) {
                int together = 0;
                int thirds = 0;
                for (int k = 0; k < row.length / 3; k++) {
                    int third = 1 << at[3 * k] | 1 << at[3 * k + 1] | 1 << at[3 * k + 2];
                    int ends = 1 << p | 1 << q;
                    if ((third & ends) == ends) {
                        thirds++;
                        for (int c = 3 * k; c < 3 * k + 3; c++) {
                            together += (ends >> at[c] & 1) == 0 ? row[c] : 0;
                        }
                    }
                }
                check.due(run + "opposite(" + p + ", " + q + ")", net.opposite(p, q),
                    thirds == 0 ? AngleNet.UNKNOWN : together);
                check.due(run + "opposite(" + q + ", " + p + ")", net.opposite(q, p), net.opposite(p, q));
                if (thirds == 2 && together <= straight) {
                    opposite.add(together);
                }
            }
        }
        check.due(run + "fit()", net.fit(), opposite.size());
    }
}
