import java.util.Random;

/** Runs of calls by chance, right and wrong ones, each answer against that of a Model. */
final class Runs {
    private static final String[] NAMES = {"posts", "third", "at", "side", "arrow", "turn", "about",
        "told", "straight", "least", "tell", "can", "angle", "best", "bar", "opposite", "fit", "undo", "redo"};
    /** How often each call comes, in the order of the names. */
    private static final int[] WEIGHTS = {1, 30, 8, 8, 8, 25, 14, 12, 5, 5, 30, 6, 14, 8, 14, 10, 6, 14, 10};

    private final Check check;
    private final Random dice;
    private final AngleNet net;
    private final Model model;
    private final String name;
    private int mostThirds = 12;
    private int highestStraight = 360;
    private int made = 0;

    /** A run has the name of its number, by which it is the same each time. */
    Runs(Check check, int number, Model model) {
        this.check = check;
        this.model = model;
        // Seeds next to each other throw much the same at first.
        dice = new Random(number * 0x9E3779B97F4A7C15L);
        net = new AngleNet();
        name = "run " + number + " call ";
    }

    /** Keeps the net so small that every number can be tried for every corner. */
    void keepSmall(int thirds, int straight) {
        mostThirds = thirds;
        highestStraight = straight;
    }

    int among(int lowest, int highest) {
        return lowest + dice.nextInt(highest - lowest + 1);
    }

    void start(int posts, int straight) {
        due("posts(" + posts + ")", net.posts(posts), model.posts(posts));
        due("straight(" + straight + ")", net.straight(straight), model.straight(straight));
    }

    /** Asks for so many thirds: about one in three goes, and fewer when the net is nearly full. */
    void fill(int thirds) {
        for (int ask = 0; ask < thirds; ask++) {
            int p = dice.nextInt(model.told(0));
            callThird(p, dice.nextInt(model.told(0)), dice.nextInt(model.told(0)));
        }
    }

    /** Goes on until so many calls were made of the object. */
    void goOn(int calls) {
        while (made < calls) {
            call(chosen());
        }
    }

    private int chosen() {
        int all = 0;
        for (int weight : WEIGHTS) {
            all += weight;
        }
        int left = dice.nextInt(all);
        int which = 0;
        while (left >= WEIGHTS[which]) {
            left -= WEIGHTS[which];
            which++;
        }
        return which;
    }

    private int post() {
        return dice.nextInt(25) == 0 ? wild() : dice.nextInt(model.told(0));
    }

    private int wild() {
        int chance = dice.nextInt(20);
        if (chance >= 16) {
            return dice.nextInt();
        }
        return chance == 14 ? Integer.MIN_VALUE : chance == 15 ? Integer.MAX_VALUE : chance - 2;
    }

    /** A sum that fits a post often: near to what its corners have in the row. */
    private int sum(int post) {
        int chance = dice.nextInt(12);
        if (chance == 0) {
            return new int[] {-2, -1, 0, 4000, 4001, wild()}[dice.nextInt(6)];
        }
        int inRow = model.about(post, 5);
        // Without a giving most sums would keep it so: half of them are taken away.
        if (chance == 1 || inRow == AngleNet.NONE && dice.nextBoolean()) {
            return -1;
        }
        int corners = Math.max(0, model.about(post, 0));
        int near = inRow >= 0 && chance < 7 ? inRow : corners * model.told(6) / 3;
        return Math.max(0, near + (dice.nextBoolean() ? 0 : among(-2, 2)));
    }

    private int straight() {
        if (dice.nextInt(40) == 0) {
            return -Math.abs(wild());
        }
        return highestStraight == 360 && dice.nextInt(8) == 0 ? among(359, 361) : among(4, highestStraight);
    }

    private int least() {
        return dice.nextInt(40) == 0 ? wild() : among(0, highestStraight / 6 + 3) / among(1, 3);
    }

    private void call(int which) {
        int p = post();
        int q = post();
        int what = dice.nextInt(40) == 0 ? wild() : among(-1, 9);
        switch (which) {
            case 0 -> callPosts(dice.nextInt(10) == 0 ? wild() : among(2, 10));
            case 1 -> callThird(p, q, post());
            case 2 -> callCorner("at", false);
            case 3 -> due("side" + pair(p, q), net.side(p, q), model.side(p, q));
            case 4 -> due("arrow" + pair(p, q), net.arrow(p, q), model.arrow(p, q));
            case 5 -> callTurn(p, q);
            case 6 -> due("about" + pair(p, what), net.about(p, what), model.about(p, what));
            case 7 -> due("told(" + what + ")", net.told(what), model.told(what));
            case 8 -> callStraight(straight());
            case 9 -> callLeast(least());
            case 10 -> callTell(p, sum(p));
            case 11 -> due("can()", net.can(), model.can());
            case 12 -> callCorner("angle", true);
            case 13 -> due("best()", net.best(), model.best());
            case 14 -> due("bar(" + what / 2 + ")", net.bar(what / 2), model.bar(what / 2));
            case 15 -> due("opposite" + pair(p, q), net.opposite(p, q), model.opposite(p, q));
            case 16 -> due("fit()", net.fit(), model.fit());
            case 17 -> due("undo()", net.undo(), model.undo());
            default -> due("redo()", net.redo(), model.redo());
        }
    }

    private void callPosts(int n) {
        due("posts(" + n + ")", net.posts(n), model.posts(n));
    }

    private void callThird(int p, int q, int r) {
        // The last third of the document may be asked for, that of a smaller net not.
        if (mostThirds == 12 || model.told(1) < mostThirds) {
            due("third(" + p + ", " + q + ", " + r + ")", net.third(p, q, r), model.third(p, q, r));
        }
    }

    private void callCorner(String call, boolean angle) {
        int corner = dice.nextInt(40) == 0 ? wild() : among(-1, 3 * model.told(1));
        due(call + "(" + corner + ")", angle ? net.angle(corner) : net.at(corner),
            angle ? model.angle(corner) : model.at(corner));
    }

    /** Pairs by chance are mostly no sides: half of the turns go along an arrow that is there. */
    private void callTurn(int p, int q) {
        int corner = dice.nextInt(36);
        boolean along = dice.nextBoolean() && corner < 3 * model.told(1);
        int from = along ? model.at(corner) : p;
        int to = along ? model.at(corner % 3 == 2 ? corner - 2 : corner + 1) : q;
        due("turn" + pair(from, to), net.turn(from, to), model.turn(from, to));
    }

    private void callStraight(int n) {
        due("straight(" + n + ")", net.straight(n), model.straight(n));
    }

    private void callLeast(int m) {
        due("least(" + m + ")", net.least(m), model.least(m));
    }

    private void callTell(int p, int sum) {
        due("tell" + pair(p, sum), net.tell(p, sum), model.tell(p, sum));
    }

    private static String pair(int p, int q) {
        return "(" + p + ", " + q + ")";
    }

    private void due(String call, int got, int want) {
        made++;
        check.due(name + made + " " + call, got, want);
    }
}
