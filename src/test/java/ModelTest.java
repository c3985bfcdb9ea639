import java.util.Random;

/** Promises 1 to 20: long runs of calls by chance, right and wrong ones, against the Model. */
public final class ModelTest {
    private static final int RUNS = 1500;
    private static final int CALLS = 120;
    /** As many calls as an object is used for, less those that start a run; every 30th run is so long. */
    private static final int MOST_CALLS = 510;
    private static final int LONG_RUN = 30;
    private static final String[] NAMES = {"posts", "third", "at", "side", "arrow", "turn", "about",
        "told", "straight", "least", "tell", "can", "angle", "best", "bar", "opposite", "fit", "undo", "redo"};
    /** How often each call comes, in the order of the names. */
    private static final int[] WEIGHTS = {1, 30, 8, 8, 8, 25, 14, 12, 5, 5, 30, 6, 14, 8, 14, 10, 6, 14, 10};

    private final Check check = new Check("ModelTest");
    private Random dice;
    private AngleNet net;
    private Model model;
    private int mostThirds;

    public static void main(String[] args) {
        ModelTest test = new ModelTest();
        for (int run = 0; run < RUNS && test.check.wrong() < 10; run++) {
            test.run(run);
        }
        test.check.end();
    }

    private void run(int number) {
        // Seeds next to each other throw much the same at first.
        dice = new Random(number * 0x9E3779B97F4A7C15L);
        net = new AngleNet();
        model = new Model();
        // Trying every number is only quick for few thirds with low angles.
        mostThirds = 1 + dice.nextInt(5);
        start(number);
        int calls = number % LONG_RUN == 0 ? MOST_CALLS : CALLS;
        for (int call = 0; call < calls; call++) {
            call("run " + number + " call " + call + " ", chosen());
        }
    }

    private void start(int number) {
        int posts = 3 + dice.nextInt(4);
        int straight = 6 + dice.nextInt(7);
        check.due("run " + number + " posts", net.posts(posts), model.posts(posts));
        check.due("run " + number + " straight", net.straight(straight), model.straight(straight));
    }

    private int chosen() {
        int all = 0;
        for (int weight : WEIGHTS) {
            all += weight;
        }
        int left = dice.nextInt(all);
        int which = 0;
        while (left >= WEIGHTS[which]) {
            left -= WEIGHTS[which];
            which++;
        }
        return which;
    }

    private int post() {
        return dice.nextInt(25) == 0 ? wild() : dice.nextInt(model.told(0));
    }

    private int wild() {
        int chance = dice.nextInt(20);
        if (chance >= 16) {
            return dice.nextInt();
        }
        return chance == 14 ? Integer.MIN_VALUE : chance == 15 ? Integer.MAX_VALUE : chance - 2;
    }

    private int among(int lowest, int highest) {
        return lowest + dice.nextInt(highest - lowest + 1);
    }

    /** A sum that fits a post often: near to what its corners have in the row. */
    private int sum(int post) {
        int chance = dice.nextInt(12);
        if (chance == 0) {
            return new int[] {-2, -1, 0, 4000, 4001, wild()}[dice.nextInt(6)];
        }
        if (chance == 1) {
            return -1;
        }
        int corners = Math.max(0, model.about(post, 0));
        int near = dice.nextInt(3) == 0 ? model.about(post, 5) : corners * model.told(6) / 3;
        return Math.max(0, near + among(-2, 2));
    }

    private void call(String place, int which) {
        int p = post();
        int q = post();
        int r = post();
        int what = dice.nextInt(40) == 0 ? wild() : among(-1, 9);
        String name = place + NAMES[which] + "(" + p + ", " + q + ", " + r + "; " + what + ")";
        switch (which) {
            case 0: due(name, net.posts(p), model.posts(p)); break;
            case 1:
                if (model.told(1) < mostThirds) {
                    due(name, net.third(p, q, r), model.third(p, q, r));
                }
                break;
            case 2: due(name, net.at(what), model.at(what)); break;
            case 3: due(name, net.side(p, q), model.side(p, q)); break;
            case 4: due(name, net.arrow(p, q), model.arrow(p, q)); break;
            case 5: due(name, net.turn(p, q), model.turn(p, q)); break;
            case 6: due(name, net.about(p, what), model.about(p, what)); break;
            case 7: due(name, net.told(what), model.told(what)); break;
            case 8:
                int n = dice.nextInt(40) == 0 ? -Math.abs(wild()) : among(4, 12);
                due(name + n, net.straight(n), model.straight(n));
                break;
            case 9:
                int m = dice.nextInt(40) == 0 ? wild() : among(0, 5);
                due(name + m, net.least(m), model.least(m));
                break;
            case 10:
                int sum = sum(p);
                due(name + sum, net.tell(p, sum), model.tell(p, sum));
                break;
            case 11: due(name, net.can(), model.can()); break;
            case 12:
                int corner = among(-1, 3 * model.told(1));
                due(name + corner, net.angle(corner), model.angle(corner));
                break;
            case 13: due(name, net.best(), model.best()); break;
            case 14: due(name, net.bar(what / 2), model.bar(what / 2)); break;
            case 15: due(name, net.opposite(p, q), model.opposite(p, q)); break;
            case 16: due(name, net.fit(), model.fit()); break;
            case 17: due(name, net.undo(), model.undo()); break;
            default: due(name, net.redo(), model.redo()); break;
        }
    }

    private void due(String call, int got, int want) {
        check.due(call, got, want);
    }
}
