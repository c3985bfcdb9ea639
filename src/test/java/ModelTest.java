/** Promises 1 to 20: long runs of calls by chance on small nets, against the Model. */
public final class ModelTest {
    private static final int RUNS = 1500;
    private static final int CALLS = 120;
    /** As many calls as an object is used for; every 30th run is so long. */
    private static final int MOST_CALLS = 512;
    private static final int LONG_RUN = 30;
    private static final int HIGHEST_STRAIGHT = 12;

    public static void main(String[] args) {
        Check check = new Check("ModelTest");
        for (int number = 0; number < RUNS && check.wrong() < 10; number++) {
            Runs run = new Runs(check, number, new Model());
            // Trying every number is only quick for few thirds with low angles.
            run.keepSmall(run.among(1, 5), HIGHEST_STRAIGHT);
            run.start(run.among(3, 6), run.among(6, HIGHEST_STRAIGHT));
            run.goOn(number % LONG_RUN == 0 ? MOST_CALLS : CALLS);
        }
        check.end();
    }
}
