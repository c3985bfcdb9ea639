/** Promises 1 to 20: runs of 512 calls by chance on nets up to the limits, against the WideModel. */
public final class WideTest {
    private static final int RUNS = 120;
    private static final int CALLS = 512;

    public static void main(String[] args) {
        Check check = new Check("WideTest");
        for (int number = 0; number < RUNS && check.wrong() < 10; number++) {
            Runs run = new Runs(check, number, new WideModel());
            run.start(run.among(4, 9), run.among(6, 360));
            run.fill(run.among(0, 80));
            run.goOn(CALLS);
        }
        check.end();
    }
}
