/** The Model for nets up to the limits of the document: givings are found by the Sets of posts. */
final class WideModel extends Model {
    @Override
    int[] row(int m) {
        return sets().row(m);
    }

    @Override
    boolean hasGiving(int m) {
        return sets().allow(m);
    }

    private Sets sets() {
        int[] at = new int[3 * told(1)];
        for (int c = 0; c < at.length; c++) {
            at[c] = at(c);
        }
        int[] sums = new int[told(0)];
        for (int p = 0; p < sums.length; p++) {
            sums[p] = about(p, 4);
        }
        return new Sets(told(6), at, sums);
    }
}
