/** Promise 1: a new object. */
public final class NewObjectTest {
    public static void main(String[] args) {
        Check check = new Check("NewObjectTest");
        AngleNet net = new AngleNet();
        int[] due = {4, 0, 0, 0, 0, 0, 180, 1, 0};
        for (int what = 0; what < due.length; what++) {
            check.due("told(" + what + ")", net.told(what), due[what]);
        }
        for (int p = 0; p < 4; p++) {
            int[] of = {0, 0, 0, 0, AngleNet.NONE, 0};
            for (int what = 0; what < of.length; what++) {
                check.due("about(" + p + ", " + what + ")", net.about(p, what), of[what]);
            }
        }
        check.due("about(4, 0)", net.about(4, 0), AngleNet.UNKNOWN);
        check.due("undo()", net.undo(), AngleNet.STATE);
        check.due("redo()", net.redo(), AngleNet.STATE);
        check.due("can()", net.can(), 1);
        check.due("best()", net.best(), 60);
        check.due("fit()", net.fit(), 0);
        check.due("bar(0)", net.bar(0), 0);
        check.due("bar(1)", net.bar(1), 0);
        check.due("bar(2)", net.bar(2), 0);
        apart(check);
        check.end();
    }

    private static void apart(Check check) {
        AngleNet one = new AngleNet();
        AngleNet other = new AngleNet();
        one.third(0, 1, 2);
        one.tell(3, 7);
        one.straight(90);
        check.due("told(1) of another object", other.told(1), 0);
        check.due("told(6) of another object", other.told(6), 180);
        check.due("told(8) of another object", other.told(8), 0);
        check.due("undo() of another object", other.undo(), AngleNet.STATE);
    }
}
