/** Promises 18 to 24: answers as of earlier moments, and what is forgotten. */
public final class MomentsTest {
    private static final long INVALID = MovingHeap.INVALID_ARGUMENT;
    private static final long NOT_POSSIBLE = MovingHeap.NOT_POSSIBLE;
    private static final long NOT_FOUND = MovingHeap.NOT_FOUND;

    private MomentsTest() {
    }

    public static void main(String[] args) {
        promise18TopAt();
        promise19ValueAt();
        promise20OrderAt();
        promise21SizeAt();
        promise22TopChanges();
        promise22Ranges();
        promise23LeastBetween();
        promise23Ranges();
        promise24Forget();
        promise24ForgetWithinATime();
        promise24LimitsAgain();
        Due.finish();
    }

    /** Nothing at 0; then points 0 and 1 from 10 on; 1 gone at 20; 1 again at 30; none at 40. */
    private static MovingHeap changing() {
        MovingHeap x = new MovingHeap();
        x.pass(10);
        x.insert(100, 0);
        x.insert(105, -1);
        x.pass(20);
        x.remove(1);
        x.pass(30);
        x.insert(90, 1);
        x.setVelocity(0, -2);
        x.pass(40);
        x.remove(0);
        x.remove(1);
        x.pass(50);
        return x;
    }

    private static void wrongMoments(String call, long... answers) {
        for (long answer : answers) {
            Due.is(call + " at a wrong time", answer, INVALID);
        }
    }

    private static void promise18TopAt() {
        MovingHeap x = changing();
        Due.is("topAt(0)", x.topAt(0), NOT_FOUND);
        Due.is("topAt(9)", x.topAt(9), NOT_FOUND);
        Due.is("topAt(10)", x.topAt(10), 0);
        Due.is("topAt(15), equal values", x.topAt(15), 0);
        Due.is("topAt(16)", x.topAt(16), 1);
        Due.is("topAt(19)", x.topAt(19), 1);
        Due.is("topAt(20)", x.topAt(20), 0);
        Due.is("topAt(29)", x.topAt(29), 0);
        Due.is("topAt(30)", x.topAt(30), 1);
        // 90 + 3 against 100 - 6 at time 33, 94 against 92 at time 34.
        Due.is("topAt(33)", x.topAt(33), 1);
        Due.is("topAt(34)", x.topAt(34), 0);
        Due.is("topAt(39)", x.topAt(39), 0);
        Due.is("topAt(40)", x.topAt(40), NOT_FOUND);
        Due.is("topAt(50)", x.topAt(50), NOT_FOUND);
        wrongMoments("topAt", x.topAt(-1), x.topAt(51), x.topAt(Integer.MIN_VALUE),
            x.topAt(Integer.MAX_VALUE));
        x.insert(1, 0);
        Due.is("topAt(50) of the present state", x.topAt(50), 0);
        x.forget();
        Due.is("topAt(49) forgotten", x.topAt(49), NOT_POSSIBLE);
        Due.is("topAt(-1) forgotten", x.topAt(-1), INVALID);
        Due.is("topAt(50) after forget", x.topAt(50), 0);
    }

    private static void promise19ValueAt() {
        MovingHeap x = changing();
        Due.is("valueAt(0, 9)", x.valueAt(0, 9), NOT_FOUND);
        Due.is("valueAt(0, 10)", x.valueAt(0, 10), 100);
        Due.is("valueAt(1, 10)", x.valueAt(1, 10), 105);
        Due.is("valueAt(1, 19)", x.valueAt(1, 19), 96);
        Due.is("valueAt(1, 20)", x.valueAt(1, 20), NOT_FOUND);
        Due.is("valueAt(1, 29)", x.valueAt(1, 29), NOT_FOUND);
        Due.is("valueAt(1, 30)", x.valueAt(1, 30), 90);
        Due.is("valueAt(0, 29)", x.valueAt(0, 29), 100);
        Due.is("valueAt(0, 30)", x.valueAt(0, 30), 100);
        Due.is("valueAt(0, 31)", x.valueAt(0, 31), 98);
        Due.is("valueAt(0, 40)", x.valueAt(0, 40), NOT_FOUND);
        Due.is("valueAt(23, 15)", x.valueAt(23, 15), NOT_FOUND);
        Due.is("valueAt(24, 15)", x.valueAt(24, 15), INVALID);
        Due.is("valueAt(-1, 15)", x.valueAt(-1, 15), INVALID);
        Due.is("valueAt(lowest int, 15)", x.valueAt(Integer.MIN_VALUE, 15), INVALID);
        wrongMoments("valueAt", x.valueAt(0, -1), x.valueAt(0, 51),
            x.valueAt(0, Integer.MIN_VALUE), x.valueAt(0, Integer.MAX_VALUE));
        x.insert(7, 0);
        x.jump(0, 8);
        Due.is("valueAt(0, 50) after two operations", x.valueAt(0, 50), 8);
        x.forget();
        Due.is("valueAt(0, 49)", x.valueAt(0, 49), NOT_POSSIBLE);
        Due.is("valueAt(24, 49)", x.valueAt(24, 49), INVALID);
        Due.is("valueAt(0, 50)", x.valueAt(0, 50), 8);
    }

    private static void promise20OrderAt() {
        MovingHeap x = new MovingHeap();
        x.insert(5, 0);
        x.insert(5, 0);
        x.insert(0, 2);
        x.pass(2);
        x.insert(5, -1);
        x.pass(10);
        long[][] due = {{2, 0, 1}, {2, 0, 1}, {2, 0, 1, 3}, {3, 0, 1, 2}};
        for (int t = 0; t < due.length; t++) {
            for (int place = 0; place < due[t].length; place++) {
                Due.is("orderAt(" + place + ", " + t + ")", x.orderAt(place, t), due[t][place]);
            }
            Due.is("orderAt past the last at " + t, x.orderAt(due[t].length, t), NOT_FOUND);
        }
        Due.is("orderAt(24, 10)", x.orderAt(24, 10), NOT_FOUND);
        Due.is("orderAt(highest int, 10)", x.orderAt(Integer.MAX_VALUE, 10), NOT_FOUND);
        Due.is("orderAt(-1, 10)", x.orderAt(-1, 10), INVALID);
        Due.is("orderAt(lowest int, 10)", x.orderAt(Integer.MIN_VALUE, 10), INVALID);
        wrongMoments("orderAt", x.orderAt(0, -1), x.orderAt(0, 11), x.orderAt(9, 11));
        x.forget();
        Due.is("orderAt(0, 9)", x.orderAt(0, 9), NOT_POSSIBLE);
        Due.is("orderAt(9, 9)", x.orderAt(9, 9), NOT_POSSIBLE);
        Due.is("orderAt(-1, 9)", x.orderAt(-1, 9), INVALID);
        Due.is("orderAt(0, 10)", x.orderAt(0, 10), 3);
    }

    private static void promise21SizeAt() {
        MovingHeap x = changing();
        int[] moments = {0, 9, 10, 19, 20, 29, 30, 39, 40, 50};
        int[] due = {0, 0, 2, 2, 1, 1, 2, 2, 0, 0};
        for (int i = 0; i < moments.length; i++) {
            Due.is("sizeAt(" + moments[i] + ")", x.sizeAt(moments[i]), due[i]);
        }
        wrongMoments("sizeAt", x.sizeAt(-1), x.sizeAt(51), x.sizeAt(Integer.MIN_VALUE),
            x.sizeAt(Integer.MAX_VALUE));
        x.insert(1, 1);
        Due.is("sizeAt(50) at present", x.sizeAt(50), 1);
        x.forget();
        Due.is("sizeAt(49)", x.sizeAt(49), NOT_POSSIBLE);
        Due.is("sizeAt(51)", x.sizeAt(51), INVALID);
        Due.is("sizeAt(50)", x.sizeAt(50), 1);
    }

    private static void promise22TopChanges() {
        MovingHeap x = changing();
        // The top is none, 0 at 10, 1 at 16, 0 at 20, 1 at 30, 0 at 34, none at 40.
        Due.is("topChanges(1, 50)", x.topChanges(1, 50), 6);
        Due.is("topChanges(1, 9)", x.topChanges(1, 9), 0);
        Due.is("topChanges(10, 10)", x.topChanges(10, 10), 1);
        Due.is("topChanges(11, 15)", x.topChanges(11, 15), 0);
        Due.is("topChanges(16, 16)", x.topChanges(16, 16), 1);
        Due.is("topChanges(17, 30)", x.topChanges(17, 30), 2);
        Due.is("topChanges(31, 40)", x.topChanges(31, 40), 2);
        Due.is("topChanges(41, 50)", x.topChanges(41, 50), 0);
        MovingHeap y = new MovingHeap();
        y.insert(5, 0);
        y.pass(3);
        y.remove(0);
        y.insert(9, 0);
        y.insert(2, 0);
        y.remove(1);
        y.pass(6);
        // Another point, but the same number; and what happened within time 3 is not seen.
        Due.is("topChanges of a number given again", y.topChanges(1, 6), 0);
        y.remove(0);
        Due.is("topChanges up to the present state", y.topChanges(6, 6), 1);
    }

    private static void promise22Ranges() {
        MovingHeap x = new MovingHeap();
        Due.is("topChanges(1, 1) at time 0", x.topChanges(1, 1), INVALID);
        x.insert(0, 1);
        x.insert(600, 0);
        x.pass(1000);
        Due.is("topChanges(0, 5)", x.topChanges(0, 5), INVALID);
        Due.is("topChanges(-1, 5)", x.topChanges(-1, 5), INVALID);
        Due.is("topChanges(lowest int, 5)", x.topChanges(Integer.MIN_VALUE, 5), INVALID);
        Due.is("topChanges(5, 4)", x.topChanges(5, 4), INVALID);
        Due.is("topChanges(1000, 1001)", x.topChanges(1000, 1001), INVALID);
        Due.is("topChanges(1001, 1001)", x.topChanges(1001, 1001), INVALID);
        Due.is("topChanges(5, highest int)", x.topChanges(5, Integer.MAX_VALUE), INVALID);
        Due.is("topChanges(101, 601)", x.topChanges(101, 601), 1);
        Due.is("topChanges(101, 602)", x.topChanges(101, 602), INVALID);
        Due.is("topChanges(101, 600)", x.topChanges(101, 600), 0);
        Due.is("topChanges(602, 1000)", x.topChanges(602, 1000), 0);
        x.forget();
        x.pass(1010);
        Due.is("topChanges(1000, 1010)", x.topChanges(1000, 1010), NOT_POSSIBLE);
        Due.is("topChanges(1001, 1010)", x.topChanges(1001, 1010), 0);
        Due.is("topChanges(1, 1010)", x.topChanges(1, 1010), INVALID);
        Due.is("topChanges(0, 10)", x.topChanges(0, 10), INVALID);
    }

    private static void promise23LeastBetween() {
        MovingHeap x = changing();
        Due.is("leastBetween(0, 9)", x.leastBetween(0, 9), NOT_FOUND);
        Due.is("leastBetween(0, 10)", x.leastBetween(0, 10), 100);
        Due.is("leastBetween(10, 19)", x.leastBetween(10, 19), 96);
        Due.is("leastBetween(18, 18)", x.leastBetween(18, 18), 97);
        Due.is("leastBetween(17, 25)", x.leastBetween(17, 25), 96);
        Due.is("leastBetween(20, 29)", x.leastBetween(20, 29), 100);
        Due.is("leastBetween(20, 30)", x.leastBetween(20, 30), 90);
        Due.is("leastBetween(31, 33)", x.leastBetween(31, 33), 91);
        // 100 - 18 at time 39; the points are gone at time 40.
        Due.is("leastBetween(0, 50)", x.leastBetween(0, 50), 82);
        Due.is("leastBetween(40, 50)", x.leastBetween(40, 50), NOT_FOUND);
        MovingHeap y = new MovingHeap();
        y.insert(0, -5);
        y.pass(3);
        y.jump(0, -99);
        y.jump(0, 50);
        // -15 at time 3 was not the state after all operations, nor was -99.
        Due.is("leastBetween(0, 3)", y.leastBetween(0, 3), -10);
        Due.is("leastBetween(3, 3)", y.leastBetween(3, 3), 50);
    }

    private static void promise23Ranges() {
        MovingHeap x = new MovingHeap();
        Due.is("leastBetween(0, 0) without points", x.leastBetween(0, 0), NOT_FOUND);
        x.insert(0, 1);
        Due.is("leastBetween(0, 0)", x.leastBetween(0, 0), 0);
        x.pass(1000);
        Due.is("leastBetween(-1, 5)", x.leastBetween(-1, 5), INVALID);
        Due.is("leastBetween(lowest int, 5)", x.leastBetween(Integer.MIN_VALUE, 5), INVALID);
        Due.is("leastBetween(5, 4)", x.leastBetween(5, 4), INVALID);
        Due.is("leastBetween(1000, 1001)", x.leastBetween(1000, 1001), INVALID);
        Due.is("leastBetween(1001, 1001)", x.leastBetween(1001, 1001), INVALID);
        Due.is("leastBetween(0, highest int)", x.leastBetween(0, Integer.MAX_VALUE), INVALID);
        Due.is("leastBetween(100, 600)", x.leastBetween(100, 600), 100);
        Due.is("leastBetween(100, 601)", x.leastBetween(100, 601), INVALID);
        x.forget();
        x.pass(1010);
        Due.is("leastBetween(999, 1010)", x.leastBetween(999, 1010), NOT_POSSIBLE);
        Due.is("leastBetween(1000, 1010)", x.leastBetween(1000, 1010), 1000);
        Due.is("leastBetween(1, 1010)", x.leastBetween(1, 1010), INVALID);
    }

    private static void promise24Forget() {
        MovingHeap x = changing();
        Due.is("forget()", x.forget(), 7);
        Due.is("forget() again", x.forget(), 0);
        x.insert(4, -1);
        x.insert(5, 0);
        x.pass(60);
        Due.is("forget() of two operations", x.forget(), 2);
        Due.is("value after forget", x.point(0, 0), -6);
        Due.is("birth after forget", x.point(0, 3), 50);
        Due.is("valueAt(0, 60)", x.valueAt(0, 60), -6);
        Due.is("valueAt(0, 59)", x.valueAt(0, 59), NOT_POSSIBLE);
        x.pass(70);
        x.setVelocity(0, 0);
        x.remove(1);
        x.pass(80);
        Due.is("valueAt(0, 65) on the old line", x.valueAt(0, 65), -11);
        Due.is("valueAt(1, 69)", x.valueAt(1, 69), 5);
        Due.is("valueAt(1, 70)", x.valueAt(1, 70), NOT_FOUND);
        Due.is("valueAt(0, 80)", x.valueAt(0, 80), -16);
        Due.is("sizeAt(60)", x.sizeAt(60), 2);
        Due.is("topAt(60)", x.topAt(60), 0);
        Due.is("forget() of two more", x.forget(), 2);
    }

    private static void promise24ForgetWithinATime() {
        MovingHeap x = new MovingHeap();
        x.pass(5);
        x.insert(1, 0);
        x.forget();
        x.insert(-1, 0);
        Due.is("topAt(5)", x.topAt(5), 1);
        Due.is("topAt(4)", x.topAt(4), NOT_POSSIBLE);
        x.pass(6);
        x.remove(1);
        Due.is("the state at 5 after all its operations", x.topAt(5), 1);
        Due.is("sizeAt(5)", x.sizeAt(5), 2);
        Due.is("topChanges(6, 6)", x.topChanges(6, 6), 1);
        Due.is("topChanges(5, 6)", x.topChanges(5, 6), NOT_POSSIBLE);
        Due.is("leastBetween(5, 6)", x.leastBetween(5, 6), -1);
        MovingHeap y = new MovingHeap();
        y.forget();
        Due.is("topAt(0) after a first forget", y.topAt(0), NOT_FOUND);
    }

    private static void promise24LimitsAgain() {
        MovingHeap x = new MovingHeap();
        x.insert(0, 1);
        for (int i = 1; i < 200; i++) {
            x.pass(i);
            x.jump(0, -i);
        }
        Due.is("a jump too many", x.jump(0, 0), MovingHeap.LIMIT_REACHED);
        Due.is("leastBetween(0, 199)", x.leastBetween(0, 199), -199);
        Due.is("valueAt(0, 100)", x.valueAt(0, 100), -100);
        Due.is("forget()", x.forget(), 200);
        Due.is("jump after forget", x.jump(0, 3), -199);
        Due.is("valueAt(0, 199)", x.valueAt(0, 199), 3);
        Due.is("forget() of one", x.forget(), 1);
    }
}
