/** Promises 1 to 8: a new object, the operations on points, and what is asked of points. */
public final class PointsTest {
    private static final long INVALID = MovingHeap.INVALID_ARGUMENT;
    private static final long LIMIT = MovingHeap.LIMIT_REACHED;
    private static final long NOT_FOUND = MovingHeap.NOT_FOUND;

    private PointsTest() {
    }

    public static void main(String[] args) {
        promise1NewObject();
        promise2Insert();
        promise2Limits();
        promise3Remove();
        promise3LastOfTheHeap();
        promise4SetVelocity();
        promise5Jump();
        promise5LimitAfterInvalid();
        promise6Size();
        promise7Point();
        promise8At();
        Due.finish();
    }

    private static long[] heapOf(MovingHeap x) {
        long[] points = new long[x.size()];
        for (int k = 0; k < points.length; k++) {
            points[k] = x.at(k);
        }
        return points;
    }

    private static void promise1NewObject() {
        MovingHeap x = new MovingHeap();
        Due.is("size() of a new object", x.size(), 0);
        Due.is("time() of a new object", x.time(), 0);
        Due.is("at(0) of a new object", x.at(0), NOT_FOUND);
        Due.is("calendarSize() of a new object", x.calendarSize(), 0);
        Due.is("sizeAt(0) of a new object", x.sizeAt(0), 0);
        Due.is("forget() of a new object", x.forget(), 0);
        for (int what = 0; what < 3; what++) {
            Due.is("count of a new object", x.count(what), 0);
        }
        MovingHeap y = new MovingHeap();
        x.insert(1, 1);
        x.pass(5);
        Due.is("size() of another object", y.size(), 0);
        Due.is("time() of another object", y.time(), 0);
    }

    private static void promise2Insert() {
        MovingHeap x = new MovingHeap();
        Due.is("insert at the highest value", x.insert(1000000, 1000), 0);
        Due.is("insert at the lowest value", x.insert(-1000000, -1000), 1);
        Due.are("heap", heapOf(x), 1, 0);
        Due.is("exchanges", x.count(0), 1);
        Due.is("insert with an equal value", x.insert(-1000000, 0), 2);
        Due.are("heap", heapOf(x), 1, 0, 2);
        Due.is("value too high", x.insert(1000001, 0), INVALID);
        Due.is("value too low", x.insert(-1000001, 0), INVALID);
        Due.is("value lowest int", x.insert(Integer.MIN_VALUE, 0), INVALID);
        Due.is("velocity too high", x.insert(0, 1001), INVALID);
        Due.is("velocity too low", x.insert(0, -1001), INVALID);
        Due.is("velocity lowest int", x.insert(0, Integer.MIN_VALUE), INVALID);
        Due.is("size() after refused inserts", x.size(), 3);
        Due.is("operations after refused inserts", x.forget(), 3);
        x.remove(1);
        x.remove(0);
        Due.is("lowest free number", x.insert(5, 0), 0);
        Due.is("next free number", x.insert(6, 0), 1);
        Due.is("free number after all others", x.insert(7, 0), 3);
    }

    private static void promise2Limits() {
        MovingHeap x = new MovingHeap();
        for (int i = 0; i < 24; i++) {
            Due.is("insert", x.insert(i, 0), i);
        }
        Due.is("25th point", x.insert(0, 0), LIMIT);
        Due.is("25th point with a wrong value", x.insert(1000001, 0), INVALID);
        Due.is("size()", x.size(), 24);
        x.remove(7);
        Due.is("number that is free", x.insert(0, 0), 7);
        MovingHeap y = new MovingHeap();
        y.insert(0, 0);
        for (int i = 1; i < 200; i++) {
            Due.is("jump", y.jump(0, i), i - 1);
        }
        Due.is("201st operation insert", y.insert(0, 0), LIMIT);
        Due.is("201st operation insert, wrong", y.insert(0, 1001), INVALID);
        Due.is("201st operation remove", y.remove(0), LIMIT);
        Due.is("201st operation setVelocity", y.setVelocity(0, 0), LIMIT);
        Due.is("201st operation jump", y.jump(0, 0), LIMIT);
        Due.is("value after refused operations", y.point(0, 0), 199);
        Due.is("size() after refused operations", y.size(), 1);
        Due.is("forget()", y.forget(), 200);
        Due.is("operation after forget", y.insert(0, 0), 1);
    }

    private static void promise3Remove() {
        MovingHeap x = new MovingHeap();
        int[] values = {10, 30, 20, 40, 50, 25, 35};
        for (int value : values) {
            x.insert(value, 1);
        }
        Due.are("heap", heapOf(x), 0, 1, 2, 3, 4, 5, 6);
        Due.is("exchanges", x.count(0), 0);
        x.pass(2);
        // 35 comes to the place of 10. Certificate 1 goes first, though 20 is less than 30;
        // then certificate 2 exchanges 30 with 20, and certificate 5 exchanges 30 with 25.
        Due.is("remove(0)", x.remove(0), 12);
        Due.are("heap", heapOf(x), 2, 6, 5, 3, 4, 1);
        Due.is("exchanges", x.count(0), 3);
        Due.is("exchanges at the top", x.count(2), 2);
        Due.is("remove of what is gone", x.remove(0), INVALID);
        Due.is("remove(-1)", x.remove(-1), INVALID);
        Due.is("remove(24)", x.remove(24), INVALID);
        Due.is("remove(lowest int)", x.remove(Integer.MIN_VALUE), INVALID);
        Due.is("remove(highest int)", x.remove(Integer.MAX_VALUE), INVALID);
        Due.is("operations", x.forget(), 8);
    }

    private static void promise3LastOfTheHeap() {
        MovingHeap x = new MovingHeap();
        int[] values = {0, 100, 10, 110, 120, 20};
        for (int value : values) {
            x.insert(value, 0);
        }
        // 20 comes to the place of 110, and goes up past 100.
        Due.is("remove(3)", x.remove(3), 110);
        Due.are("heap", heapOf(x), 0, 5, 2, 1, 4);
        Due.is("exchanges", x.count(0), 1);
        Due.is("remove of the last one", x.remove(4), 120);
        Due.are("heap", heapOf(x), 0, 5, 2, 1);
        Due.is("exchanges", x.count(0), 1);
        x.remove(0);
        x.remove(1);
        x.remove(2);
        Due.is("remove of the only one", x.remove(5), 20);
        Due.is("size()", x.size(), 0);
        Due.is("at(0)", x.at(0), NOT_FOUND);
        Due.is("insert again", x.insert(3, 3), 0);
    }

    private static void promise4SetVelocity() {
        MovingHeap x = new MovingHeap();
        x.insert(0, 7);
        x.pass(10);
        Due.is("setVelocity(0, -1000)", x.setVelocity(0, -1000), 7);
        Due.is("value at this time", x.point(0, 0), 70);
        Due.is("velocity", x.point(0, 1), -1000);
        x.pass(11);
        Due.is("value later", x.point(0, 0), -930);
        Due.is("birth", x.point(0, 3), 0);
        Due.is("setVelocity(0, 1000)", x.setVelocity(0, 1000), -1000);
        Due.is("the same velocity", x.setVelocity(0, 1000), 1000);
        Due.is("velocity too high", x.setVelocity(0, 1001), INVALID);
        Due.is("velocity too low", x.setVelocity(0, -1001), INVALID);
        Due.is("no such point", x.setVelocity(1, 0), INVALID);
        Due.is("point -1", x.setVelocity(-1, 0), INVALID);
        Due.is("point 24", x.setVelocity(24, 0), INVALID);
        Due.is("velocity after wrong calls", x.point(0, 1), 1000);
        Due.is("operations", x.forget(), 4);
    }

    private static void promise5Jump() {
        MovingHeap x = new MovingHeap();
        x.insert(0, 3);
        x.insert(5, 3);
        x.insert(9, 3);
        x.pass(4);
        Due.is("jump up", x.jump(0, 1000000), 12);
        Due.is("value", x.point(0, 0), 1000000);
        Due.is("velocity", x.point(0, 1), 3);
        Due.is("birth", x.point(0, 3), 0);
        Due.are("heap", heapOf(x), 1, 0, 2);
        Due.is("jump down", x.jump(2, -1000000), 21);
        Due.are("heap", heapOf(x), 2, 0, 1);
        Due.is("exchanges", x.count(0), 2);
        x.pass(5);
        Due.is("value above the range of jump", x.point(0, 0), 1000003);
        Due.is("jump of that value", x.jump(0, 1), 1000003);
        Due.is("value too high", x.jump(0, 1000001), INVALID);
        Due.is("value too low", x.jump(0, -1000001), INVALID);
        Due.is("no such point", x.jump(3, 0), INVALID);
        Due.is("point -1", x.jump(-1, 0), INVALID);
        Due.is("point 24", x.jump(24, 0), INVALID);
        Due.is("value after wrong calls", x.point(0, 0), 1);
        Due.is("operations", x.forget(), 6);
    }

    private static void promise5LimitAfterInvalid() {
        MovingHeap x = new MovingHeap();
        x.insert(0, 0);
        for (int i = 1; i < 200; i++) {
            x.setVelocity(0, 0);
        }
        Due.is("jump of no point at the limit", x.jump(1, 0), INVALID);
        Due.is("jump to no value at the limit", x.jump(0, 1000001), INVALID);
        Due.is("setVelocity of no point at the limit", x.setVelocity(1, 0), INVALID);
        Due.is("setVelocity to none at the limit", x.setVelocity(0, 1001), INVALID);
        Due.is("remove of no point at the limit", x.remove(1), INVALID);
        Due.is("remove at the limit", x.remove(0), LIMIT);
    }

    private static void promise6Size() {
        MovingHeap x = new MovingHeap();
        x.insert(1, 0);
        x.insert(2, 0);
        Due.is("size() of two", x.size(), 2);
        x.remove(0);
        Due.is("size() of one", x.size(), 1);
        x.pass(100);
        x.forget();
        Due.is("size() later", x.size(), 1);
    }

    private static void promise7Point() {
        MovingHeap x = new MovingHeap();
        x.insert(10, 0);
        x.insert(10, -1);
        x.pass(3);
        x.insert(10, 5);
        x.insert(-4, 0);
        // Point 3 came to place 3, and went up past point 0 at place 1 and point 1 at place 0.
        long[][] due = {{10, 0, 3, 0, 2}, {7, -1, 1, 0, 1}, {10, 5, 2, 3, 3}, {-4, 0, 0, 3, 0}};
        for (int p = 0; p < 4; p++) {
            for (int what = 0; what < 5; what++) {
                Due.is("point(" + p + ", " + what + ")", x.point(p, what), due[p][what]);
            }
        }
        Due.is("what -1", x.point(0, -1), INVALID);
        Due.is("what 5", x.point(0, 5), INVALID);
        Due.is("no such point", x.point(4, 0), INVALID);
        Due.is("point -1", x.point(-1, 0), INVALID);
        Due.is("point 24", x.point(24, 0), INVALID);
        Due.is("point highest int", x.point(Integer.MAX_VALUE, 4), INVALID);
        x.remove(0);
        Due.is("point that was removed", x.point(0, 0), INVALID);
        x.pass(8);
        x.insert(0, 0);
        Due.is("birth of a number that was given again", x.point(0, 3), 8);
    }

    private static void promise8At() {
        MovingHeap x = new MovingHeap();
        x.insert(3, 0);
        x.insert(2, 0);
        x.insert(1, 0);
        Due.is("at(0)", x.at(0), 2);
        Due.is("at(1)", x.at(1), 0);
        Due.is("at(2)", x.at(2), 1);
        Due.is("at(3)", x.at(3), NOT_FOUND);
        Due.is("at(23)", x.at(23), NOT_FOUND);
        Due.is("at(24)", x.at(24), NOT_FOUND);
        Due.is("at(highest int)", x.at(Integer.MAX_VALUE), NOT_FOUND);
        Due.is("at(-1)", x.at(-1), INVALID);
        Due.is("at(lowest int)", x.at(Integer.MIN_VALUE), INVALID);
    }
}
