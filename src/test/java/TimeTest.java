/** Promises 9 to 12: the passing of time, and the counts. */
public final class TimeTest {
    private static final long INVALID = MovingHeap.INVALID_ARGUMENT;
    private static final long NOT_FOUND = MovingHeap.NOT_FOUND;

    private TimeTest() {
    }

    public static void main(String[] args) {
        promise9Pass();
        promise9SeveralFailuresAtOnce();
        promise9Range();
        promise10Step();
        promise10LastTime();
        promise11Time();
        promise12Count();
        promise12CountsSinceTheBeginning();
        Due.finish();
    }

    private static void promise9Pass() {
        MovingHeap x = new MovingHeap();
        x.insert(0, 0);
        x.insert(10, -1);
        x.insert(20, -3);
        // Point 2 passes point 0 at time 7 (20 - 21 < 0); point 1 is at place 1 until then.
        Due.is("pass(6)", x.pass(6), 0);
        Due.is("at(0) at time 6", x.at(0), 0);
        Due.is("pass(7)", x.pass(7), 1);
        Due.is("at(0) at time 7", x.at(0), 2);
        Due.is("at(2) at time 7", x.at(2), 0);
        Due.is("pass to the present time", x.pass(7), 0);
        Due.is("value after stops", x.point(2, 0), -1);
        // Point 1 never passes point 2, and its parent is point 2: no stop is due any more.
        Due.is("pass(100000)", x.pass(100000), 0);
        Due.is("value at the end", x.point(2, 0), -299980);
        Due.is("time()", x.time(), 100000);
    }

    private static void promise9SeveralFailuresAtOnce() {
        MovingHeap x = new MovingHeap();
        x.insert(0, 4);
        x.insert(0, 3);
        x.insert(0, 2);
        x.insert(0, 1);
        // At time 1 the values are 4, 3, 2, 1. Certificate 1: 1 0 2 3; certificate 2:
        // 2 0 1 3; certificate 3: 2 3 1 0; certificate 1: 3 2 1 0.
        Due.is("pass(1)", x.pass(1), 1);
        Due.is("at(0)", x.at(0), 3);
        Due.is("at(1)", x.at(1), 2);
        Due.is("at(2)", x.at(2), 1);
        Due.is("at(3)", x.at(3), 0);
        Due.is("exchanges", x.count(0), 4);
        Due.is("exchanges at the top", x.count(2), 3);
        Due.is("stops", x.count(1), 1);
        MovingHeap y = new MovingHeap();
        y.insert(0, 5);
        y.insert(1, 0);
        y.insert(11, 0);
        y.insert(12, 0);
        Due.is("pass over two stops", y.pass(10), 2);
        Due.is("the top then", y.at(0), 1);
        Due.is("stops", y.count(1), 2);
    }

    private static void promise9Range() {
        MovingHeap x = new MovingHeap();
        x.insert(1, 1);
        Due.is("pass(-1)", x.pass(-1), INVALID);
        Due.is("pass(100001)", x.pass(100001), INVALID);
        Due.is("pass(highest int)", x.pass(Integer.MAX_VALUE), INVALID);
        x.pass(50);
        Due.is("pass(49)", x.pass(49), INVALID);
        Due.is("pass(lowest int)", x.pass(Integer.MIN_VALUE), INVALID);
        Due.is("time()", x.time(), 50);
        Due.is("pass(100000)", x.pass(100000), 0);
        Due.is("pass(100000) again", x.pass(100000), 0);
        Due.is("value", x.point(0, 0), 100001);
    }

    private static void promise10Step() {
        MovingHeap x = new MovingHeap();
        Due.is("step() without points", x.step(), NOT_FOUND);
        x.insert(0, 1);
        Due.is("step() with one point", x.step(), NOT_FOUND);
        x.insert(5, 0);
        Due.is("step()", x.step(), 6);
        Due.is("time()", x.time(), 6);
        Due.is("at(0)", x.at(0), 1);
        Due.is("stops", x.count(1), 1);
        Due.is("step() without any failure", x.step(), NOT_FOUND);
        Due.is("time() after it", x.time(), 6);
        Due.is("stops after it", x.count(1), 1);
        x.insert(3, 0);
        x.insert(-1, 1);
        // Point 3 is at the top; it ties with point 2 at time 10 and is after it then.
        Due.is("at(0)", x.at(0), 3);
        Due.is("step() at equal values", x.step(), 10);
        Due.is("at(0) at equal values", x.at(0), 2);
    }

    private static void promise10LastTime() {
        MovingHeap x = new MovingHeap();
        x.insert(-99999, 1);
        x.insert(0, 0);
        Due.is("failure(1)", x.failure(1), 100000);
        Due.is("step() to the last time", x.step(), 100000);
        Due.is("time()", x.time(), 100000);
        Due.is("at(0)", x.at(0), 1);
        MovingHeap y = new MovingHeap();
        y.insert(-100000, 1);
        y.insert(0, 0);
        Due.is("failure(1)", y.failure(1), 100001);
        Due.is("step() past the last time", y.step(), NOT_FOUND);
        Due.is("time()", y.time(), 0);
        Due.is("pass to the last time", y.pass(100000), 0);
        Due.is("at(0)", y.at(0), 0);
    }

    private static void promise11Time() {
        MovingHeap x = new MovingHeap();
        Due.is("time()", x.time(), 0);
        x.pass(12);
        Due.is("time()", x.time(), 12);
        x.insert(0, 0);
        x.forget();
        Due.is("time() after operations", x.time(), 12);
        x.pass(11);
        Due.is("time() after a wrong pass", x.time(), 12);
    }

    private static void promise12Count() {
        MovingHeap x = new MovingHeap();
        x.insert(30, 0);
        x.insert(20, 0);
        x.insert(40, 0);
        x.insert(10, 0);
        // 20 passes 30 at the top; 10 passes 30 at place 1 and 20 at the top.
        Due.is("exchanges", x.count(0), 3);
        Due.is("stops", x.count(1), 0);
        Due.is("exchanges at the top", x.count(2), 2);
        x.insert(25, 0);
        Due.is("no exchange of certificate 4", x.count(0), 3);
        x.jump(4, 15);
        Due.is("exchange of certificate 4", x.count(0), 4);
        Due.is("exchanges at the top", x.count(2), 2);
        Due.is("what 3", x.count(3), INVALID);
        Due.is("what -1", x.count(-1), INVALID);
        Due.is("what highest int", x.count(Integer.MAX_VALUE), INVALID);
    }

    private static void promise12CountsSinceTheBeginning() {
        MovingHeap x = new MovingHeap();
        x.insert(0, 1);
        x.insert(3, 0);
        x.pass(4);
        x.forget();
        Due.is("exchanges after forget", x.count(0), 1);
        Due.is("stops after forget", x.count(1), 1);
        Due.is("exchanges at the top after forget", x.count(2), 1);
        x.setVelocity(1, 1);
        x.setVelocity(0, 0);
        // Point 0 is at 4, point 1 comes from 3: equal at time 5, and 0 is the lower number.
        Due.is("step()", x.step(), 5);
        Due.is("exchanges", x.count(0), 2);
        Due.is("stops", x.count(1), 2);
        Due.is("exchanges at the top", x.count(2), 2);
    }
}
