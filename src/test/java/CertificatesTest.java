/** Promises 13 to 17: certificates, the calendar, and what comes if nothing is changed. */
public final class CertificatesTest {
    private static final long INVALID = MovingHeap.INVALID_ARGUMENT;
    private static final long NOT_POSSIBLE = MovingHeap.NOT_POSSIBLE;
    private static final long NOT_FOUND = MovingHeap.NOT_FOUND;

    private CertificatesTest() {
    }

    public static void main(String[] args) {
        promise13Failure();
        promise13Horizon();
        promise14Calendar();
        promise15CalendarSize();
        promise16TopChange();
        promise16Horizon();
        promise17Meeting();
        promise17Horizon();
        Due.finish();
    }

    private static void promise13Failure() {
        MovingHeap x = new MovingHeap();
        Due.is("failure(1) without points", x.failure(1), INVALID);
        x.insert(0, 3);
        Due.is("failure(0)", x.failure(0), INVALID);
        Due.is("failure(1) with one point", x.failure(1), INVALID);
        x.insert(9, 0);
        x.insert(10, 0);
        x.insert(20, 3);
        x.insert(20, 4);
        // 0 + 3t > 9 at 4, not at 3 where the values are equal; 3t > 10 at 4, too.
        Due.is("failure(1)", x.failure(1), 4);
        Due.is("failure(2)", x.failure(2), 4);
        Due.is("failure(3) of growing distance", x.failure(3), NOT_FOUND);
        Due.is("failure(5)", x.failure(5), INVALID);
        Due.is("failure(-1)", x.failure(-1), INVALID);
        Due.is("failure(lowest int)", x.failure(Integer.MIN_VALUE), INVALID);
        Due.is("failure(highest int)", x.failure(Integer.MAX_VALUE), INVALID);
        x.pass(3);
        Due.is("failure(1) nearer", x.failure(1), 4);
        x.pass(4);
        // Point 1 is the top now; point 0, at 12, is at place 2: it went there past point 2.
        Due.is("at(0)", x.at(0), 1);
        Due.is("failure(1) afterwards", x.failure(1), NOT_FOUND);
        MovingHeap y = new MovingHeap();
        y.insert(9, 0);
        y.insert(0, 3);
        // The parent has the higher number: it fails when the values are equal.
        Due.is("failure(1) at equal values", y.failure(1), 3);
    }

    private static void promise13Horizon() {
        MovingHeap x = new MovingHeap();
        x.insert(-999999, 1);
        x.insert(0, 0);
        Due.is("failure at the last time", x.failure(1), 1000000);
        Due.is("calendarSize()", x.calendarSize(), 1);
        x.jump(0, -1000000);
        Due.is("failure past the last time", x.failure(1), NOT_FOUND);
        Due.is("calendarSize()", x.calendarSize(), 0);
        Due.is("topChange()", x.topChange(), NOT_FOUND);
    }

    private static MovingHeap threeFailures() {
        MovingHeap x = new MovingHeap();
        x.insert(0, 0);
        x.insert(30, -2);
        x.insert(16, -1);
        x.insert(62, -4);
        x.insert(100, 0);
        return x;
    }

    private static void promise14Calendar() {
        MovingHeap x = threeFailures();
        // Certificate 1 fails at 16 (30 - 32 < 0), 2 at 17 (16 - 17 < 0), and 3 at 17
        // (62 - 4t < 30 - 2t from 17 on).
        long[][] due = {{16, 1}, {17, 2}, {17, 3}};
        for (int i = 0; i < 3; i++) {
            Due.is("calendar(" + i + ", 0)", x.calendar(i, 0), due[i][0]);
            Due.is("calendar(" + i + ", 1)", x.calendar(i, 1), due[i][1]);
        }
        Due.is("calendar(3, 0)", x.calendar(3, 0), NOT_FOUND);
        Due.is("calendar(3, 1)", x.calendar(3, 1), NOT_FOUND);
        Due.is("calendar(highest int, 0)", x.calendar(Integer.MAX_VALUE, 0), NOT_FOUND);
        Due.is("calendar(-1, 0)", x.calendar(-1, 0), INVALID);
        Due.is("calendar(lowest int, 0)", x.calendar(Integer.MIN_VALUE, 0), INVALID);
        Due.is("calendar(0, 2)", x.calendar(0, 2), INVALID);
        Due.is("calendar(0, -1)", x.calendar(0, -1), INVALID);
        Due.is("calendar(9, 2)", x.calendar(9, 2), INVALID);
        x.jump(1, 40);
        // Certificate 1 fails at 21 then, and 3 at 12: not by their numbers.
        Due.is("calendar(0, 1)", x.calendar(0, 1), 3);
        Due.is("calendar(0, 0)", x.calendar(0, 0), 12);
        Due.is("calendar(1, 1)", x.calendar(1, 1), 2);
        Due.is("calendar(2, 1)", x.calendar(2, 1), 1);
        Due.is("calendar(2, 0)", x.calendar(2, 0), 21);
        // With the last point its certificate goes, though the calendar was asked before.
        x.setVelocity(4, -100);
        Due.is("calendar(0, 1) of certificate 4", x.calendar(0, 1), 4);
        x.remove(4);
        Due.is("calendar(0, 1) without it", x.calendar(0, 1), 3);
        Due.is("calendar(3, 1) without it", x.calendar(3, 1), NOT_FOUND);
    }

    private static void promise15CalendarSize() {
        Due.is("calendarSize()", threeFailures().calendarSize(), 3);
        MovingHeap x = new MovingHeap();
        Due.is("calendarSize() without points", x.calendarSize(), 0);
        x.insert(0, 5);
        Due.is("calendarSize() with one point", x.calendarSize(), 0);
        x.insert(1, 5);
        Due.is("calendarSize() of parallel points", x.calendarSize(), 0);
        x.insert(2, 0);
        Due.is("calendarSize() with one failure", x.calendarSize(), 1);
        for (int i = 0; i < 21; i++) {
            x.insert(500000, 0);
        }
        // Only certificates 3 and 4 are between a moving parent and one of those at rest.
        Due.is("calendarSize() of 24 points", x.calendarSize(), 3);
        x.setVelocity(1, 0);
        Due.is("calendarSize() with one at rest", x.calendarSize(), 2);
    }

    private static void promise16TopChange() {
        MovingHeap x = new MovingHeap();
        Due.is("topChange() without points", x.topChange(), NOT_POSSIBLE);
        x.insert(0, 0);
        Due.is("topChange() with one point", x.topChange(), NOT_FOUND);
        x.insert(100, -1);
        Due.is("topChange() of point 1", x.topChange(), 101);
        x.insert(200, -4);
        // Point 2 is at a leaf below the top, and passes point 0 at 51.
        Due.is("topChange() of point 2", x.topChange(), 51);
        x.insert(50, 0);
        x.insert(90, -9);
        // Point 4 is not next to the top of the heap, and still the first to pass it.
        Due.is("topChange() of a point far down", x.topChange(), 11);
        x.pass(10);
        Due.is("topChange() after the present time", x.topChange(), 11);
        x.pass(11);
        Due.is("at(0)", x.at(0), 4);
        Due.is("topChange() of the fastest", x.topChange(), NOT_FOUND);
        MovingHeap y = new MovingHeap();
        y.insert(5, 0);
        y.insert(0, 1);
        Due.is("topChange() at equal values", y.topChange(), 5);
        y.remove(0);
        y.remove(1);
        Due.is("topChange() without points again", y.topChange(), NOT_POSSIBLE);
    }

    private static void promise16Horizon() {
        MovingHeap x = new MovingHeap();
        x.insert(-1, 0);
        x.insert(999998, -1);
        Due.is("topChange() at the last time", x.topChange(), 1000000);
        x.jump(1, 999999);
        Due.is("topChange() past the last time", x.topChange(), NOT_FOUND);
        x.pass(100000);
        x.jump(1, 899998);
        Due.is("topChange() at the last time", x.topChange(), 1000000);
    }

    private static void promise17Meeting() {
        MovingHeap x = new MovingHeap();
        x.insert(0, 2);
        x.insert(7, 0);
        x.insert(14, -2);
        Due.is("meeting(0, 1)", x.meeting(0, 1), 4);
        Due.is("meeting(1, 0)", x.meeting(1, 0), 4);
        Due.is("meeting(1, 2)", x.meeting(1, 2), 4);
        Due.is("meeting(2, 1)", x.meeting(2, 1), 4);
        // The values are 7 and 7 at 3.5, so the order is another one from 4 on.
        Due.is("meeting(0, 2)", x.meeting(0, 2), 4);
        Due.is("meeting of one point", x.meeting(1, 1), INVALID);
        Due.is("meeting with no point", x.meeting(1, 3), INVALID);
        Due.is("meeting of no point", x.meeting(3, 1), INVALID);
        Due.is("meeting of no points", x.meeting(3, 3), INVALID);
        Due.is("meeting with point -1", x.meeting(0, -1), INVALID);
        Due.is("meeting of point 24", x.meeting(24, 0), INVALID);
        x.pass(4);
        Due.is("meeting afterwards", x.meeting(0, 1), NOT_FOUND);
        x.jump(0, 0);
        x.setVelocity(0, 7);
        // 7 at time 5 is equal to point 1, and 0 the lower number: the order stays until 6.
        Due.is("meeting(0, 1) past equal values", x.meeting(0, 1), 6);
        x.jump(0, 14);
        x.setVelocity(0, -7);
        Due.is("meeting(0, 1) at equal values", x.meeting(0, 1), 5);
        Due.is("meeting(1, 0) at equal values", x.meeting(1, 0), 5);
        x.setVelocity(0, 0);
        Due.is("meeting of parallel points", x.meeting(0, 1), NOT_FOUND);
    }

    private static void promise17Horizon() {
        MovingHeap x = new MovingHeap();
        x.insert(-999999, 1);
        x.insert(0, 0);
        Due.is("meeting at the last time", x.meeting(0, 1), 1000000);
        x.jump(0, -1000000);
        Due.is("meeting past the last time", x.meeting(0, 1), NOT_FOUND);
        x.setVelocity(0, 1000);
        x.setVelocity(1, -1000);
        Due.is("meeting of the fastest", x.meeting(1, 0), 501);
        x.pass(100000);
        Due.is("the highest value", x.point(0, 0), 99000000);
        x.setVelocity(0, 0);
        x.setVelocity(1, 1000);
        Due.is("meeting from far apart", x.meeting(0, 1), 299000);
        // 199000000 / 222 is 896396.4, and 199000000 / 221 is 900452.5.
        x.setVelocity(1, 222);
        Due.is("meeting late", x.meeting(0, 1), 996397);
        x.setVelocity(1, 221);
        Due.is("meeting too late", x.meeting(0, 1), NOT_FOUND);
    }
}
