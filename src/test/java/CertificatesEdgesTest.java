/** Promises 13 to 17 at their bounds: the last time of failures, equal values, empty and full. */
public final class CertificatesEdgesTest {
    private static final long INVALID = MovingHeap.INVALID_ARGUMENT;
    private static final long NOT_POSSIBLE = MovingHeap.NOT_POSSIBLE;
    private static final long NOT_FOUND = MovingHeap.NOT_FOUND;
    private static final int LEAST = States.LEAST;
    private static final int GREATEST = States.GREATEST;
    private static final int[] NO_POINTS = {
        LEAST, LEAST + 1, -2, -1, 24, 25, GREATEST - 1, GREATEST
    };

    private CertificatesEdgesTest() {
    }

    public static void main(String[] args) {
        promise13Places();
        promise13NeverFails();
        promise13EqualValues();
        promise13BetweenWholeTimes();
        promise13LastTimeOfFailures();
        promise13LastTimeFromTheLastTime();
        promise13Fastest();
        promise13NextTime();
        promise14Index();
        promise14What();
        promise14EqualTimes();
        promise14AscendingTimes();
        promise14OnlyThoseThatFail();
        promise15EmptyToFull();
        promise15LastTimeOfFailures();
        promise16NoPoints();
        promise16OnePoint();
        promise16EqualValues();
        promise16LastTime();
        promise16AfterThePresentTime();
        promise16FullHeap();
        promise17NoSuchPoint();
        promise17TheSamePoint();
        promise17EqualValues();
        promise17LastTime();
        promise17LastTimeFromTheLastTime();
        promise17AfterThePresentTime();
        promise17FullHeap();
        Due.finish();
    }

    /** The point with the lower number at the top, the other one below it, from a time on. */
    private static Past lowerOnTop(int time, int upper, int velocity, int lower, int velocity2) {
        return new Past("0 above 1 at " + time).then(Call.PASS, time)
            .then(Call.INSERT, upper, velocity).then(Call.INSERT, lower, velocity2);
    }

    /** The point with the higher number at the top, the other one below it, from a time on. */
    private static Past higherOnTop(int time, int upper, int velocity, int lower, int velocity2) {
        return new Past("1 above 0 at " + time).then(Call.PASS, time)
            .then(Call.INSERT, lower, velocity2).then(Call.INSERT, upper, velocity);
    }

    /** All that tells when two points change their order, and that alone, tells this time. */
    private static void orderEnds(long due, Past two) {
        two.unchanged(due, Call.FAILURE, 1);
        two.unchanged(due, Call.TOP_CHANGE);
        two.unchanged(due, Call.MEETING, 0, 1);
        two.unchanged(due, Call.MEETING, 1, 0);
        two.unchanged(due, Call.CALENDAR, 0, 0);
        two.unchanged(due == NOT_FOUND ? NOT_FOUND : 1, Call.CALENDAR, 0, 1);
        two.unchanged(due == NOT_FOUND ? 0 : 1, Call.CALENDAR_SIZE);
    }

    /** "place: ... 1 to size() - 1"; "INVALID_ARGUMENT if there is no such certificate" */
    private static void promise13Places() {
        for (int points : new int[] {0, 1, 2, 3, 23, 24}) {
            Past past = States.atRest(points);
            for (int place : new int[] {LEAST, LEAST + 1, -2, -1, 0}) {
                past.unchanged(INVALID, Call.FAILURE, place);
            }
            for (int place : new int[] {points, points + 1, 24, 25, GREATEST - 1, GREATEST}) {
                past.unchanged(INVALID, Call.FAILURE, place);
            }
            for (int place = 1; place < points; place++) {
                past.unchanged(NOT_FOUND, Call.FAILURE, place);
            }
        }
        States.empty().unchanged(INVALID, Call.FAILURE, 1);
        States.emptied().unchanged(INVALID, Call.FAILURE, 1);
        States.one().unchanged(INVALID, Call.FAILURE, 1);
        States.atRest(24).then(Call.REMOVE, 4).unchanged(INVALID, Call.FAILURE, 23);
        States.atRest(24).then(Call.REMOVE, 4).unchanged(NOT_FOUND, Call.FAILURE, 22);
    }

    /** "NOT_FOUND if it never fails": the upper point is not the faster one. */
    private static void promise13NeverFails() {
        orderEnds(NOT_FOUND, lowerOnTop(0, 0, 5, 10, 5));
        orderEnds(NOT_FOUND, lowerOnTop(0, 0, 5, 10, 6));
        orderEnds(NOT_FOUND, higherOnTop(0, 0, 5, 10, 5));
        orderEnds(NOT_FOUND, higherOnTop(0, 0, 5, 10, 6));
        orderEnds(11, lowerOnTop(0, 0, 6, 10, 5));
        orderEnds(10, higherOnTop(0, 0, 6, 10, 5));
    }

    /** "or if the values are equal and its number is lower" */
    private static void promise13EqualValues() {
        orderEnds(NOT_FOUND, lowerOnTop(7, 4, -1, 4, 0));
        orderEnds(NOT_FOUND, lowerOnTop(7, 4, 0, 4, 0));
        orderEnds(8, lowerOnTop(7, 4, 1, 4, 0));
        orderEnds(8, lowerOnTop(7, 4, 1000, 4, -1000));
        // Equal at 10: the lower number is still before then, the higher number is not.
        orderEnds(11, lowerOnTop(7, 1, 1, 4, 0));
        orderEnds(10, higherOnTop(7, 1, 1, 4, 0));
        orderEnds(8, higherOnTop(7, 3, 1, 4, 0));
        orderEnds(9, lowerOnTop(7, 3, 1, 4, 0));
    }

    /** Values that are never equal at a whole time, and those that are. */
    private static void promise13BetweenWholeTimes() {
        long[] lowerFirst = {3, 4, 4, 4, 5};
        long[] higherFirst = {3, 3, 4, 4, 4};
        for (int gap = 8; gap <= 12; gap++) {
            orderEnds(lowerFirst[gap - 8], lowerOnTop(0, 0, 3, gap, 0));
            orderEnds(higherFirst[gap - 8], higherOnTop(0, 0, 3, gap, 0));
        }
    }

    /** "if there is no such time up to 1000000, it never fails" */
    private static void promise13LastTimeOfFailures() {
        orderEnds(999999, lowerOnTop(0, 0, 1, 999998, 0));
        orderEnds(1000000, lowerOnTop(0, 0, 1, 999999, 0));
        orderEnds(NOT_FOUND, lowerOnTop(0, 0, 1, 1000000, 0));
        orderEnds(999999, higherOnTop(0, 1, 0, 1000000, -1));
        orderEnds(1000000, higherOnTop(0, 0, 0, 1000000, -1));
        orderEnds(NOT_FOUND, higherOnTop(0, -1, 0, 1000000, -1));
        // Two units in each unit of time, so that the gaps may be odd.
        orderEnds(999999, lowerOnTop(0, -1000000, 1, 999997, -1));
        orderEnds(1000000, lowerOnTop(0, -1000000, 1, 999998, -1));
        orderEnds(1000000, lowerOnTop(0, -1000000, 1, 999999, -1));
        orderEnds(NOT_FOUND, lowerOnTop(0, -1000000, 1, 1000000, -1));
        orderEnds(1000000, higherOnTop(0, -1000000, 1, 999999, -1));
        orderEnds(1000000, higherOnTop(0, -1000000, 1, 1000000, -1));
        orderEnds(NOT_FOUND, higherOnTop(0, -1000000, 1, 1000000, 0));
    }

    private static void promise13LastTimeFromTheLastTime() {
        orderEnds(100001, lowerOnTop(100000, 0, 1, 0, 0));
        orderEnds(999999, lowerOnTop(100000, 0, 1, 899998, 0));
        orderEnds(1000000, lowerOnTop(100000, 0, 1, 899999, 0));
        orderEnds(NOT_FOUND, lowerOnTop(100000, 0, 1, 900000, 0));
        orderEnds(999999, higherOnTop(100000, 0, 1, 899999, 0));
        orderEnds(1000000, higherOnTop(100000, 0, 1, 900000, 0));
        orderEnds(NOT_FOUND, higherOnTop(100000, 0, 1, 900001, 0));
    }

    private static void promise13Fastest() {
        orderEnds(1001, lowerOnTop(0, -1000000, 1000, 1000000, -1000));
        orderEnds(1000, higherOnTop(0, -1000000, 1000, 1000000, -1000));
        orderEnds(NOT_FOUND, lowerOnTop(0, -1000000, -1000, 1000000, 1000));
        // 201000000 + 1 for 100000 units of time from 1000000 up, 1000000 down, at 1000 each.
        Past apart = lowerOnTop(0, -1000000, -1000, 1000000, 1000).then(Call.PASS, 100000)
            .then(Call.SET_VELOCITY, 0, 1000).then(Call.SET_VELOCITY, 1, -1000);
        orderEnds(100000 + 101001, apart);
    }

    /** "the least time, at least the present one": after settling it is the next one or later. */
    private static void promise13NextTime() {
        orderEnds(1, lowerOnTop(0, 0, 10, 9, 0));
        orderEnds(2, lowerOnTop(0, 0, 10, 10, 0));
        orderEnds(1, higherOnTop(0, 0, 10, 10, 0));
        orderEnds(2, higherOnTop(0, 0, 10, 11, 0));
        Past past = lowerOnTop(0, 0, 10, 35, 0);
        past.then(Call.PASS, 3);
        orderEnds(4, past);
        past.then(Call.PASS, 4);
        orderEnds(NOT_FOUND, past);
    }

    /** 24 points: certificate k fails at 100 - k. */
    private static Past falling() {
        Past past = new Past("falling");
        int[] values = new int[24];
        int[] velocities = new int[24];
        past.then(Call.INSERT, 0, 0);
        for (int k = 1; k < 24; k++) {
            values[k] = values[(k - 1) / 2] + 99 - k;
            velocities[k] = velocities[(k - 1) / 2] - 1;
            past.then(Call.INSERT, values[k], velocities[k]);
        }
        return past;
    }

    /** "INVALID_ARGUMENT if index is negative"; "NOT_FOUND if there are not so many entries" */
    private static void promise14Index() {
        Past[] pasts = {States.empty(), States.one(), States.atRest(24), falling()};
        for (Past past : pasts) {
            for (int what = 0; what < 2; what++) {
                for (int index : new int[] {LEAST, LEAST + 1, -2, -1}) {
                    past.unchanged(INVALID, Call.CALENDAR, index, what);
                }
                for (int index : new int[] {23, 24, 25, GREATEST - 1, GREATEST}) {
                    past.unchanged(NOT_FOUND, Call.CALENDAR, index, what);
                }
            }
        }
        for (int what = 0; what < 2; what++) {
            States.empty().unchanged(NOT_FOUND, Call.CALENDAR, 0, what);
            States.emptied().unchanged(NOT_FOUND, Call.CALENDAR, 0, what);
            States.one().unchanged(NOT_FOUND, Call.CALENDAR, 0, what);
            States.atRest(24).unchanged(NOT_FOUND, Call.CALENDAR, 0, what);
            lowerOnTop(0, 0, 1, 5, 0).unchanged(what == 0 ? 6 : 1, Call.CALENDAR, 0, what);
            lowerOnTop(0, 0, 1, 5, 0).unchanged(NOT_FOUND, Call.CALENDAR, 1, what);
        }
    }

    /** "what out of range": 0 and 1 alone are not. */
    private static void promise14What() {
        for (int what : new int[] {LEAST, LEAST + 1, -2, -1, 2, 3, GREATEST - 1, GREATEST}) {
            States.empty().unchanged(INVALID, Call.CALENDAR, 0, what);
            falling().unchanged(INVALID, Call.CALENDAR, 0, what);
            falling().unchanged(INVALID, Call.CALENDAR, 22, what);
            falling().unchanged(INVALID, Call.CALENDAR, 23, what);
            falling().unchanged(INVALID, Call.CALENDAR, -1, what);
        }
    }

    /** "those with equal times by their numbers" */
    private static void promise14EqualTimes() {
        Past past = new Past("all fail at 11");
        for (int p = 0; p < 24; p++) {
            past.then(Call.INSERT, 10 * p, -p);
        }
        for (int i = 0; i < 23; i++) {
            past.unchanged(11, Call.CALENDAR, i, 0);
            past.unchanged(i + 1, Call.CALENDAR, i, 1);
        }
        past.unchanged(NOT_FOUND, Call.CALENDAR, 23, 0);
        past.unchanged(23, Call.CALENDAR_SIZE);
    }

    /** "in ascending order of these times" */
    private static void promise14AscendingTimes() {
        for (int i = 0; i < 23; i++) {
            falling().unchanged(77 + i, Call.CALENDAR, i, 0);
            falling().unchanged(23 - i, Call.CALENDAR, i, 1);
            falling().unchanged(99 - i, Call.FAILURE, i + 1);
        }
        falling().unchanged(NOT_FOUND, Call.CALENDAR, 23, 1);
        falling().unchanged(23, Call.CALENDAR_SIZE);
    }

    /** "The calendar contains the certificates that fail at some time" */
    private static void promise14OnlyThoseThatFail() {
        Past past = States.atRest(24).then(Call.SET_VELOCITY, 23, -1)
            .then(Call.SET_VELOCITY, 12, -1);
        // Point 12 (120) passes point 5 (50) after 70 units, point 23 (230) point 11 after 120.
        long[][] due = {{71, 12}, {121, 23}, {NOT_FOUND, NOT_FOUND}};
        for (int i = 0; i < 3; i++) {
            past.unchanged(due[i][0], Call.CALENDAR, i, 0);
            past.unchanged(due[i][1], Call.CALENDAR, i, 1);
        }
        past.unchanged(2, Call.CALENDAR_SIZE);
        MovingHeap x = past.heap();
        x.remove(12);
        Due.is("calendarSize() without point 12", x.calendarSize(), 1);
        // Point 23 came to the place of point 12, below point 5 (50).
        Due.is("calendar(0, 0) without point 12", x.calendar(0, 0), 181);
        Due.is("calendar(0, 1) without point 12", x.calendar(0, 1), 12);
    }

    /** "Returns the number of entries": none with no point or one, 23 at most. */
    private static void promise15EmptyToFull() {
        States.empty().unchanged(0, Call.CALENDAR_SIZE);
        States.emptied().unchanged(0, Call.CALENDAR_SIZE);
        States.one().unchanged(0, Call.CALENDAR_SIZE);
        States.atRest(24).unchanged(0, Call.CALENDAR_SIZE);
        falling().unchanged(23, Call.CALENDAR_SIZE);
        MovingHeap x = falling().heap();
        for (int p = 23; p >= 0; p--) {
            x.remove(p);
            Due.is("calendarSize() without point " + p, x.calendarSize(), Math.max(p - 1, 0));
        }
        x = falling().heap();
        for (int k = 1; k < 24; k++) {
            x.setVelocity(k, 0);
        }
        Due.is("calendarSize() of points at rest", x.calendarSize(), 0);
    }

    /** An entry of the time 1000000 is in the calendar; one of 1000001 would never fail. */
    private static void promise15LastTimeOfFailures() {
        MovingHeap x = new MovingHeap();
        x.insert(-500000, 1);
        x.insert(499999, 0);
        x.insert(500000, 0);
        Due.is("calendarSize()", x.calendarSize(), 1);
        Due.is("calendar(0, 0)", x.calendar(0, 0), 1000000);
        Due.is("calendar(0, 1)", x.calendar(0, 1), 1);
        Due.is("calendar(1, 0)", x.calendar(1, 0), NOT_FOUND);
        x.jump(2, 499999);
        Due.is("calendarSize() of two at the last time", x.calendarSize(), 2);
        Due.is("calendar(1, 1)", x.calendar(1, 1), 2);
        x.jump(1, 500000);
        x.jump(2, 500000);
        Due.is("calendarSize() of none", x.calendarSize(), 0);
    }

    /** "NOT_POSSIBLE if there are no points" */
    private static void promise16NoPoints() {
        States.empty().unchanged(NOT_POSSIBLE, Call.TOP_CHANGE);
        States.emptied().unchanged(NOT_POSSIBLE, Call.TOP_CHANGE);
        States.emptyAtTheEnd().unchanged(NOT_POSSIBLE, Call.TOP_CHANGE);
        States.forgottenEmpty().unchanged(NOT_POSSIBLE, Call.TOP_CHANGE);
    }

    private static void promise16OnePoint() {
        States.one().unchanged(NOT_FOUND, Call.TOP_CHANGE);
        States.atRest(1).unchanged(NOT_FOUND, Call.TOP_CHANGE);
        States.atRest(2).then(Call.SET_VELOCITY, 1, -1).then(Call.REMOVE, 0)
            .unchanged(NOT_FOUND, Call.TOP_CHANGE);
    }

    /** Among points that pass the first one at once, the order is that of all points. */
    private static void promise16EqualValues() {
        MovingHeap x = new MovingHeap();
        x.insert(20, 0);
        x.insert(0, 0);
        x.insert(20, -4);
        // Point 2 is equal to point 1 at 5, and has the higher number.
        Due.is("topChange() by a higher number", x.topChange(), 6);
        x.setVelocity(0, -4);
        Due.is("topChange() by a lower number", x.topChange(), 5);
        x.pass(5);
        Due.is("the point before all others", x.point(0, 4), 0);
        Due.is("topChange() afterwards", x.topChange(), NOT_FOUND);
    }

    /** "NOT_FOUND if there is no such time up to 1000000" */
    private static void promise16LastTime() {
        MovingHeap x = new MovingHeap();
        x.insert(0, 0);
        x.insert(1000000, 0);
        x.insert(999999, -1);
        Due.is("topChange() at 1000000", x.topChange(), 1000000);
        x.jump(2, 1000000);
        Due.is("topChange() past 1000000", x.topChange(), NOT_FOUND);
        x.jump(2, 999998);
        Due.is("topChange() before 1000000", x.topChange(), 999999);
        x.pass(100000);
        Due.is("topChange() before 1000000, still", x.topChange(), 999999);
        x.jump(2, 899999);
        Due.is("topChange() at 1000000, at the last time", x.topChange(), 1000000);
        x.jump(2, 900000);
        Due.is("topChange() past 1000000, at the last time", x.topChange(), NOT_FOUND);
    }

    /** "the next time, after the present one" */
    private static void promise16AfterThePresentTime() {
        MovingHeap x = new MovingHeap();
        x.insert(0, 1);
        x.insert(4, 0);
        x.insert(9, -1);
        Due.is("topChange() at 0", x.topChange(), 5);
        x.pass(4);
        Due.is("topChange() at 4", x.topChange(), 5);
        x.pass(5);
        // Points 0, 1, 2 are at 5, 4, 4: point 1 is before all others, and is passed at once.
        Due.is("topChange() at 5", x.topChange(), 6);
        x.pass(6);
        Due.is("topChange() at 6", x.topChange(), NOT_FOUND);
    }

    private static void promise16FullHeap() {
        States.atRest(24).unchanged(NOT_FOUND, Call.TOP_CHANGE);
        for (int p = 1; p < 24; p++) {
            States.atRest(24).then(Call.SET_VELOCITY, p, -1)
                .unchanged(10 * p + 1, Call.TOP_CHANGE);
        }
        States.atRest(24).then(Call.SET_VELOCITY, 0, 1).unchanged(11, Call.TOP_CHANGE);
        States.fullInMotion().asModelled(Call.TOP_CHANGE);
    }

    /** "meeting ... INVALID_ARGUMENT if there is no such point" */
    private static void promise17NoSuchPoint() {
        for (int p : NO_POINTS) {
            Past[] pasts = {States.empty(), States.busy(), States.atRest(24)};
            for (Past past : pasts) {
                past.unchanged(INVALID, Call.MEETING, p, 0);
                past.unchanged(INVALID, Call.MEETING, 0, p);
                past.unchanged(INVALID, Call.MEETING, p, 23);
                past.unchanged(INVALID, Call.MEETING, 23, p);
            }
        }
        States.empty().unchanged(INVALID, Call.MEETING, 0, 1);
        States.emptied().unchanged(INVALID, Call.MEETING, 0, 1);
        States.one().unchanged(INVALID, Call.MEETING, 0, 1);
        States.one().unchanged(INVALID, Call.MEETING, 1, 0);
        States.busy().unchanged(INVALID, Call.MEETING, 3, 4);
        States.busy().unchanged(INVALID, Call.MEETING, 4, 3);
        States.atRest(24).then(Call.REMOVE, 9).unchanged(INVALID, Call.MEETING, 8, 9);
        States.atRest(24).then(Call.REMOVE, 9).unchanged(INVALID, Call.MEETING, 9, 8);
        States.atRest(24).then(Call.REMOVE, 9).unchanged(NOT_FOUND, Call.MEETING, 8, 10);
    }

    /** "or both are the same" */
    private static void promise17TheSamePoint() {
        for (int p : new int[] {LEAST, -1, 0, 1, 22, 23, 24, GREATEST}) {
            States.empty().unchanged(INVALID, Call.MEETING, p, p);
            States.busy().unchanged(INVALID, Call.MEETING, p, p);
            States.atRest(24).unchanged(INVALID, Call.MEETING, p, p);
        }
        States.atRest(24).unchanged(NOT_FOUND, Call.MEETING, 23, 22);
        States.atRest(24).unchanged(NOT_FOUND, Call.MEETING, 0, 23);
    }

    /** The order of points with equal values is that of their numbers. */
    private static void promise17EqualValues() {
        int[] velocities = {-2, -1, 0, 1, 2};
        // The point with the lower number is before, until it has grown past the other one.
        long[] due = {NOT_FOUND, NOT_FOUND, NOT_FOUND, 8, 8};
        for (int i = 0; i < 5; i++) {
            Past past = new Past("equal").then(Call.PASS, 7).then(Call.INSERT, -50, 0)
                .then(Call.INSERT, 4, velocities[i]).then(Call.INSERT, 4, 0);
            past.unchanged(due[i], Call.MEETING, 1, 2);
            past.unchanged(due[i], Call.MEETING, 2, 1);
        }
    }

    /** "NOT_FOUND if there is no such time up to 1000000", for points that are not neighbours. */
    private static void promise17LastTime() {
        int[] values = {999998, 999999, 1000000};
        long[] lowerFirst = {999999, 1000000, NOT_FOUND};
        long[] higherFirst = {999998, 999999, 1000000};
        for (int i = 0; i < 3; i++) {
            Past past = new Past("far apart").then(Call.INSERT, -1000000, 0)
                .then(Call.INSERT, 0, 1).then(Call.INSERT, values[i], 0);
            past.unchanged(lowerFirst[i], Call.MEETING, 1, 2);
            past.unchanged(lowerFirst[i], Call.MEETING, 2, 1);
            past = new Past("far apart").then(Call.INSERT, -1000000, 0)
                .then(Call.INSERT, values[i], 0).then(Call.INSERT, 0, 1);
            past.unchanged(higherFirst[i], Call.MEETING, 1, 2);
            past.unchanged(higherFirst[i], Call.MEETING, 2, 1);
        }
        Past past = new Past("further apart").then(Call.INSERT, -1000000, 0)
            .then(Call.INSERT, 1000000, 0).then(Call.INSERT, -1, 1);
        past.unchanged(NOT_FOUND, Call.MEETING, 1, 2);
    }

    private static void promise17LastTimeFromTheLastTime() {
        Past past = new Past("at the last time").then(Call.PASS, 100000)
            .then(Call.INSERT, 0, 1).then(Call.INSERT, 899999, 0).then(Call.INSERT, 900000, 0)
            .then(Call.INSERT, 0, 1);
        past.unchanged(1000000, Call.MEETING, 0, 1);
        past.unchanged(NOT_FOUND, Call.MEETING, 0, 2);
        past.unchanged(999999, Call.MEETING, 3, 1);
        past.unchanged(1000000, Call.MEETING, 3, 2);
        past.unchanged(NOT_FOUND, Call.MEETING, 0, 3);
    }

    /** "the least time, after the present one, at which the order ... is another one" */
    private static void promise17AfterThePresentTime() {
        MovingHeap x = new MovingHeap();
        x.insert(0, 2);
        x.insert(5, 0);
        Due.is("meeting(0, 1) at 0", x.meeting(0, 1), 3);
        x.pass(2);
        Due.is("meeting(0, 1) at 2", x.meeting(0, 1), 3);
        x.pass(3);
        Due.is("meeting(0, 1) at 3", x.meeting(0, 1), NOT_FOUND);
        x.setVelocity(1, 3);
        // 6 + 2t and 5 + 3t are equal one unit later: point 0 is before point 1 again.
        Due.is("meeting(0, 1) at once", x.meeting(0, 1), 4);
        Due.is("meeting(1, 0) at once", x.meeting(1, 0), 4);
    }

    private static void promise17FullHeap() {
        for (int a = 0; a < 23; a++) {
            Past past = States.atRest(24).then(Call.SET_VELOCITY, 23, -10);
            past.unchanged(23 - a + 1, Call.MEETING, a, 23);
            past.unchanged(23 - a + 1, Call.MEETING, 23, a);
            past = States.atRest(24).then(Call.SET_VELOCITY, a, 1);
            past.unchanged(10 * (23 - a) + 1, Call.MEETING, 23, a);
        }
        States.fullInMotion().asModelled(Call.MEETING, 0, 23);
    }
}
