/** Promises 1 to 8 at their bounds: one below, at and above, empty, full and refused. */
public final class PointsEdgesTest {
    private static final long INVALID = MovingHeap.INVALID_ARGUMENT;
    private static final long NOT_POSSIBLE = MovingHeap.NOT_POSSIBLE;
    private static final long LIMIT = MovingHeap.LIMIT_REACHED;
    private static final long NOT_FOUND = MovingHeap.NOT_FOUND;
    private static final int LEAST = States.LEAST;
    private static final int GREATEST = States.GREATEST;
    private static final int[] NO_VALUES = {
        LEAST, LEAST + 1, -1000002, -1000001, 1000001, 1000002, GREATEST - 1, GREATEST
    };
    private static final int[] VALUES = {
        -1000000, -999999, -1, 0, 1, 999999, 1000000
    };
    private static final int[] NO_VELOCITIES = {
        LEAST, LEAST + 1, -1000001, -1002, -1001, 1001, 1002, 1000001, GREATEST - 1, GREATEST
    };
    private static final int[] VELOCITIES = {-1000, -999, -1, 0, 1, 999, 1000};
    private static final int[] NO_POINTS = {
        LEAST, LEAST + 1, -2, -1, 24, 25, GREATEST - 1, GREATEST
    };

    private PointsEdgesTest() {
    }

    public static void main(String[] args) {
        promise1AnEmptyHeapAtTime0();
        promise1ObjectsOfTheirOwn();
        promise2Values();
        promise2Velocities();
        promise2BothOutOfRange();
        promise2TwentyFourPoints();
        promise2LowestFreeNumber();
        promise2LastOperation();
        promise3NoSuchPoint();
        promise3FirstAndLastNumber();
        promise3ItsValueNow();
        promise3LastOperation();
        promise4NoSuchPoint();
        promise4Velocities();
        promise4PreviousVelocity();
        promise4SameVelocity();
        promise4LastOperation();
        promise5NoSuchPoint();
        promise5Values();
        promise5PreviousValue();
        promise5SameValue();
        promise5LastOperation();
        promise6Size();
        promise7NoSuchPoint();
        promise7What();
        promise7FullHeap();
        promise7PlaceInTheOrder();
        promise7Birth();
        promise8Places();
        Due.finish();
    }

    /** "Creates an empty heap at time 0." */
    private static void promise1AnEmptyHeapAtTime0() {
        Past empty = States.empty();
        empty.unchanged(0, Call.SIZE);
        empty.unchanged(0, Call.TIME);
        for (int what = 0; what < 3; what++) {
            empty.unchanged(0, Call.COUNT, what);
        }
        empty.unchanged(NOT_FOUND, Call.AT, 0);
        empty.unchanged(NOT_FOUND, Call.STEP);
        empty.unchanged(INVALID, Call.FAILURE, 0);
        empty.unchanged(INVALID, Call.FAILURE, 1);
        empty.unchanged(NOT_FOUND, Call.CALENDAR, 0, 0);
        empty.unchanged(NOT_FOUND, Call.CALENDAR, 0, 1);
        empty.unchanged(0, Call.CALENDAR_SIZE);
        empty.unchanged(NOT_POSSIBLE, Call.TOP_CHANGE);
        empty.unchanged(INVALID, Call.MEETING, 0, 1);
        empty.unchanged(NOT_FOUND, Call.TOP_AT, 0);
        empty.unchanged(NOT_FOUND, Call.VALUE_AT, 0, 0);
        empty.unchanged(NOT_FOUND, Call.VALUE_AT, 23, 0);
        empty.unchanged(NOT_FOUND, Call.ORDER_AT, 0, 0);
        empty.unchanged(0, Call.SIZE_AT, 0);
        empty.unchanged(INVALID, Call.TOP_CHANGES, 1, 1);
        empty.unchanged(NOT_FOUND, Call.LEAST_BETWEEN, 0, 0);
        empty.unchanged(0, Call.FORGET);
        empty.unchanged(0, Call.PASS, 0);
    }

    private static void promise1ObjectsOfTheirOwn() {
        MovingHeap x = new MovingHeap();
        MovingHeap y = new MovingHeap();
        x.insert(5, -1);
        x.insert(4, 0);
        x.pass(9);
        Due.is("size of the one", x.size(), 2);
        Due.is("size of the other", y.size(), 0);
        Due.is("time of the other", y.time(), 0);
        Due.is("stops of the other", y.count(1), 0);
        Due.is("operations of the other", y.forget(), 0);
        Due.is("first number of the other", y.insert(1, 1), 0);
        Due.is("size of a third one", new MovingHeap().size(), 0);
        Due.is("size of the one, still", x.size(), 2);
    }

    /** "value: -1000000 to 1000000"; "INVALID_ARGUMENT if an argument is out of range". */
    private static void promise2Values() {
        for (int value : VALUES) {
            MovingHeap x = States.empty().after(0, Call.INSERT, value, 0);
            Due.is("value of insert(" + value + ", 0)", x.point(0, 0), value);
            Due.is("least of insert(" + value + ", 0)", x.leastBetween(0, 0), value);
            Due.is("size()", x.size(), 1);
            Due.is("operations", x.forget(), 1);
        }
        for (int value : NO_VALUES) {
            States.empty().unchanged(INVALID, Call.INSERT, value, 0);
            States.busy().unchanged(INVALID, Call.INSERT, value, 1000);
        }
    }

    /** "velocity: -1000 to 1000"; "INVALID_ARGUMENT if an argument is out of range". */
    private static void promise2Velocities() {
        for (int velocity : VELOCITIES) {
            MovingHeap x = States.empty().after(0, Call.INSERT, 0, velocity);
            Due.is("velocity of insert(0, " + velocity + ")", x.point(0, 1), velocity);
            x.pass(1);
            Due.is("value one unit later", x.point(0, 0), velocity);
            x.pass(100000);
            Due.is("value at the last time", x.point(0, 0), 100000L * velocity);
        }
        for (int velocity : NO_VELOCITIES) {
            States.empty().unchanged(INVALID, Call.INSERT, 0, velocity);
            States.busy().unchanged(INVALID, Call.INSERT, 1000000, velocity);
        }
    }

    private static void promise2BothOutOfRange() {
        States.busy().unchanged(INVALID, Call.INSERT, 1000001, 1001);
        States.busy().unchanged(INVALID, Call.INSERT, -1000001, -1001);
        States.busy().unchanged(INVALID, Call.INSERT, LEAST, GREATEST);
        States.busy().unchanged(INVALID, Call.INSERT, GREATEST, LEAST);
    }

    /** "LIMIT_REACHED if there are 24 points". */
    private static void promise2TwentyFourPoints() {
        States.atRest(22).after(22, Call.INSERT, 5, 0);
        MovingHeap x = States.atRest(23).after(23, Call.INSERT, 5, 0);
        Due.is("size() of a full heap", x.size(), 24);
        Due.is("the 25th point", x.insert(5, 0), LIMIT);
        States.atRest(24).unchanged(LIMIT, Call.INSERT, 5, 0);
        States.atRest(24).unchanged(LIMIT, Call.INSERT, -1000000, -1000);
        States.fullInMotion().unchanged(LIMIT, Call.INSERT, 1000000, 1000);
        Past room = States.atRest(24).then(Call.REMOVE, 11);
        x = room.after(11, Call.INSERT, 5, 0);
        Due.is("the 25th point again", x.insert(5, 0), LIMIT);
    }

    /** "a point that is inserted gets the lowest number that is free" */
    private static void promise2LowestFreeNumber() {
        for (int p = 0; p < 24; p++) {
            States.atRest(p).after(p, Call.INSERT, 0, 0);
            States.atRest(24).then(Call.REMOVE, p).after(p, Call.INSERT, 0, 0);
        }
        MovingHeap x = States.atRest(24).heap();
        x.remove(23);
        x.remove(0);
        x.remove(5);
        Due.is("lowest of 0, 5 and 23", x.insert(1, 0), 0);
        Due.is("lowest of 5 and 23", x.insert(2, 0), 5);
        Due.is("lowest of 23", x.insert(3, 0), 23);
        Due.is("none free", x.insert(4, 0), LIMIT);
    }

    /** "or 200 operations on points ... have been made" */
    private static void promise2LastOperation() {
        MovingHeap x = States.operations(197).after(3, Call.INSERT, 0, 0);
        Due.is("operation 199", x.insert(0, 0), 4);
        Due.is("operation 200", x.insert(0, 0), 5);
        Due.is("operation 201", x.insert(0, 0), LIMIT);
        Due.is("operations", x.forget(), 200);
        Due.is("the first operation after forget", x.insert(0, 0), 6);
        States.operations(200).unchanged(LIMIT, Call.INSERT, 0, 0);
        States.fullAndSpent().unchanged(LIMIT, Call.INSERT, 0, 0);
    }

    /** "remove ... INVALID_ARGUMENT if there is no such point" */
    private static void promise3NoSuchPoint() {
        for (int p : NO_POINTS) {
            States.empty().unchanged(INVALID, Call.REMOVE, p);
            States.busy().unchanged(INVALID, Call.REMOVE, p);
            States.atRest(24).unchanged(INVALID, Call.REMOVE, p);
        }
        States.empty().unchanged(INVALID, Call.REMOVE, 0);
        States.emptied().unchanged(INVALID, Call.REMOVE, 0);
        States.busy().unchanged(INVALID, Call.REMOVE, 4);
        States.atRest(23).unchanged(INVALID, Call.REMOVE, 23);
        States.atRest(23).after(220, Call.REMOVE, 22);
        States.atRest(23).then(Call.REMOVE, 10).unchanged(INVALID, Call.REMOVE, 10);
    }

    private static void promise3FirstAndLastNumber() {
        MovingHeap x = States.atRest(24).after(0, Call.REMOVE, 0);
        Due.is("size() without point 0", x.size(), 23);
        Due.is("point 0 without it", x.point(0, 0), INVALID);
        x = States.atRest(24).after(230, Call.REMOVE, 23);
        Due.is("size() without point 23", x.size(), 23);
        Due.is("at(22) without point 23", x.at(22), 22);
        Due.is("at(23) without point 23", x.at(23), NOT_FOUND);
        Due.is("no exchange for the last one", x.count(0), 0);
        x = States.one().after(18, Call.REMOVE, 0);
        Due.is("size() without the only point", x.size(), 0);
        Due.is("at(0) without the only point", x.at(0), NOT_FOUND);
        Due.is("operations", x.forget(), 2);
    }

    /** "Returns its value": the one at the present time. */
    private static void promise3ItsValueNow() {
        MovingHeap x = new MovingHeap();
        x.insert(1000000, 1000);
        x.insert(-1000000, -1000);
        x.pass(100000);
        Due.is("highest value", x.remove(0), 101000000);
        Due.is("lowest value", x.remove(1), -101000000);
    }

    /** "LIMIT_REACHED if 200 operations on points have been made" */
    private static void promise3LastOperation() {
        MovingHeap x = States.operations(198).after(40, Call.REMOVE, 2);
        Due.is("operation 200", x.remove(1), 91);
        Due.is("operation 201", x.remove(0), LIMIT);
        Due.is("size()", x.size(), 1);
        Due.is("operations", x.forget(), 200);
        Due.is("the first operation after forget", x.remove(0), 47);
        States.operations(200).unchanged(LIMIT, Call.REMOVE, 0);
        States.fullAndSpent().unchanged(LIMIT, Call.REMOVE, 23);
    }

    /** "setVelocity ... INVALID_ARGUMENT if there is no such point" */
    private static void promise4NoSuchPoint() {
        for (int p : NO_POINTS) {
            States.empty().unchanged(INVALID, Call.SET_VELOCITY, p, 0);
            States.busy().unchanged(INVALID, Call.SET_VELOCITY, p, 5);
            States.atRest(24).unchanged(INVALID, Call.SET_VELOCITY, p, 5);
        }
        States.empty().unchanged(INVALID, Call.SET_VELOCITY, 0, 0);
        States.emptied().unchanged(INVALID, Call.SET_VELOCITY, 0, 0);
        States.busy().unchanged(INVALID, Call.SET_VELOCITY, 4, 5);
        States.atRest(23).unchanged(INVALID, Call.SET_VELOCITY, 23, 5);
        States.atRest(24).after(0, Call.SET_VELOCITY, 23, 5);
        States.atRest(24).after(0, Call.SET_VELOCITY, 0, 5);
    }

    /** "velocity: -1000 to 1000" */
    private static void promise4Velocities() {
        for (int velocity : VELOCITIES) {
            MovingHeap x = States.one().after(2, Call.SET_VELOCITY, 0, velocity);
            Due.is("velocity after it", x.point(0, 1), velocity);
            Due.is("value after it", x.point(0, 0), 18);
            x.pass(5);
            Due.is("value one unit later", x.point(0, 0), 18 + velocity);
        }
        for (int velocity : NO_VELOCITIES) {
            States.one().unchanged(INVALID, Call.SET_VELOCITY, 0, velocity);
            States.busy().unchanged(INVALID, Call.SET_VELOCITY, 4, velocity);
        }
    }

    /** "Returns the previous velocity"; "When the velocity is changed, the value ... stays." */
    private static void promise4PreviousVelocity() {
        MovingHeap x = new MovingHeap();
        x.insert(1000000, 1000);
        x.pass(50000);
        Due.is("velocity before", x.setVelocity(0, -1000), 1000);
        Due.is("value beyond those of insert", x.point(0, 0), 51000000);
        x.pass(100000);
        Due.is("value at the last time", x.point(0, 0), 1000000);
        Due.is("velocity before, again", x.setVelocity(0, 0), -1000);
        Due.is("value at the last time, still", x.point(0, 0), 1000000);
        Due.is("birth", x.point(0, 3), 0);
    }

    /** A velocity that stays is an operation on points as well. */
    private static void promise4SameVelocity() {
        MovingHeap x = States.one().after(2, Call.SET_VELOCITY, 0, 2);
        Due.is("velocity", x.point(0, 1), 2);
        Due.is("value", x.point(0, 0), 18);
        Due.is("operations", x.forget(), 2);
    }

    /** "LIMIT_REACHED as for remove." */
    private static void promise4LastOperation() {
        MovingHeap x = States.operations(198).after(1, Call.SET_VELOCITY, 0, 7);
        Due.is("operation 200", x.setVelocity(0, 8), 7);
        Due.is("operation 201", x.setVelocity(0, 9), LIMIT);
        Due.is("velocity", x.point(0, 1), 8);
        Due.is("operations", x.forget(), 200);
        Due.is("the first operation after forget", x.setVelocity(0, 10), 8);
        States.operations(200).unchanged(LIMIT, Call.SET_VELOCITY, 0, 7);
        States.fullAndSpent().unchanged(LIMIT, Call.SET_VELOCITY, 23, -1000);
    }

    /** "jump ... INVALID_ARGUMENT if there is no such point" */
    private static void promise5NoSuchPoint() {
        for (int p : NO_POINTS) {
            States.empty().unchanged(INVALID, Call.JUMP, p, 0);
            States.busy().unchanged(INVALID, Call.JUMP, p, 5);
            States.atRest(24).unchanged(INVALID, Call.JUMP, p, 5);
        }
        States.empty().unchanged(INVALID, Call.JUMP, 0, 0);
        States.emptied().unchanged(INVALID, Call.JUMP, 0, 0);
        States.busy().unchanged(INVALID, Call.JUMP, 4, 5);
        States.atRest(23).unchanged(INVALID, Call.JUMP, 23, 5);
        States.atRest(24).after(230, Call.JUMP, 23, 5);
        States.atRest(24).after(0, Call.JUMP, 0, 5);
    }

    /** "value: -1000000 to 1000000" */
    private static void promise5Values() {
        for (int value : VALUES) {
            MovingHeap x = States.one().after(18, Call.JUMP, 0, value);
            Due.is("value after it", x.point(0, 0), value);
            Due.is("velocity after it", x.point(0, 1), 2);
            Due.is("birth after it", x.point(0, 3), 0);
            x.pass(5);
            Due.is("value one unit later", x.point(0, 0), value + 2);
        }
        for (int value : NO_VALUES) {
            States.one().unchanged(INVALID, Call.JUMP, 0, value);
            States.busy().unchanged(INVALID, Call.JUMP, 4, value);
        }
    }

    /** "Returns the previous value": also one that no jump leads to. */
    private static void promise5PreviousValue() {
        MovingHeap x = new MovingHeap();
        x.insert(1000000, 1);
        x.insert(-1000000, -1);
        x.pass(1);
        Due.is("above the range of jump", x.jump(0, 1000000), 1000001);
        Due.is("below the range of jump", x.jump(1, -1000000), -1000001);
        Due.is("at the end of the range", x.jump(0, 0), 1000000);
        Due.is("at the beginning of the range", x.jump(1, 0), -1000000);
    }

    /** A jump to the same value is an operation on points as well. */
    private static void promise5SameValue() {
        MovingHeap x = States.one().after(18, Call.JUMP, 0, 18);
        Due.is("value", x.point(0, 0), 18);
        Due.is("operations", x.forget(), 2);
    }

    /** "LIMIT_REACHED as for remove." */
    private static void promise5LastOperation() {
        MovingHeap x = States.operations(198).after(47, Call.JUMP, 0, 7);
        Due.is("operation 200", x.jump(0, 8), 7);
        Due.is("operation 201", x.jump(0, 9), LIMIT);
        Due.is("value", x.point(0, 0), 8);
        Due.is("operations", x.forget(), 200);
        Due.is("the first operation after forget", x.jump(0, 10), 8);
        States.operations(200).unchanged(LIMIT, Call.JUMP, 0, 7);
        States.fullAndSpent().unchanged(LIMIT, Call.JUMP, 23, -1000000);
    }

    /** "Returns the number of points." */
    private static void promise6Size() {
        for (int points = 0; points <= 24; points++) {
            States.atRest(points).unchanged(points, Call.SIZE);
        }
        MovingHeap x = States.atRest(24).heap();
        x.insert(0, 0);
        Due.is("size() after a refused insert", x.size(), 24);
        for (int p = 0; p < 24; p++) {
            x.remove(p);
            Due.is("size() after a removal", x.size(), 23 - p);
        }
        x.remove(0);
        Due.is("size() after a refused removal", x.size(), 0);
        States.emptied().unchanged(0, Call.SIZE);
        States.last().unchanged(2, Call.SIZE);
    }

    /** "point ... INVALID_ARGUMENT if an argument is out of range": the number of no point. */
    private static void promise7NoSuchPoint() {
        for (int p : NO_POINTS) {
            States.empty().unchanged(INVALID, Call.POINT, p, 0);
            States.busy().unchanged(INVALID, Call.POINT, p, 2);
            States.atRest(24).unchanged(INVALID, Call.POINT, p, 4);
        }
        for (int what = 0; what < 5; what++) {
            States.empty().unchanged(INVALID, Call.POINT, 0, what);
            States.emptied().unchanged(INVALID, Call.POINT, 1, what);
            States.busy().unchanged(INVALID, Call.POINT, 4, what);
            States.atRest(23).unchanged(INVALID, Call.POINT, 23, what);
            States.atRest(23).then(Call.REMOVE, 0).unchanged(INVALID, Call.POINT, 0, what);
        }
    }

    /** "what: 0 ...; 4": one below, one above and the ends of int are out of range. */
    private static void promise7What() {
        for (int what : new int[] {LEAST, LEAST + 1, -2, -1, 5, 6, GREATEST - 1, GREATEST}) {
            States.empty().unchanged(INVALID, Call.POINT, 0, what);
            States.one().unchanged(INVALID, Call.POINT, 0, what);
            States.one().unchanged(INVALID, Call.POINT, 24, what);
            States.atRest(24).unchanged(INVALID, Call.POINT, 23, what);
        }
        long[] due = {18, 2, 0, 0, 0};
        for (int what = 0; what < 5; what++) {
            States.one().unchanged(due[what], Call.POINT, 0, what);
        }
    }

    private static void promise7FullHeap() {
        for (int p = 0; p < 24; p++) {
            States.atRest(24).unchanged(10 * p, Call.POINT, p, 0);
            States.atRest(24).unchanged(0, Call.POINT, p, 1);
            States.atRest(24).unchanged(p, Call.POINT, p, 2);
            States.atRest(24).unchanged(0, Call.POINT, p, 3);
            States.atRest(24).unchanged(p, Call.POINT, p, 4);
        }
    }

    /** "4: its place in the order of all points (0 for the point that is before all others)" */
    private static void promise7PlaceInTheOrder() {
        MovingHeap x = new MovingHeap();
        for (int p = 0; p < 24; p++) {
            x.insert(p < 12 ? 50 : 49, 0);
        }
        // Equal values are ordered by the numbers: 12 to 23 with 49, then 0 to 11 with 50.
        for (int p = 0; p < 24; p++) {
            Due.is("order of point " + p, x.point(p, 4), p < 12 ? p + 12 : p - 12);
        }
        x.jump(23, 51);
        Due.is("order of the last one", x.point(23, 4), 23);
        x.jump(23, 50);
        Due.is("order of the last number", x.point(23, 4), 23);
        x.jump(0, 51);
        Due.is("order of the last number then", x.point(23, 4), 22);
        Due.is("order of the highest value", x.point(0, 4), 23);
    }

    /** "3: its birth": "the time at which it was inserted" */
    private static void promise7Birth() {
        MovingHeap x = new MovingHeap();
        x.insert(0, 0);
        x.pass(1);
        x.insert(9, 0);
        x.pass(100000);
        x.insert(5, 0);
        Due.is("birth at the first time", x.point(0, 3), 0);
        Due.is("birth at time 1", x.point(1, 3), 1);
        Due.is("birth at the last time", x.point(2, 3), 100000);
        x.jump(0, 7);
        x.setVelocity(0, 7);
        x.forget();
        Due.is("birth after operations and forget", x.point(0, 3), 0);
        x.remove(0);
        Due.is("a number given again", x.insert(0, 0), 0);
        Due.is("birth of another point", x.point(0, 3), 100000);
        Due.is("birth of the one that stayed", x.point(1, 3), 1);
        x.remove(1);
        x.insert(0, 0);
        Due.is("birth in the place of one that was born at 1", x.point(1, 3), 100000);
    }

    /** "place: 0 or more"; "NOT_FOUND if there are not so many points" */
    private static void promise8Places() {
        for (int place : new int[] {LEAST, LEAST + 1, -2, -1}) {
            States.empty().unchanged(INVALID, Call.AT, place);
            States.busy().unchanged(INVALID, Call.AT, place);
            States.atRest(24).unchanged(INVALID, Call.AT, place);
        }
        for (int place : new int[] {24, 25, GREATEST - 1, GREATEST}) {
            States.empty().unchanged(NOT_FOUND, Call.AT, place);
            States.busy().unchanged(NOT_FOUND, Call.AT, place);
            States.atRest(24).unchanged(NOT_FOUND, Call.AT, place);
        }
        for (int points = 0; points <= 24; points++) {
            States.atRest(points).unchanged(NOT_FOUND, Call.AT, points);
            if (points > 0) {
                States.atRest(points).unchanged(0, Call.AT, 0);
                States.atRest(points).unchanged(points - 1, Call.AT, points - 1);
            }
        }
        States.emptied().unchanged(NOT_FOUND, Call.AT, 0);
        States.atRest(24).then(Call.REMOVE, 23).unchanged(NOT_FOUND, Call.AT, 23);
    }
}
