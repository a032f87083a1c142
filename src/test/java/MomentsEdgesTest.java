/** Promises 18 to 21 and 24 at their bounds: the first and the present time, and forgetting. */
public final class MomentsEdgesTest {
    private static final long INVALID = MovingHeap.INVALID_ARGUMENT;
    private static final long NOT_POSSIBLE = MovingHeap.NOT_POSSIBLE;
    private static final long LIMIT = MovingHeap.LIMIT_REACHED;
    private static final long NOT_FOUND = MovingHeap.NOT_FOUND;
    private static final int LEAST = States.LEAST;
    private static final int GREATEST = States.GREATEST;
    /** The points of States.busy() in their order at the times 0 to 7, by hand. */
    private static final int[][] BUSY_ORDERS = {
        {0, 1, 2}, {0, 1, 2}, {0, 3, 2}, {0, 2, 3}, {0, 2, 3}, {2, 1, 3, 0}, {2, 3, 1, 0},
        {2, 3, 1, 0}
    };
    /** The values of points 0 to 3 of States.busy() at the times 0 to 7, by hand. */
    private static final long[][] BUSY_VALUES = {
        {0, 10, 20, NOT_FOUND}, {3, 10, 18, NOT_FOUND}, {6, NOT_FOUND, 16, 15},
        {9, NOT_FOUND, 14, 14}, {12, NOT_FOUND, 12, 13}, {15, 12, 9, 12}, {16, 13, 7, 11},
        {17, 14, 5, 10}
    };

    private MomentsEdgesTest() {
    }

    public static void main(String[] args) {
        promise18Times();
        promise18NoPoints();
        promise18AllTimes();
        promise18Forgotten();
        promise18FullHeap();
        promise19Points();
        promise19Times();
        promise19NoPointWithThisNumber();
        promise19AllTimes();
        promise19Forgotten();
        promise19HighestValues();
        promise20Places();
        promise20Times();
        promise20AllTimes();
        promise20NoPoints();
        promise20Forgotten();
        promise20FullHeap();
        promise21Times();
        promise21EmptyToFull();
        promise21Forgotten();
        promise24NumberOfOperations();
        promise24RefusedOperations();
        promise24LimitFromForgetOn();
        promise24TheLatestForget();
        promise24AtTheFirstTime();
        promise24AtTheLastTime();
        promise24PresentStateStays();
        Due.finish();
    }

    /** "time: 0 to the present time" */
    private static void timesOutOfRange(Call call) {
        Past[] pasts = {States.empty(), States.one(), States.busy(), States.fullInMotion(),
            States.forgotten(), States.forgottenEmpty(), States.last()};
        for (Past past : pasts) {
            int now = past.heap().time();
            int[] times = {LEAST, LEAST + 1, -100000, -2, -1, now + 1, now + 2, 100001,
                GREATEST - 1, GREATEST};
            for (int time : times) {
                if (call.arguments() == 1) {
                    past.unchanged(INVALID, call, time);
                } else {
                    past.unchanged(INVALID, call, 0, time);
                    past.unchanged(INVALID, call, 23, time);
                }
            }
        }
    }

    private static void promise18Times() {
        timesOutOfRange(Call.TOP_AT);
        States.empty().unchanged(NOT_FOUND, Call.TOP_AT, 0);
        States.one().unchanged(0, Call.TOP_AT, 0);
        States.one().unchanged(0, Call.TOP_AT, 4);
        States.last().unchanged(NOT_FOUND, Call.TOP_AT, 99989);
        States.last().unchanged(1, Call.TOP_AT, 99990);
        States.last().unchanged(1, Call.TOP_AT, 99999);
        States.last().unchanged(1, Call.TOP_AT, 100000);
    }

    /** "NOT_FOUND if there were no points"; "There were no points before the first operation." */
    private static void promise18NoPoints() {
        long[] due = {NOT_FOUND, NOT_FOUND, NOT_FOUND, 1, 1, NOT_FOUND, NOT_FOUND};
        for (int t = 0; t < due.length; t++) {
            States.emptied().unchanged(due[t], Call.TOP_AT, t);
        }
        States.emptyAtTheEnd().unchanged(NOT_FOUND, Call.TOP_AT, 0);
        States.emptyAtTheEnd().unchanged(NOT_FOUND, Call.TOP_AT, 100000);
        States.forgottenEmpty().unchanged(NOT_FOUND, Call.TOP_AT, 5);
        States.forgottenEmpty().unchanged(NOT_FOUND, Call.TOP_AT, 8);
    }

    private static void promise18AllTimes() {
        for (int t = 0; t < BUSY_ORDERS.length; t++) {
            States.busy().unchanged(BUSY_ORDERS[t][0], Call.TOP_AT, t);
        }
    }

    /** "NOT_POSSIBLE if time is before that of the latest call of forget" */
    private static void promise18Forgotten() {
        States.forgotten().unchanged(NOT_POSSIBLE, Call.TOP_AT, 0);
        States.forgotten().unchanged(NOT_POSSIBLE, Call.TOP_AT, 8);
        States.forgotten().unchanged(NOT_POSSIBLE, Call.TOP_AT, 9);
        States.forgotten().unchanged(1, Call.TOP_AT, 10);
        States.forgotten().unchanged(1, Call.TOP_AT, 11);
        States.forgotten().unchanged(1, Call.TOP_AT, 20);
        States.forgottenEmpty().unchanged(NOT_POSSIBLE, Call.TOP_AT, 4);
        States.forgottenTwice().unchanged(NOT_POSSIBLE, Call.TOP_AT, 3);
        States.forgottenTwice().unchanged(NOT_POSSIBLE, Call.TOP_AT, 5);
        States.forgottenTwice().unchanged(0, Call.TOP_AT, 6);
    }

    private static void promise18FullHeap() {
        for (int p = 0; p < 24; p++) {
            Past past = States.atRest(24).then(Call.PASS, 1).then(Call.JUMP, p, -1)
                .then(Call.PASS, 2);
            past.unchanged(0, Call.TOP_AT, 0);
            past.unchanged(p, Call.TOP_AT, 1);
            past.unchanged(p, Call.TOP_AT, 2);
        }
    }

    /** "point: 0 to 23" */
    private static void promise19Points() {
        Past[] pasts = {States.empty(), States.busy(), States.atRest(24), States.forgotten()};
        for (Past past : pasts) {
            int now = past.heap().time();
            for (int p : new int[] {LEAST, LEAST + 1, -2, -1, 24, 25, GREATEST - 1, GREATEST}) {
                past.unchanged(INVALID, Call.VALUE_AT, p, 0);
                past.unchanged(INVALID, Call.VALUE_AT, p, now);
                past.unchanged(INVALID, Call.VALUE_AT, p, now + 1);
                past.unchanged(INVALID, Call.VALUE_AT, p, -1);
            }
        }
        for (int p = 0; p < 24; p++) {
            States.empty().unchanged(NOT_FOUND, Call.VALUE_AT, p, 0);
            States.atRest(24).unchanged(10 * p, Call.VALUE_AT, p, 0);
        }
        States.atRest(23).unchanged(220, Call.VALUE_AT, 22, 0);
        States.atRest(23).unchanged(NOT_FOUND, Call.VALUE_AT, 23, 0);
    }

    private static void promise19Times() {
        timesOutOfRange(Call.VALUE_AT);
        States.one().unchanged(10, Call.VALUE_AT, 0, 0);
        States.one().unchanged(12, Call.VALUE_AT, 0, 1);
        States.one().unchanged(16, Call.VALUE_AT, 0, 3);
        States.one().unchanged(18, Call.VALUE_AT, 0, 4);
        States.last().unchanged(50, Call.VALUE_AT, 0, 99990);
        States.last().unchanged(77, Call.VALUE_AT, 0, 99999);
        States.last().unchanged(80, Call.VALUE_AT, 0, 100000);
    }

    /** "NOT_FOUND if there was no point with this number": before it came, when it was gone. */
    private static void promise19NoPointWithThisNumber() {
        States.last().unchanged(NOT_FOUND, Call.VALUE_AT, 0, 0);
        States.last().unchanged(NOT_FOUND, Call.VALUE_AT, 0, 99989);
        States.last().unchanged(NOT_FOUND, Call.VALUE_AT, 2, 100000);
        States.emptied().unchanged(NOT_FOUND, Call.VALUE_AT, 0, 2);
        States.emptied().unchanged(5, Call.VALUE_AT, 0, 3);
        States.emptied().unchanged(6, Call.VALUE_AT, 0, 4);
        States.emptied().unchanged(NOT_FOUND, Call.VALUE_AT, 0, 5);
        States.emptied().unchanged(NOT_FOUND, Call.VALUE_AT, 0, 6);
    }

    private static void promise19AllTimes() {
        for (int t = 0; t < BUSY_VALUES.length; t++) {
            for (int p = 0; p < 4; p++) {
                States.busy().unchanged(BUSY_VALUES[t][p], Call.VALUE_AT, p, t);
            }
            States.busy().unchanged(NOT_FOUND, Call.VALUE_AT, 4, t);
        }
    }

    /** "NOT_POSSIBLE as for topAt" */
    private static void promise19Forgotten() {
        States.forgotten().unchanged(NOT_POSSIBLE, Call.VALUE_AT, 0, 0);
        States.forgotten().unchanged(NOT_POSSIBLE, Call.VALUE_AT, 0, 9);
        States.forgotten().unchanged(NOT_POSSIBLE, Call.VALUE_AT, 23, 9);
        States.forgotten().unchanged(100, Call.VALUE_AT, 0, 10);
        States.forgotten().unchanged(50, Call.VALUE_AT, 1, 10);
        States.forgotten().unchanged(NOT_FOUND, Call.VALUE_AT, 2, 10);
        States.forgotten().unchanged(51, Call.VALUE_AT, 1, 11);
        States.forgotten().unchanged(100, Call.VALUE_AT, 0, 15);
        States.forgotten().unchanged(98, Call.VALUE_AT, 0, 16);
        States.forgotten().unchanged(90, Call.VALUE_AT, 0, 20);
        States.forgottenTwice().unchanged(NOT_POSSIBLE, Call.VALUE_AT, 0, 3);
        States.forgottenTwice().unchanged(NOT_POSSIBLE, Call.VALUE_AT, 0, 5);
        States.forgottenTwice().unchanged(22, Call.VALUE_AT, 0, 6);
    }

    private static void promise19HighestValues() {
        MovingHeap x = new MovingHeap();
        x.insert(1000000, 1000);
        x.insert(-1000000, -1000);
        x.pass(100000);
        Due.is("highest value", x.valueAt(0, 100000), 101000000);
        Due.is("lowest value", x.valueAt(1, 100000), -101000000);
        Due.is("highest value at 99999", x.valueAt(0, 99999), 100999000);
        x.jump(0, -1000000);
        x.jump(1, 1000000);
        Due.is("value after a jump down", x.valueAt(0, 100000), -1000000);
        Due.is("value after a jump up", x.valueAt(1, 100000), 1000000);
        Due.is("value before the jumps", x.valueAt(1, 99999), -100999000);
        Due.is("value at the first time", x.valueAt(1, 0), -1000000);
    }

    /** "place: 0 or more"; "INVALID_ARGUMENT if place is negative" */
    private static void promise20Places() {
        Past[] pasts = {States.empty(), States.busy(), States.atRest(24), States.forgotten()};
        for (Past past : pasts) {
            int now = past.heap().time();
            for (int place : new int[] {LEAST, LEAST + 1, -2, -1}) {
                past.unchanged(INVALID, Call.ORDER_AT, place, now);
                past.unchanged(INVALID, Call.ORDER_AT, place, 0);
                past.unchanged(INVALID, Call.ORDER_AT, place, now + 1);
            }
            for (int place : new int[] {24, 25, GREATEST - 1, GREATEST}) {
                past.unchanged(NOT_FOUND, Call.ORDER_AT, place, now);
                past.unchanged(INVALID, Call.ORDER_AT, place, now + 1);
                past.unchanged(INVALID, Call.ORDER_AT, place, -1);
            }
        }
    }

    private static void promise20Times() {
        timesOutOfRange(Call.ORDER_AT);
        States.one().unchanged(0, Call.ORDER_AT, 0, 0);
        States.one().unchanged(0, Call.ORDER_AT, 0, 4);
        States.one().unchanged(NOT_FOUND, Call.ORDER_AT, 1, 4);
        States.last().unchanged(NOT_FOUND, Call.ORDER_AT, 0, 99989);
        States.last().unchanged(0, Call.ORDER_AT, 1, 99990);
        States.last().unchanged(0, Call.ORDER_AT, 1, 100000);
        States.last().unchanged(NOT_FOUND, Call.ORDER_AT, 2, 100000);
    }

    /** "NOT_FOUND if there were not so many points": one place past the last one. */
    private static void promise20AllTimes() {
        for (int t = 0; t < BUSY_ORDERS.length; t++) {
            int[] order = BUSY_ORDERS[t];
            for (int place = 0; place < order.length; place++) {
                States.busy().unchanged(order[place], Call.ORDER_AT, place, t);
            }
            States.busy().unchanged(NOT_FOUND, Call.ORDER_AT, order.length, t);
            States.busy().unchanged(NOT_FOUND, Call.ORDER_AT, order.length + 1, t);
        }
    }

    private static void promise20NoPoints() {
        States.empty().unchanged(NOT_FOUND, Call.ORDER_AT, 0, 0);
        States.emptyAtTheEnd().unchanged(NOT_FOUND, Call.ORDER_AT, 0, 100000);
        States.emptied().unchanged(NOT_FOUND, Call.ORDER_AT, 0, 2);
        States.emptied().unchanged(1, Call.ORDER_AT, 0, 3);
        States.emptied().unchanged(0, Call.ORDER_AT, 1, 4);
        States.emptied().unchanged(NOT_FOUND, Call.ORDER_AT, 2, 4);
        States.emptied().unchanged(NOT_FOUND, Call.ORDER_AT, 0, 5);
    }

    /** "NOT_POSSIBLE as for topAt" */
    private static void promise20Forgotten() {
        States.forgotten().unchanged(NOT_POSSIBLE, Call.ORDER_AT, 0, 0);
        States.forgotten().unchanged(NOT_POSSIBLE, Call.ORDER_AT, 0, 9);
        States.forgotten().unchanged(NOT_POSSIBLE, Call.ORDER_AT, 24, 9);
        States.forgotten().unchanged(NOT_POSSIBLE, Call.ORDER_AT, GREATEST, 9);
        States.forgotten().unchanged(1, Call.ORDER_AT, 0, 10);
        States.forgotten().unchanged(0, Call.ORDER_AT, 1, 10);
        States.forgotten().unchanged(NOT_FOUND, Call.ORDER_AT, 2, 10);
        States.forgotten().unchanged(0, Call.ORDER_AT, 1, 11);
        States.forgottenTwice().unchanged(NOT_POSSIBLE, Call.ORDER_AT, 0, 5);
        States.forgottenTwice().unchanged(0, Call.ORDER_AT, 0, 6);
    }

    private static void promise20FullHeap() {
        Past past = States.atRest(24).then(Call.PASS, 3);
        for (int place = 0; place < 24; place++) {
            past.unchanged(place, Call.ORDER_AT, place, 0);
            past.unchanged(place, Call.ORDER_AT, place, 3);
        }
        past.unchanged(NOT_FOUND, Call.ORDER_AT, 24, 3);
        Past equal = new Past("24 points with one value");
        for (int p = 0; p < 24; p++) {
            equal.then(Call.INSERT, 7, 0);
        }
        for (int place = 0; place < 24; place++) {
            equal.unchanged(place, Call.ORDER_AT, place, 0);
        }
    }

    private static void promise21Times() {
        timesOutOfRange(Call.SIZE_AT);
        States.empty().unchanged(0, Call.SIZE_AT, 0);
        States.emptyAtTheEnd().unchanged(0, Call.SIZE_AT, 0);
        States.emptyAtTheEnd().unchanged(0, Call.SIZE_AT, 100000);
        long[] due = {0, 0, 0, 2, 2, 0, 0};
        for (int t = 0; t < due.length; t++) {
            States.emptied().unchanged(due[t], Call.SIZE_AT, t);
        }
        for (int t = 0; t < BUSY_ORDERS.length; t++) {
            States.busy().unchanged(BUSY_ORDERS[t].length, Call.SIZE_AT, t);
        }
        States.last().unchanged(0, Call.SIZE_AT, 99989);
        States.last().unchanged(2, Call.SIZE_AT, 99990);
        States.last().unchanged(2, Call.SIZE_AT, 100000);
    }

    private static void promise21EmptyToFull() {
        Past past = new Past("a point more at each time");
        for (int p = 0; p < 24; p++) {
            past.then(Call.PASS, p + 1).then(Call.INSERT, p, 0);
        }
        past.then(Call.INSERT, 99, 0).then(Call.PASS, 25);
        for (int p = 0; p < 24; p++) {
            past.then(Call.PASS, 26 + p).then(Call.REMOVE, p);
        }
        for (int t = 0; t <= 24; t++) {
            past.unchanged(t, Call.SIZE_AT, t);
            past.unchanged(24 - t, Call.SIZE_AT, 25 + t);
        }
        past.unchanged(INVALID, Call.SIZE_AT, 50);
    }

    /** "NOT_POSSIBLE as for topAt" */
    private static void promise21Forgotten() {
        States.forgotten().unchanged(NOT_POSSIBLE, Call.SIZE_AT, 0);
        States.forgotten().unchanged(NOT_POSSIBLE, Call.SIZE_AT, 9);
        States.forgotten().unchanged(2, Call.SIZE_AT, 10);
        States.forgotten().unchanged(2, Call.SIZE_AT, 11);
        States.forgottenEmpty().unchanged(NOT_POSSIBLE, Call.SIZE_AT, 0);
        States.forgottenEmpty().unchanged(NOT_POSSIBLE, Call.SIZE_AT, 4);
        States.forgottenEmpty().unchanged(0, Call.SIZE_AT, 5);
        States.forgottenEmpty().unchanged(0, Call.SIZE_AT, 8);
        States.forgottenTwice().unchanged(NOT_POSSIBLE, Call.SIZE_AT, 5);
        States.forgottenTwice().unchanged(1, Call.SIZE_AT, 6);
    }

    /** "Returns the number of operations on points that had been made": each kind counts. */
    private static void promise24NumberOfOperations() {
        States.empty().unchanged(0, Call.FORGET);
        States.one().after(1, Call.FORGET);
        States.one().then(Call.SET_VELOCITY, 0, 5).after(2, Call.FORGET);
        States.one().then(Call.JUMP, 0, 5).after(2, Call.FORGET);
        States.one().then(Call.REMOVE, 0).after(2, Call.FORGET);
        States.atRest(24).after(24, Call.FORGET);
        States.operations(199).after(199, Call.FORGET);
        States.operations(200).after(200, Call.FORGET);
        States.busy().after(8, Call.FORGET);
        States.forgotten().after(1, Call.FORGET);
        States.forgottenTwice().after(0, Call.FORGET);
        MovingHeap x = States.busy().heap();
        x.pass(20);
        x.step();
        x.topAt(3);
        x.topChanges(1, 20);
        Due.is("forget() after calls that are no operations", x.forget(), 8);
        Due.is("forget() again", x.forget(), 0);
    }

    private static void promise24RefusedOperations() {
        MovingHeap x = States.operations(200).heap();
        x.insert(0, 0);
        x.remove(0);
        x.setVelocity(0, 0);
        x.jump(0, 0);
        Due.is("forget() after operations at the limit", x.forget(), 200);
        MovingHeap y = States.atRest(24).heap();
        y.insert(0, 0);
        y.remove(24);
        y.setVelocity(0, 1001);
        y.jump(-1, 0);
        Due.is("forget() after refused operations", y.forget(), 24);
        y.insert(0, 0);
        Due.is("forget() after one refused operation", y.forget(), 0);
    }

    /** "or 200 operations ... since the beginning or the latest call of forget" */
    private static void promise24LimitFromForgetOn() {
        MovingHeap x = new MovingHeap();
        x.insert(0, 0);
        for (int i = 1; i < 150; i++) {
            x.jump(0, i);
        }
        Due.is("forget() of 150", x.forget(), 150);
        x.pass(1);
        for (int i = 0; i < 200; i++) {
            Due.is("jump " + i, x.jump(0, 1000 + i), i == 0 ? 149 : 999 + i);
        }
        Due.is("jump 200", x.jump(0, 0), LIMIT);
        Due.is("remove at the limit", x.remove(0), LIMIT);
        Due.is("valueAt(0, 0)", x.valueAt(0, 0), 149);
        Due.is("valueAt(0, 1)", x.valueAt(0, 1), 1199);
        Due.is("forget() of 200", x.forget(), 200);
        Due.is("remove after forget", x.remove(0), 1199);
        Due.is("forget() of one", x.forget(), 1);
    }

    /** "to the latest call of forget", not to the first one. */
    private static void promise24TheLatestForget() {
        MovingHeap x = new MovingHeap();
        x.insert(1, 1);
        x.pass(4);
        x.forget();
        x.pass(9);
        Due.is("valueAt(0, 3)", x.valueAt(0, 3), NOT_POSSIBLE);
        Due.is("valueAt(0, 4)", x.valueAt(0, 4), 5);
        x.forget();
        Due.is("valueAt(0, 4) forgotten", x.valueAt(0, 4), NOT_POSSIBLE);
        Due.is("valueAt(0, 8) forgotten", x.valueAt(0, 8), NOT_POSSIBLE);
        Due.is("valueAt(0, 9)", x.valueAt(0, 9), 10);
        x.forget();
        Due.is("valueAt(0, 9) after another one", x.valueAt(0, 9), 10);
    }

    /** No time is before that of a forget at time 0. */
    private static void promise24AtTheFirstTime() {
        MovingHeap x = new MovingHeap();
        x.insert(3, 1);
        Due.is("forget() at time 0", x.forget(), 1);
        x.pass(2);
        Due.is("topAt(0)", x.topAt(0), 0);
        Due.is("valueAt(0, 0)", x.valueAt(0, 0), 3);
        Due.is("sizeAt(0)", x.sizeAt(0), 1);
        Due.is("topChanges(1, 2)", x.topChanges(1, 2), 0);
        Due.is("leastBetween(0, 2)", x.leastBetween(0, 2), 3);
        Due.is("topAt(-1)", x.topAt(-1), INVALID);
    }

    private static void promise24AtTheLastTime() {
        Past past = States.last().then(Call.FORGET);
        past.unchanged(NOT_POSSIBLE, Call.TOP_AT, 99999);
        past.unchanged(1, Call.TOP_AT, 100000);
        past.unchanged(NOT_POSSIBLE, Call.TOP_CHANGES, 100000, 100000);
        past.unchanged(60, Call.LEAST_BETWEEN, 100000, 100000);
        past.unchanged(NOT_POSSIBLE, Call.LEAST_BETWEEN, 99999, 100000);
        past.unchanged(INVALID, Call.TOP_AT, 100001);
        MovingHeap x = past.after(80, Call.REMOVE, 0);
        Due.is("sizeAt(100000) after the next operation", x.sizeAt(100000), 1);
    }

    /** "only the present state and what comes is known then": of the present nothing is lost. */
    private static void promise24PresentStateStays() {
        for (Past past : States.all()) {
            past.asModelled(Call.FORGET);
            MovingHeap x = past.heap();
            int number = x.size();
            long first = x.orderAt(0, x.time());
            long place = x.at(0);
            long next = x.topChange();
            long stops = x.count(1);
            x.forget();
            Due.is("size() after forget", x.size(), number);
            Due.is("sizeAt(now) after forget", x.sizeAt(x.time()), number);
            Due.is("orderAt(0, now) after forget", x.orderAt(0, x.time()), first);
            Due.is("at(0) after forget", x.at(0), place);
            Due.is("topChange() after forget", x.topChange(), next);
            Due.is("stops after forget", x.count(1), stops);
        }
    }
}
