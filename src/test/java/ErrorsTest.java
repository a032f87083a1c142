/** The heading "Errors": which of several errors is returned, and that it changes nothing. */
public final class ErrorsTest {
    private static final long INVALID = MovingHeap.INVALID_ARGUMENT;
    private static final long NOT_POSSIBLE = MovingHeap.NOT_POSSIBLE;
    private static final long LIMIT = MovingHeap.LIMIT_REACHED;
    private static final long NOT_FOUND = MovingHeap.NOT_FOUND;

    private ErrorsTest() {
    }

    public static void main(String[] args) {
        constants();
        noErrorIsAnAnswer();
        invalidRatherThanNotPossible();
        invalidRatherThanLimit();
        invalidRatherThanNotFound();
        invalidRatherThanAll();
        notPossibleRatherThanNotFound();
        bothLimitsAtOnce();
        refusedAgainAndAgain();
        Due.finish();
    }

    private static void constants() {
        Due.is("INVALID_ARGUMENT", INVALID, -1000000000001L);
        Due.is("NOT_POSSIBLE", NOT_POSSIBLE, -1000000000002L);
        Due.is("LIMIT_REACHED", LIMIT, -1000000000003L);
        Due.is("NOT_FOUND", NOT_FOUND, -1000000000004L);
    }

    /** The lowest value that there can be is far from the errors, and is told as it is. */
    private static void noErrorIsAnAnswer() {
        MovingHeap x = new MovingHeap();
        x.insert(-1000000, -1000);
        x.pass(100000);
        Due.is("point(0, 0)", x.point(0, 0), -101000000);
        Due.is("valueAt(0, 100000)", x.valueAt(0, 100000), -101000000);
        Due.is("leastBetween(100000, 100000)", x.leastBetween(100000, 100000), -101000000);
        Due.is("jump(0, -1)", x.jump(0, -1), -101000000);
        Due.is("remove(0)", x.remove(0), -1);
    }

    /** "INVALID_ARGUMENT is returned rather than NOT_POSSIBLE" */
    private static void invalidRatherThanNotPossible() {
        // What was forgotten is before 10; the present time is 20.
        Past past = States.forgotten();
        past.unchanged(INVALID, Call.TOP_AT, -1);
        past.unchanged(NOT_POSSIBLE, Call.TOP_AT, 0);
        past.unchanged(INVALID, Call.SIZE_AT, -1);
        past.unchanged(NOT_POSSIBLE, Call.SIZE_AT, 0);
        past.unchanged(INVALID, Call.VALUE_AT, -1, 9);
        past.unchanged(NOT_POSSIBLE, Call.VALUE_AT, 0, 9);
        past.unchanged(NOT_POSSIBLE, Call.VALUE_AT, 23, 9);
        past.unchanged(INVALID, Call.VALUE_AT, 24, 9);
        past.unchanged(INVALID, Call.VALUE_AT, 0, -1);
        past.unchanged(INVALID, Call.ORDER_AT, -1, 9);
        past.unchanged(NOT_POSSIBLE, Call.ORDER_AT, 0, 9);
        past.unchanged(INVALID, Call.ORDER_AT, 0, -1);
        past.unchanged(INVALID, Call.TOP_CHANGES, 0, 20);
        past.unchanged(NOT_POSSIBLE, Call.TOP_CHANGES, 1, 20);
        past.unchanged(INVALID, Call.TOP_CHANGES, 5, 4);
        past.unchanged(INVALID, Call.TOP_CHANGES, 5, 21);
        past.unchanged(INVALID, Call.LEAST_BETWEEN, -1, 20);
        past.unchanged(NOT_POSSIBLE, Call.LEAST_BETWEEN, 0, 20);
        past.unchanged(INVALID, Call.LEAST_BETWEEN, 5, 4);
        past.unchanged(INVALID, Call.LEAST_BETWEEN, 5, 21);
        Past late = new Past("forgotten at 600").then(Call.PASS, 600).then(Call.FORGET)
            .then(Call.PASS, 700);
        late.unchanged(NOT_POSSIBLE, Call.TOP_CHANGES, 100, 600);
        late.unchanged(INVALID, Call.TOP_CHANGES, 100, 601);
        late.unchanged(NOT_POSSIBLE, Call.LEAST_BETWEEN, 100, 600);
        late.unchanged(INVALID, Call.LEAST_BETWEEN, 100, 601);
    }

    /** INVALID_ARGUMENT rather than LIMIT_REACHED. */
    private static void invalidRatherThanLimit() {
        Past[] pasts = {States.operations(200), States.fullAndSpent(), States.atRest(24)};
        for (Past past : pasts) {
            past.unchanged(INVALID, Call.INSERT, 1000001, 0);
            past.unchanged(INVALID, Call.INSERT, -1000001, 0);
            past.unchanged(INVALID, Call.INSERT, 0, 1001);
            past.unchanged(INVALID, Call.INSERT, 0, -1001);
            past.unchanged(LIMIT, Call.INSERT, 1000000, 1000);
            past.unchanged(LIMIT, Call.INSERT, -1000000, -1000);
        }
        for (int i = 0; i < 2; i++) {
            pasts[i].unchanged(INVALID, Call.REMOVE, -1);
            pasts[i].unchanged(INVALID, Call.REMOVE, 24);
            pasts[i].unchanged(LIMIT, Call.REMOVE, 0);
            pasts[i].unchanged(INVALID, Call.SET_VELOCITY, 24, 0);
            pasts[i].unchanged(INVALID, Call.SET_VELOCITY, 0, 1001);
            pasts[i].unchanged(INVALID, Call.SET_VELOCITY, 0, -1001);
            pasts[i].unchanged(LIMIT, Call.SET_VELOCITY, 0, 1000);
            pasts[i].unchanged(LIMIT, Call.SET_VELOCITY, 0, -1000);
            pasts[i].unchanged(INVALID, Call.JUMP, -1, 0);
            pasts[i].unchanged(INVALID, Call.JUMP, 0, 1000001);
            pasts[i].unchanged(INVALID, Call.JUMP, 0, -1000001);
            pasts[i].unchanged(LIMIT, Call.JUMP, 0, 1000000);
            pasts[i].unchanged(LIMIT, Call.JUMP, 0, -1000000);
        }
        // There are points 0, 1 and 2 alone.
        pasts[0].unchanged(INVALID, Call.REMOVE, 3);
        pasts[0].unchanged(INVALID, Call.SET_VELOCITY, 3, 0);
        pasts[0].unchanged(INVALID, Call.JUMP, 3, 0);
    }

    /** INVALID_ARGUMENT rather than NOT_FOUND. */
    private static void invalidRatherThanNotFound() {
        Past[] pasts = {States.empty(), States.atRest(24)};
        for (Past past : pasts) {
            past.unchanged(NOT_FOUND, Call.CALENDAR, 23, 1);
            past.unchanged(INVALID, Call.CALENDAR, 23, 2);
            past.unchanged(INVALID, Call.CALENDAR, 23, -1);
            past.unchanged(INVALID, Call.CALENDAR, -1, 1);
            past.unchanged(NOT_FOUND, Call.AT, 24);
            past.unchanged(INVALID, Call.AT, -1);
            past.unchanged(NOT_FOUND, Call.ORDER_AT, 24, 0);
            past.unchanged(INVALID, Call.ORDER_AT, 24, 1);
            past.unchanged(INVALID, Call.ORDER_AT, 24, -1);
            past.unchanged(INVALID, Call.ORDER_AT, -1, 0);
        }
        States.empty().unchanged(NOT_FOUND, Call.VALUE_AT, 23, 0);
        States.empty().unchanged(INVALID, Call.VALUE_AT, 24, 0);
        States.empty().unchanged(INVALID, Call.VALUE_AT, 23, 1);
        States.empty().unchanged(NOT_FOUND, Call.TOP_AT, 0);
        States.empty().unchanged(INVALID, Call.TOP_AT, 1);
        States.empty().unchanged(NOT_FOUND, Call.LEAST_BETWEEN, 0, 0);
        States.empty().unchanged(INVALID, Call.LEAST_BETWEEN, 0, 1);
        States.atRest(2).unchanged(NOT_FOUND, Call.FAILURE, 1);
        States.atRest(2).unchanged(INVALID, Call.FAILURE, 2);
        States.atRest(2).unchanged(NOT_FOUND, Call.MEETING, 0, 1);
        States.atRest(2).unchanged(INVALID, Call.MEETING, 1, 1);
        States.emptyAtTheEnd().unchanged(NOT_FOUND, Call.LEAST_BETWEEN, 99500, 100000);
        States.emptyAtTheEnd().unchanged(INVALID, Call.LEAST_BETWEEN, 99499, 100000);
    }

    /** An argument out of range where the time is forgotten and there was no point. */
    private static void invalidRatherThanAll() {
        Past past = States.forgottenEmpty();
        past.unchanged(INVALID, Call.TOP_AT, -1);
        past.unchanged(INVALID, Call.VALUE_AT, 24, 4);
        past.unchanged(INVALID, Call.VALUE_AT, -1, 4);
        past.unchanged(INVALID, Call.ORDER_AT, -1, 4);
        past.unchanged(INVALID, Call.LEAST_BETWEEN, -1, 4);
        past.unchanged(INVALID, Call.LEAST_BETWEEN, 4, 3);
        past.unchanged(INVALID, Call.LEAST_BETWEEN, 4, 9);
    }

    /** "NOT_POSSIBLE rather than LIMIT_REACHED, and LIMIT_REACHED rather than NOT_FOUND" */
    private static void notPossibleRatherThanNotFound() {
        // No call knows LIMIT_REACHED beside one of these two; so they are compared alone.
        Past past = States.forgottenEmpty();
        past.unchanged(NOT_POSSIBLE, Call.TOP_AT, 4);
        past.unchanged(NOT_FOUND, Call.TOP_AT, 5);
        past.unchanged(NOT_POSSIBLE, Call.VALUE_AT, 0, 4);
        past.unchanged(NOT_FOUND, Call.VALUE_AT, 0, 5);
        past.unchanged(NOT_POSSIBLE, Call.ORDER_AT, 0, 4);
        past.unchanged(NOT_FOUND, Call.ORDER_AT, 0, 5);
        past.unchanged(NOT_POSSIBLE, Call.ORDER_AT, 99, 4);
        past.unchanged(NOT_FOUND, Call.ORDER_AT, 99, 5);
        past.unchanged(NOT_POSSIBLE, Call.LEAST_BETWEEN, 4, 8);
        past.unchanged(NOT_FOUND, Call.LEAST_BETWEEN, 5, 8);
        // Without points there is no next one, either.
        past.unchanged(NOT_POSSIBLE, Call.TOP_CHANGE);
        States.empty().unchanged(NOT_POSSIBLE, Call.TOP_CHANGE);
        States.one().unchanged(NOT_FOUND, Call.TOP_CHANGE);
    }

    /** "LIMIT_REACHED if there are 24 points, or 200 operations ... have been made" */
    private static void bothLimitsAtOnce() {
        States.atRest(24).unchanged(LIMIT, Call.INSERT, 0, 0);
        States.operations(200).unchanged(LIMIT, Call.INSERT, 0, 0);
        States.fullAndSpent().unchanged(LIMIT, Call.INSERT, 0, 0);
        Past full = States.fullAndSpent().then(Call.FORGET);
        full.unchanged(LIMIT, Call.INSERT, 0, 0);
        // Point 23 made its last jump as operation 192, to the value 191.
        MovingHeap x = full.after(191, Call.REMOVE, 23);
        Due.is("insert into the place of point 23", x.insert(0, 0), 23);
    }

    /** Errors do not add up: the same call is refused, and nothing changes, a hundred times. */
    private static void refusedAgainAndAgain() {
        Past past = States.busy();
        Past refused = States.busy();
        for (int i = 0; i < 25; i++) {
            refused.then(Call.INSERT, 1000001, 0).then(Call.REMOVE, 4)
                .then(Call.SET_VELOCITY, 0, -1001).then(Call.JUMP, 24, 0)
                .then(Call.PASS, 6).then(Call.COUNT, 3).then(Call.TOP_CHANGES, 0, 7);
        }
        for (int part = 0; part < Look.PARTS; part++) {
            String difference = Look.at(refused.heap(), part)
                .difference(Look.at(past.heap(), part));
            Due.holds("nothing changed (" + difference + ")", difference.isEmpty());
        }
        Past limit = States.operations(200);
        MovingHeap x = limit.heap();
        for (int i = 0; i < 100; i++) {
            Due.is("insert at the limit", x.insert(0, 0), LIMIT);
        }
        Due.is("forget() after a hundred refused inserts", x.forget(), 200);
        Due.is("insert after forget", x.insert(0, 0), 3);
    }
}
