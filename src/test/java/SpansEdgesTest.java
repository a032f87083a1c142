/** Promises 22 and 23 at their bounds: both ends of a span, its length, and what is in it. */
public final class SpansEdgesTest {
    private static final long INVALID = MovingHeap.INVALID_ARGUMENT;
    private static final long NOT_POSSIBLE = MovingHeap.NOT_POSSIBLE;
    private static final long NOT_FOUND = MovingHeap.NOT_FOUND;
    private static final int LEAST = States.LEAST;
    private static final int GREATEST = States.GREATEST;

    private SpansEdgesTest() {
    }

    public static void main(String[] args) {
        promise22From();
        promise22To();
        promise22Length();
        promise22AtTime0();
        promise22Forgotten();
        promise22ChangesAtBothEnds();
        promise22NoPointsCountAsOne();
        promise22NumberGivenAgain();
        promise22SeveralOperationsAtATime();
        promise22EveryTime();
        promise22FirstAndLastOperation();
        promise22LastTime();
        promise23From();
        promise23To();
        promise23Length();
        promise23Forgotten();
        promise23NoPoints();
        promise23LeastAtBothEnds();
        promise23LeastOfOneTime();
        promise23AllPoints();
        promise23HighestValues();
        promise23SeveralOperationsAtATime();
        promise23FirstAndLastOperation();
        Due.finish();
    }

    /** Spans with an end that is out of its range, from a lowest first time on, up to now. */
    private static void outOfRange(Past past, Call call, int lowest, int now) {
        for (int from : new int[] {LEAST, LEAST + 1, -100000, lowest - 2, lowest - 1}) {
            for (int to : new int[] {LEAST, -1, lowest, now, now + 1, GREATEST}) {
                past.unchanged(INVALID, call, from, to);
            }
        }
        for (int from : new int[] {now + 1, now + 2, 100001, GREATEST - 1, GREATEST}) {
            for (int to : new int[] {LEAST, lowest, now, now + 1, from, GREATEST}) {
                past.unchanged(INVALID, call, from, to);
            }
        }
        for (int to : new int[] {LEAST, LEAST + 1, -1, now - 2, now - 1}) {
            past.unchanged(INVALID, call, now, to);
        }
        for (int to : new int[] {now + 1, now + 2, 100001, GREATEST - 1, GREATEST}) {
            past.unchanged(INVALID, call, now, to);
        }
    }

    /** "from: 1 to the present time" */
    private static void promise22From() {
        outOfRange(States.one(), Call.TOP_CHANGES, 1, 4);
        outOfRange(States.busy(), Call.TOP_CHANGES, 1, 7);
        outOfRange(States.forgotten(), Call.TOP_CHANGES, 1, 20);
        outOfRange(States.thousand(), Call.TOP_CHANGES, 1, 1000);
        outOfRange(States.last(), Call.TOP_CHANGES, 1, 100000);
        States.one().unchanged(INVALID, Call.TOP_CHANGES, 0, 4);
        States.one().unchanged(0, Call.TOP_CHANGES, 1, 4);
        States.one().unchanged(0, Call.TOP_CHANGES, 2, 4);
        States.one().unchanged(0, Call.TOP_CHANGES, 4, 4);
        States.one().unchanged(INVALID, Call.TOP_CHANGES, 5, 5);
    }

    /** "to: from to the present time" */
    private static void promise22To() {
        States.busy().unchanged(INVALID, Call.TOP_CHANGES, 5, 4);
        States.busy().unchanged(1, Call.TOP_CHANGES, 5, 5);
        States.busy().unchanged(1, Call.TOP_CHANGES, 5, 6);
        States.busy().unchanged(1, Call.TOP_CHANGES, 5, 7);
        States.busy().unchanged(INVALID, Call.TOP_CHANGES, 5, 8);
        States.busy().unchanged(INVALID, Call.TOP_CHANGES, 7, 6);
    }

    /** "INVALID_ARGUMENT if ... to - from is greater than 500" */
    private static void promise22Length() {
        States.thousand().unchanged(0, Call.TOP_CHANGES, 101, 600);
        States.thousand().unchanged(1, Call.TOP_CHANGES, 101, 601);
        States.thousand().unchanged(INVALID, Call.TOP_CHANGES, 101, 602);
        States.thousand().unchanged(INVALID, Call.TOP_CHANGES, 100, 601);
        States.thousand().unchanged(1, Call.TOP_CHANGES, 102, 601);
        States.thousand().unchanged(0, Call.TOP_CHANGES, 1, 500);
        States.thousand().unchanged(0, Call.TOP_CHANGES, 1, 501);
        States.thousand().unchanged(INVALID, Call.TOP_CHANGES, 1, 502);
        States.thousand().unchanged(INVALID, Call.TOP_CHANGES, 1, 1000);
        States.thousand().unchanged(1, Call.TOP_CHANGES, 501, 1000);
        States.thousand().unchanged(1, Call.TOP_CHANGES, 500, 1000);
        States.thousand().unchanged(INVALID, Call.TOP_CHANGES, 499, 1000);
    }

    private static void promise22AtTime0() {
        int[] ends = {LEAST, -1, 0, 1, GREATEST};
        for (int from : ends) {
            for (int to : ends) {
                States.empty().unchanged(INVALID, Call.TOP_CHANGES, from, to);
                States.atRest(24).unchanged(INVALID, Call.TOP_CHANGES, from, to);
            }
        }
        Past past = States.atRest(24).then(Call.PASS, 1);
        past.unchanged(0, Call.TOP_CHANGES, 1, 1);
    }

    /** "NOT_POSSIBLE if from - 1 is before the time of the latest call of forget" */
    private static void promise22Forgotten() {
        States.forgotten().unchanged(NOT_POSSIBLE, Call.TOP_CHANGES, 1, 20);
        States.forgotten().unchanged(NOT_POSSIBLE, Call.TOP_CHANGES, 9, 20);
        States.forgotten().unchanged(NOT_POSSIBLE, Call.TOP_CHANGES, 10, 20);
        States.forgotten().unchanged(NOT_POSSIBLE, Call.TOP_CHANGES, 10, 10);
        States.forgotten().unchanged(0, Call.TOP_CHANGES, 11, 20);
        States.forgotten().unchanged(0, Call.TOP_CHANGES, 11, 11);
        States.forgottenEmpty().unchanged(NOT_POSSIBLE, Call.TOP_CHANGES, 5, 8);
        States.forgottenEmpty().unchanged(0, Call.TOP_CHANGES, 6, 8);
        States.forgottenTwice().unchanged(NOT_POSSIBLE, Call.TOP_CHANGES, 4, 8);
        States.forgottenTwice().unchanged(NOT_POSSIBLE, Call.TOP_CHANGES, 6, 8);
        States.forgottenTwice().unchanged(0, Call.TOP_CHANGES, 7, 8);
        States.one().then(Call.FORGET).unchanged(NOT_POSSIBLE, Call.TOP_CHANGES, 4, 4);
        Past atOnce = new Past("forgotten at 0").then(Call.FORGET).then(Call.PASS, 2);
        atOnce.unchanged(0, Call.TOP_CHANGES, 1, 2);
        atOnce.unchanged(INVALID, Call.TOP_CHANGES, 0, 2);
    }

    /** A change counts at the first and at the last time of the span, and not beside it. */
    private static void promise22ChangesAtBothEnds() {
        States.thousand().unchanged(1, Call.TOP_CHANGES, 601, 601);
        States.thousand().unchanged(0, Call.TOP_CHANGES, 600, 600);
        States.thousand().unchanged(0, Call.TOP_CHANGES, 602, 602);
        States.thousand().unchanged(1, Call.TOP_CHANGES, 600, 601);
        States.thousand().unchanged(1, Call.TOP_CHANGES, 601, 602);
        States.thousand().unchanged(0, Call.TOP_CHANGES, 590, 600);
        States.thousand().unchanged(0, Call.TOP_CHANGES, 602, 610);
        // The same by an operation instead of a crossing: the top is point 0 from 4 on.
        Past past = new Past("a jump at 4").then(Call.INSERT, 5, 0).then(Call.INSERT, 3, 0)
            .then(Call.PASS, 4).then(Call.JUMP, 0, 2).then(Call.PASS, 8);
        past.unchanged(0, Call.TOP_CHANGES, 1, 3);
        past.unchanged(1, Call.TOP_CHANGES, 1, 4);
        past.unchanged(1, Call.TOP_CHANGES, 4, 4);
        past.unchanged(1, Call.TOP_CHANGES, 4, 8);
        past.unchanged(0, Call.TOP_CHANGES, 5, 8);
    }

    /** "NOT_FOUND counts as one" */
    private static void promise22NoPointsCountAsOne() {
        States.emptied().unchanged(2, Call.TOP_CHANGES, 1, 6);
        States.emptied().unchanged(0, Call.TOP_CHANGES, 1, 2);
        States.emptied().unchanged(1, Call.TOP_CHANGES, 1, 3);
        States.emptied().unchanged(1, Call.TOP_CHANGES, 3, 3);
        States.emptied().unchanged(0, Call.TOP_CHANGES, 4, 4);
        States.emptied().unchanged(1, Call.TOP_CHANGES, 5, 5);
        States.emptied().unchanged(0, Call.TOP_CHANGES, 6, 6);
        States.forgottenEmpty().unchanged(0, Call.TOP_CHANGES, 6, 8);
        States.emptyAtTheEnd().unchanged(0, Call.TOP_CHANGES, 99500, 100000);
        // From no point to point 0, which is the number 0, and back.
        Past past = new Past("0 and none").then(Call.PASS, 2).then(Call.INSERT, 0, 0)
            .then(Call.PASS, 4).then(Call.REMOVE, 0).then(Call.PASS, 6)
            .then(Call.INSERT, 0, 0).then(Call.PASS, 7);
        past.unchanged(3, Call.TOP_CHANGES, 1, 7);
        past.unchanged(1, Call.TOP_CHANGES, 6, 6);
    }

    /** "a number that was given again is the same here" */
    private static void promise22NumberGivenAgain() {
        Past past = new Past("given again").then(Call.INSERT, 5, 0).then(Call.PASS, 2)
            .then(Call.REMOVE, 0).then(Call.INSERT, 90, 3).then(Call.PASS, 5);
        past.unchanged(0, Call.TOP_CHANGES, 1, 5);
        past.unchanged(0, Call.TOP_CHANGES, 2, 2);
        // With a time without it between, there are two changes.
        Past later = new Past("given again later").then(Call.INSERT, 5, 0).then(Call.PASS, 2)
            .then(Call.REMOVE, 0).then(Call.PASS, 3).then(Call.INSERT, 5, 0)
            .then(Call.PASS, 5);
        later.unchanged(2, Call.TOP_CHANGES, 1, 5);
    }

    /** Only the states after all operations of a time are compared. */
    private static void promise22SeveralOperationsAtATime() {
        Past past = new Past("there and back").then(Call.INSERT, 5, 0).then(Call.INSERT, 6, 0)
            .then(Call.PASS, 3).then(Call.JUMP, 1, 1).then(Call.JUMP, 1, 6)
            .then(Call.PASS, 4).then(Call.JUMP, 1, 1).then(Call.JUMP, 0, 0)
            .then(Call.JUMP, 1, -1).then(Call.PASS, 5);
        past.unchanged(0, Call.TOP_CHANGES, 3, 3);
        past.unchanged(1, Call.TOP_CHANGES, 4, 4);
        past.unchanged(1, Call.TOP_CHANGES, 1, 5);
    }

    private static void promise22EveryTime() {
        Past past = new Past("a change at every time").then(Call.INSERT, 0, 0)
            .then(Call.INSERT, 10, 0);
        for (int t = 1; t <= 100; t++) {
            past.then(Call.PASS, t).then(Call.JUMP, 1, t % 2 == 0 ? 10 : -10);
        }
        past.unchanged(100, Call.TOP_CHANGES, 1, 100);
        past.unchanged(99, Call.TOP_CHANGES, 2, 100);
        past.unchanged(98, Call.TOP_CHANGES, 2, 99);
        past.unchanged(1, Call.TOP_CHANGES, 100, 100);
    }

    /** One point at time 1, and the other one as operation 200 at time 9; between them jumps. */
    private static Past twoHundred() {
        Past past = new Past("200 operations up to 9").then(Call.PASS, 1)
            .then(Call.INSERT, 50, 0).then(Call.PASS, 5);
        for (int i = 2; i < 200; i++) {
            past.then(Call.JUMP, 0, 50 - i % 2);
        }
        return past.then(Call.PASS, 9).then(Call.INSERT, 3, 0).then(Call.PASS, 12);
    }

    private static void promise22FirstAndLastOperation() {
        twoHundred().unchanged(2, Call.TOP_CHANGES, 1, 12);
        twoHundred().unchanged(1, Call.TOP_CHANGES, 1, 8);
        twoHundred().unchanged(1, Call.TOP_CHANGES, 2, 9);
        twoHundred().unchanged(1, Call.TOP_CHANGES, 9, 9);
        twoHundred().unchanged(0, Call.TOP_CHANGES, 10, 12);
    }

    private static void promise22LastTime() {
        Past past = new Past("exchange at the last time").then(Call.INSERT, -99999, 1)
            .then(Call.INSERT, 0, 0).then(Call.PASS, 100000);
        past.unchanged(1, Call.TOP_CHANGES, 100000, 100000);
        past.unchanged(0, Call.TOP_CHANGES, 99999, 99999);
        past.unchanged(1, Call.TOP_CHANGES, 99500, 100000);
        past.unchanged(INVALID, Call.TOP_CHANGES, 99499, 100000);
        past.unchanged(INVALID, Call.TOP_CHANGES, 100000, 100001);
    }

    /** "from: 0 to the present time" */
    private static void promise23From() {
        outOfRange(States.empty(), Call.LEAST_BETWEEN, 0, 0);
        outOfRange(States.one(), Call.LEAST_BETWEEN, 0, 4);
        outOfRange(States.busy(), Call.LEAST_BETWEEN, 0, 7);
        outOfRange(States.forgotten(), Call.LEAST_BETWEEN, 0, 20);
        outOfRange(States.thousand(), Call.LEAST_BETWEEN, 0, 1000);
        outOfRange(States.last(), Call.LEAST_BETWEEN, 0, 100000);
        States.one().unchanged(INVALID, Call.LEAST_BETWEEN, -1, 4);
        States.one().unchanged(10, Call.LEAST_BETWEEN, 0, 4);
        States.one().unchanged(12, Call.LEAST_BETWEEN, 1, 4);
        States.one().unchanged(18, Call.LEAST_BETWEEN, 4, 4);
        States.one().unchanged(INVALID, Call.LEAST_BETWEEN, 5, 5);
    }

    /** "to: from to the present time" */
    private static void promise23To() {
        States.busy().unchanged(INVALID, Call.LEAST_BETWEEN, 4, 3);
        States.busy().unchanged(12, Call.LEAST_BETWEEN, 4, 4);
        States.busy().unchanged(9, Call.LEAST_BETWEEN, 4, 5);
        States.busy().unchanged(7, Call.LEAST_BETWEEN, 4, 6);
        States.busy().unchanged(5, Call.LEAST_BETWEEN, 4, 7);
        States.busy().unchanged(INVALID, Call.LEAST_BETWEEN, 4, 8);
        States.empty().unchanged(NOT_FOUND, Call.LEAST_BETWEEN, 0, 0);
        States.atRest(24).unchanged(0, Call.LEAST_BETWEEN, 0, 0);
    }

    /** "INVALID_ARGUMENT if ... to - from is greater than 500" */
    private static void promise23Length() {
        States.thousand().unchanged(100, Call.LEAST_BETWEEN, 100, 599);
        States.thousand().unchanged(100, Call.LEAST_BETWEEN, 100, 600);
        States.thousand().unchanged(INVALID, Call.LEAST_BETWEEN, 100, 601);
        States.thousand().unchanged(INVALID, Call.LEAST_BETWEEN, 99, 600);
        States.thousand().unchanged(101, Call.LEAST_BETWEEN, 101, 600);
        States.thousand().unchanged(0, Call.LEAST_BETWEEN, 0, 499);
        States.thousand().unchanged(0, Call.LEAST_BETWEEN, 0, 500);
        States.thousand().unchanged(INVALID, Call.LEAST_BETWEEN, 0, 501);
        States.thousand().unchanged(INVALID, Call.LEAST_BETWEEN, 0, 1000);
        States.thousand().unchanged(501, Call.LEAST_BETWEEN, 501, 1000);
        States.thousand().unchanged(500, Call.LEAST_BETWEEN, 500, 1000);
        States.thousand().unchanged(INVALID, Call.LEAST_BETWEEN, 499, 1000);
    }

    /** "NOT_POSSIBLE if from is before the time of the latest call of forget" */
    private static void promise23Forgotten() {
        States.forgotten().unchanged(NOT_POSSIBLE, Call.LEAST_BETWEEN, 0, 20);
        States.forgotten().unchanged(NOT_POSSIBLE, Call.LEAST_BETWEEN, 9, 9);
        States.forgotten().unchanged(NOT_POSSIBLE, Call.LEAST_BETWEEN, 9, 20);
        States.forgotten().unchanged(50, Call.LEAST_BETWEEN, 10, 20);
        States.forgotten().unchanged(50, Call.LEAST_BETWEEN, 10, 10);
        States.forgotten().unchanged(51, Call.LEAST_BETWEEN, 11, 20);
        States.forgottenEmpty().unchanged(NOT_POSSIBLE, Call.LEAST_BETWEEN, 4, 8);
        States.forgottenEmpty().unchanged(NOT_FOUND, Call.LEAST_BETWEEN, 5, 8);
        States.forgottenTwice().unchanged(NOT_POSSIBLE, Call.LEAST_BETWEEN, 3, 8);
        States.forgottenTwice().unchanged(NOT_POSSIBLE, Call.LEAST_BETWEEN, 5, 8);
        States.forgottenTwice().unchanged(22, Call.LEAST_BETWEEN, 6, 8);
    }

    /** "NOT_FOUND if there were no points": a single time with a point is enough. */
    private static void promise23NoPoints() {
        States.emptied().unchanged(NOT_FOUND, Call.LEAST_BETWEEN, 0, 2);
        States.emptied().unchanged(2, Call.LEAST_BETWEEN, 0, 3);
        States.emptied().unchanged(2, Call.LEAST_BETWEEN, 0, 6);
        States.emptied().unchanged(2, Call.LEAST_BETWEEN, 4, 4);
        States.emptied().unchanged(2, Call.LEAST_BETWEEN, 4, 6);
        States.emptied().unchanged(NOT_FOUND, Call.LEAST_BETWEEN, 5, 5);
        States.emptied().unchanged(NOT_FOUND, Call.LEAST_BETWEEN, 5, 6);
        States.emptyAtTheEnd().unchanged(NOT_FOUND, Call.LEAST_BETWEEN, 99500, 100000);
        States.emptyAtTheEnd().unchanged(NOT_FOUND, Call.LEAST_BETWEEN, 100000, 100000);
        // A point that came and went at one time is in no state.
        Past past = new Past("came and went").then(Call.PASS, 1).then(Call.INSERT, 4, 0)
            .then(Call.REMOVE, 0).then(Call.PASS, 2);
        past.unchanged(NOT_FOUND, Call.LEAST_BETWEEN, 0, 2);
        past.unchanged(NOT_FOUND, Call.LEAST_BETWEEN, 1, 1);
    }

    /** "from a first to a last one (both included)" */
    private static void promise23LeastAtBothEnds() {
        Past falling = new Past("falling").then(Call.INSERT, 100, -3).then(Call.PASS, 10);
        falling.unchanged(70, Call.LEAST_BETWEEN, 0, 10);
        falling.unchanged(73, Call.LEAST_BETWEEN, 0, 9);
        falling.unchanged(97, Call.LEAST_BETWEEN, 0, 1);
        Past rising = new Past("rising").then(Call.INSERT, 100, 3).then(Call.PASS, 10);
        rising.unchanged(100, Call.LEAST_BETWEEN, 0, 10);
        rising.unchanged(103, Call.LEAST_BETWEEN, 1, 10);
        rising.unchanged(130, Call.LEAST_BETWEEN, 10, 10);
        // Down to 90 at 5, and up again.
        Past both = new Past("down and up").then(Call.INSERT, 100, -2).then(Call.PASS, 5)
            .then(Call.SET_VELOCITY, 0, 2).then(Call.PASS, 10);
        both.unchanged(90, Call.LEAST_BETWEEN, 0, 10);
        both.unchanged(92, Call.LEAST_BETWEEN, 0, 4);
        both.unchanged(90, Call.LEAST_BETWEEN, 5, 10);
        both.unchanged(92, Call.LEAST_BETWEEN, 6, 10);
    }

    /** A value that is there at one time alone: in the span, at its ends and beside it. */
    private static void promise23LeastOfOneTime() {
        Past past = new Past("low at 5").then(Call.INSERT, 50, 0).then(Call.PASS, 5)
            .then(Call.JUMP, 0, -7).then(Call.PASS, 6).then(Call.JUMP, 0, 40)
            .then(Call.PASS, 9);
        past.unchanged(-7, Call.LEAST_BETWEEN, 0, 9);
        past.unchanged(-7, Call.LEAST_BETWEEN, 0, 5);
        past.unchanged(-7, Call.LEAST_BETWEEN, 5, 9);
        past.unchanged(-7, Call.LEAST_BETWEEN, 5, 5);
        past.unchanged(50, Call.LEAST_BETWEEN, 0, 4);
        past.unchanged(40, Call.LEAST_BETWEEN, 6, 9);
    }

    /** "the least value of all points", whichever number it has. */
    private static void promise23AllPoints() {
        for (int p = 0; p < 24; p++) {
            Past past = States.atRest(24).then(Call.PASS, 1).then(Call.JUMP, p, -p - 1)
                .then(Call.PASS, 2);
            past.unchanged(-p - 1, Call.LEAST_BETWEEN, 0, 2);
            past.unchanged(-p - 1, Call.LEAST_BETWEEN, 2, 2);
            past.unchanged(0, Call.LEAST_BETWEEN, 0, 0);
        }
        // Another point is the least one at each end of the span.
        Past past = new Past("crossing").then(Call.INSERT, 0, 2).then(Call.INSERT, 20, -1)
            .then(Call.PASS, 30);
        past.unchanged(-10, Call.LEAST_BETWEEN, 0, 30);
        past.unchanged(0, Call.LEAST_BETWEEN, 0, 10);
        // 12 and 14 at time 6, 14 and 13 at time 7.
        past.unchanged(12, Call.LEAST_BETWEEN, 6, 7);
        past.unchanged(13, Call.LEAST_BETWEEN, 7, 7);
    }

    private static void promise23HighestValues() {
        MovingHeap x = new MovingHeap();
        x.insert(1000000, 1000);
        x.pass(100000);
        Due.is("highest values", x.leastBetween(99500, 100000), 100500000);
        Due.is("highest value", x.leastBetween(100000, 100000), 101000000);
        x.setVelocity(0, -1000);
        x.insert(1000000, 0);
        Due.is("of two points", x.leastBetween(99999, 100000), 1000000);
        MovingHeap y = new MovingHeap();
        y.insert(-1000000, -1000);
        y.pass(100000);
        Due.is("lowest values", y.leastBetween(99500, 100000), -101000000);
        Due.is("lowest values but the last", y.leastBetween(99500, 99999), -100999000);
    }

    /** "in the states at all times": only those after all operations of a time. */
    private static void promise23SeveralOperationsAtATime() {
        Past past = new Past("low for a moment").then(Call.INSERT, 5, 0).then(Call.PASS, 3)
            .then(Call.JUMP, 0, -99).then(Call.JUMP, 0, 8).then(Call.PASS, 4)
            .then(Call.INSERT, -50, 0).then(Call.REMOVE, 1).then(Call.PASS, 6);
        past.unchanged(5, Call.LEAST_BETWEEN, 0, 6);
        past.unchanged(8, Call.LEAST_BETWEEN, 3, 6);
        past.unchanged(8, Call.LEAST_BETWEEN, 4, 4);
        past.unchanged(5, Call.LEAST_BETWEEN, 2, 3);
    }

    private static void promise23FirstAndLastOperation() {
        twoHundred().unchanged(NOT_FOUND, Call.LEAST_BETWEEN, 0, 0);
        twoHundred().unchanged(50, Call.LEAST_BETWEEN, 0, 4);
        twoHundred().unchanged(49, Call.LEAST_BETWEEN, 0, 8);
        twoHundred().unchanged(3, Call.LEAST_BETWEEN, 0, 9);
        twoHundred().unchanged(3, Call.LEAST_BETWEEN, 2, 12);
        twoHundred().unchanged(3, Call.LEAST_BETWEEN, 12, 12);
    }
}
