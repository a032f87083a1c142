/** Promises 9 to 12 at their bounds: the ranges of time, stops at the last moment, no stops. */
public final class TimeEdgesTest {
    private static final long INVALID = MovingHeap.INVALID_ARGUMENT;
    private static final long LIMIT = MovingHeap.LIMIT_REACHED;
    private static final long NOT_FOUND = MovingHeap.NOT_FOUND;
    private static final int LEAST = States.LEAST;
    private static final int GREATEST = States.GREATEST;
    private static final int[] NO_TIMES = {
        LEAST, LEAST + 1, -100000, -1, 100001, 100002, GREATEST - 1, GREATEST
    };

    private TimeEdgesTest() {
    }

    public static void main(String[] args) {
        promise9FromTheFirstTime();
        promise9FromATimeBetween();
        promise9FromTheLastTime();
        promise9ToThePresentTime();
        promise9StopAtTheTime();
        promise9StopAtTheLastTime();
        promise9NoCertificates();
        promise9StopsOfThisCall();
        promise9SettledAtEachStop();
        promise9FullHeap();
        promise9ManyStops();
        promise10NextTime();
        promise10OneStop();
        promise10LastTime();
        promise10NoFailure();
        promise10FullHeap();
        promise11Time();
        promise12What();
        promise12PlaceZero();
        promise12NoStopsWithoutTime();
        promise12NothingForRefusedCalls();
        promise12SinceTheBeginning();
        Due.finish();
    }

    /** Point 0 starts from 0 and passes point 1, which rests, at a time. */
    private static Past meetingAt(int time) {
        return new Past("meeting at " + time).then(Call.INSERT, 0, 1)
            .then(Call.INSERT, time - 1, 0);
    }

    /** "at least the present time, at most 100000"; "the present time is initially 0" */
    private static void promise9FromTheFirstTime() {
        for (int time : NO_TIMES) {
            States.empty().unchanged(INVALID, Call.PASS, time);
            States.atRest(24).unchanged(INVALID, Call.PASS, time);
        }
        for (int time : new int[] {0, 1, 2, 99999, 100000}) {
            MovingHeap x = States.empty().after(0, Call.PASS, time);
            Due.is("time()", x.time(), time);
            x = States.atRest(24).after(0, Call.PASS, time);
            Due.is("time() of a full heap", x.time(), time);
        }
    }

    private static void promise9FromATimeBetween() {
        for (int time : NO_TIMES) {
            States.busy().unchanged(INVALID, Call.PASS, time);
        }
        for (int time = 0; time < 7; time++) {
            States.busy().unchanged(INVALID, Call.PASS, time);
        }
        Due.is("time() one later", States.busy().after(0, Call.PASS, 8).time(), 8);
        States.forgotten().unchanged(INVALID, Call.PASS, 19);
        States.forgotten().unchanged(INVALID, Call.PASS, 10);
    }

    private static void promise9FromTheLastTime() {
        for (int time : NO_TIMES) {
            States.last().unchanged(INVALID, Call.PASS, time);
        }
        States.last().unchanged(INVALID, Call.PASS, 0);
        States.last().unchanged(INVALID, Call.PASS, 99999);
        States.last().unchanged(0, Call.PASS, 100000);
        States.emptyAtTheEnd().unchanged(INVALID, Call.PASS, 99999);
        States.emptyAtTheEnd().unchanged(0, Call.PASS, 100000);
    }

    /** The present time is in the range: nothing passes then. */
    private static void promise9ToThePresentTime() {
        States.empty().unchanged(0, Call.PASS, 0);
        States.one().unchanged(0, Call.PASS, 4);
        States.busy().unchanged(0, Call.PASS, 7);
        States.fullInMotion().unchanged(0, Call.PASS, 8);
        meetingAt(6).then(Call.PASS, 6).unchanged(0, Call.PASS, 6);
        meetingAt(6).then(Call.STEP).unchanged(0, Call.PASS, 6);
    }

    /** "If t is greater than T ..., the present time becomes T ... Otherwise ... (a stop)" */
    private static void promise9StopAtTheTime() {
        long[] due = {0, 1, 1};
        for (int time = 5; time <= 7; time++) {
            MovingHeap x = meetingAt(6).after(due[time - 5], Call.PASS, time);
            Due.is("time()", x.time(), time);
            Due.is("stops", x.count(1), due[time - 5]);
            Due.is("exchanges", x.count(0), due[time - 5]);
            Due.is("at(0)", x.at(0), due[time - 5]);
        }
        MovingHeap x = meetingAt(6).then(Call.PASS, 5).after(1, Call.PASS, 6);
        Due.is("at(0) after the stop at the next time", x.at(0), 1);
        x = meetingAt(1).after(1, Call.PASS, 1);
        Due.is("at(0) after a stop at time 1", x.at(0), 1);
    }

    private static void promise9StopAtTheLastTime() {
        meetingAt(99999).after(1, Call.PASS, 100000);
        meetingAt(99999).after(1, Call.PASS, 99999);
        meetingAt(100000).after(0, Call.PASS, 99999);
        MovingHeap x = meetingAt(100000).after(1, Call.PASS, 100000);
        Due.is("at(0) at the last time", x.at(0), 1);
        x = meetingAt(100001).after(0, Call.PASS, 100000);
        Due.is("at(0) before a failure past the last time", x.at(0), 0);
        Due.is("failure(1) past the last time", x.failure(1), 100001);
        Due.is("stops", x.count(1), 0);
    }

    /** "or no certificate fails, the present time becomes T" */
    private static void promise9NoCertificates() {
        Past[] pasts = {States.empty(), States.emptied(), States.one(), States.atRest(2),
            States.atRest(24), States.forgottenEmpty()};
        for (Past past : pasts) {
            MovingHeap x = past.after(0, Call.PASS, 99999);
            Due.is("time()", x.time(), 99999);
            Due.is("pass(100000)", x.pass(100000), 0);
            Due.is("time()", x.time(), 100000);
            Due.is("stops", x.count(1), 0);
            Due.is("exchanges while time passed", x.count(0), past.heap().count(0));
        }
    }

    /** "Returns the number of stops", and not that of exchanges or of all stops ever made. */
    private static void promise9StopsOfThisCall() {
        MovingHeap x = new MovingHeap();
        x.insert(0, 5);
        x.insert(1, 0);
        x.insert(11, 0);
        x.insert(12, 0);
        // At 1 point 0 (5) goes below point 1; at 3 (15) below point 3; point 2 is beside it.
        Due.is("pass over one stop", x.pass(2), 1);
        Due.is("pass over the other stop", x.pass(3), 1);
        Due.is("pass over none", x.pass(4), 0);
        Due.is("stops", x.count(1), 2);
        MovingHeap y = new MovingHeap();
        y.insert(0, 4);
        y.insert(0, 3);
        y.insert(0, 2);
        y.insert(0, 1);
        Due.is("pass over a stop with four exchanges", y.pass(1), 1);
        Due.is("exchanges", y.count(0), 4);
    }

    /** "Otherwise the present time becomes t (a stop), and the heap is settled." */
    private static void promise9SettledAtEachStop() {
        MovingHeap x = new MovingHeap();
        x.insert(0, 10);
        x.insert(15, 0);
        x.insert(5, 0);
        // At 1 point 0 (10) goes below point 2, so that point 1 has another parent at 2.
        Due.is("pass(2)", x.pass(2), 1);
        Due.is("at(0)", x.at(0), 2);
        Due.is("at(1)", x.at(1), 1);
        Due.is("at(2)", x.at(2), 0);
        Due.is("exchanges", x.count(0), 1);
    }

    private static void promise9FullHeap() {
        for (int time : new int[] {8, 9, 10, 20, 100, 99999, 100000}) {
            States.fullInMotion().asModelled(Call.PASS, time);
        }
        // All certificates fail at 11, when the values are -p: the order is turned round.
        Past turning = new Past("turning round");
        for (int p = 0; p < 24; p++) {
            turning.then(Call.INSERT, 10 * p, -p);
        }
        turning.after(0, Call.PASS, 10);
        MovingHeap x = turning.after(1, Call.PASS, 11);
        Due.is("at(0)", x.at(0), 23);
        turning.after(1, Call.PASS, 100000);
        turning.asModelled(Call.PASS, 11);
    }

    /** "this is done again and again": one pass makes all the stops that single steps make. */
    private static void promise9ManyStops() {
        Past past = new Past("many stops");
        for (int p = 0; p < 24; p++) {
            past.then(Call.INSERT, 1000 * p * p + 37 * p * p * p % 300, -40 * p);
        }
        MovingHeap x = past.heap();
        int steps = 0;
        while (steps < 300 && x.step() != NOT_FOUND) {
            steps++;
        }
        Due.is("stops after single steps", x.count(1), steps);
        Due.holds("there are many stops: " + steps, steps > 60 && steps < 300);
        MovingHeap y = past.after(steps, Call.PASS, 100000);
        Due.is("stops", y.count(1), steps);
        Due.is("exchanges", y.count(0), x.count(0));
        past.asModelled(Call.PASS, 100000);
    }

    /** "Lets time pass up to the next time at which a certificate fails. Returns this time" */
    private static void promise10NextTime() {
        for (int time : new int[] {1, 2, 6, 99998, 99999, 100000}) {
            MovingHeap x = meetingAt(time).after(time, Call.STEP);
            Due.is("time()", x.time(), time);
            Due.is("at(0)", x.at(0), 1);
            Due.is("stops", x.count(1), 1);
            Due.is("step() again", x.step(), NOT_FOUND);
            Due.is("time() again", x.time(), time);
        }
        meetingAt(6).then(Call.PASS, 5).after(6, Call.STEP);
    }

    private static void promise10OneStop() {
        MovingHeap x = new MovingHeap();
        x.insert(0, 5);
        x.insert(1, 0);
        x.insert(11, 0);
        x.insert(12, 0);
        Due.is("first step()", x.step(), 1);
        Due.is("stops", x.count(1), 1);
        Due.is("time()", x.time(), 1);
        Due.is("second step()", x.step(), 3);
        Due.is("stops", x.count(1), 2);
        Due.is("third step()", x.step(), NOT_FOUND);
        Due.is("stops", x.count(1), 2);
        Due.is("time()", x.time(), 3);
    }

    /** "NOT_FOUND if no certificate fails at a time up to 100000": the call changes nothing. */
    private static void promise10LastTime() {
        meetingAt(99999).then(Call.PASS, 99998).after(99999, Call.STEP);
        meetingAt(100000).then(Call.PASS, 99999).after(100000, Call.STEP);
        meetingAt(100001).unchanged(NOT_FOUND, Call.STEP);
        meetingAt(100001).then(Call.PASS, 99999).unchanged(NOT_FOUND, Call.STEP);
        meetingAt(100001).then(Call.PASS, 100000).unchanged(NOT_FOUND, Call.STEP);
        meetingAt(1000000).unchanged(NOT_FOUND, Call.STEP);
        meetingAt(1000001).unchanged(NOT_FOUND, Call.STEP);
        meetingAt(100000).then(Call.STEP).unchanged(NOT_FOUND, Call.STEP);
    }

    private static void promise10NoFailure() {
        States.empty().unchanged(NOT_FOUND, Call.STEP);
        States.emptied().unchanged(NOT_FOUND, Call.STEP);
        States.emptyAtTheEnd().unchanged(NOT_FOUND, Call.STEP);
        States.one().unchanged(NOT_FOUND, Call.STEP);
        States.atRest(2).unchanged(NOT_FOUND, Call.STEP);
        States.atRest(24).unchanged(NOT_FOUND, Call.STEP);
        States.last().unchanged(NOT_FOUND, Call.STEP);
    }

    private static void promise10FullHeap() {
        States.fullInMotion().asModelled(Call.STEP);
        States.fullInMotion().then(Call.STEP).asModelled(Call.STEP);
        MovingHeap x = States.atRest(24).heap();
        x.setVelocity(23, -1);
        // Point 23 (230) is below point 11 (110), point 5 (50), point 2 (20) and point 0.
        Due.is("past point 11", x.step(), 121);
        Due.is("past point 5", x.step(), 181);
        Due.is("past point 2", x.step(), 211);
        Due.is("past point 0", x.step(), 231);
        Due.is("at(0)", x.at(0), 23);
        Due.is("past none", x.step(), NOT_FOUND);
    }

    /** "Returns the present time": it "is initially 0 and only grows". */
    private static void promise11Time() {
        States.empty().unchanged(0, Call.TIME);
        States.busy().unchanged(7, Call.TIME);
        States.last().unchanged(100000, Call.TIME);
        MovingHeap x = new MovingHeap();
        x.insert(0, 1);
        x.insert(5, 0);
        Due.is("time() after operations", x.time(), 0);
        x.step();
        Due.is("time() after a step", x.time(), 6);
        x.pass(5);
        Due.is("time() after a refused pass", x.time(), 6);
        x.step();
        Due.is("time() after a step to nowhere", x.time(), 6);
        x.pass(6);
        Due.is("time() after a pass to the present time", x.time(), 6);
        x.forget();
        x.remove(0);
        Due.is("time() after forget and remove", x.time(), 6);
        x.pass(99999);
        Due.is("time() one before the last", x.time(), 99999);
        x.pass(100000);
        Due.is("the last time()", x.time(), 100000);
        x.pass(100001);
        Due.is("time() past the last one", x.time(), 100000);
    }

    /** "count ... INVALID_ARGUMENT if what is out of range" */
    private static void promise12What() {
        for (int what : new int[] {LEAST, LEAST + 1, -2, -1, 3, 4, GREATEST - 1, GREATEST}) {
            States.empty().unchanged(INVALID, Call.COUNT, what);
            States.fullInMotion().unchanged(INVALID, Call.COUNT, what);
        }
        Past x = meetingAt(6).then(Call.INSERT, 7, 0).then(Call.INSERT, 8, -1)
            .then(Call.PASS, 6).then(Call.JUMP, 0, 4);
        // At 4 point 3 (4) passes point 1; at 5 point 3 (3) passes point 0 and is the top; at 6
        // point 0 (6) goes below point 1, and comes back by the jump.
        long[] due = {4, 3, 1};
        for (int what = 0; what < 3; what++) {
            States.empty().unchanged(0, Call.COUNT, what);
            x.unchanged(due[what], Call.COUNT, what);
        }
    }

    /** "2: exchanges at place 0 (... exchanged with one of its children)" */
    private static void promise12PlaceZero() {
        int[] parents = {0, 0, 0, 1, 1, 2, 2};
        for (int k = 1; k < 7; k++) {
            // The value is between those of the parent and of the parent's parent.
            MovingHeap x = States.atRest(7).heap();
            x.jump(k, 10 * parents[k] - 1);
            Due.is("place of point " + k, x.point(k, 2), parents[k]);
            Due.is("exchanges of certificate " + k, x.count(0), 1);
            Due.is("exchanges at place 0 of certificate " + k, x.count(2), k < 3 ? 1 : 0);
            x = States.atRest(7).heap();
            x.jump(k, -1);
            Due.is("exchanges from place " + k, x.count(0), k < 3 ? 1 : 2);
            Due.is("exchanges at place 0 from place " + k, x.count(2), 1);
        }
    }

    /** Settling after an operation makes exchanges, but no stops. */
    private static void promise12NoStopsWithoutTime() {
        MovingHeap x = new MovingHeap();
        x.insert(2, 0);
        x.insert(1, 0);
        x.jump(0, 0);
        x.remove(0);
        Due.is("exchanges", x.count(0), 2);
        Due.is("exchanges at place 0", x.count(2), 2);
        Due.is("stops", x.count(1), 0);
        x.pass(50);
        Due.is("stops without failures", x.count(1), 0);
    }

    private static void promise12NothingForRefusedCalls() {
        MovingHeap x = States.atRest(24).heap();
        x.insert(-5, 0);
        x.jump(23, -1000001);
        x.jump(24, -5);
        x.pass(100001);
        x.step();
        for (int what = 0; what < 3; what++) {
            Due.is("count(" + what + ") after refused calls", x.count(what), 0);
        }
        MovingHeap y = States.operations(200).heap();
        long before = y.count(0);
        Due.is("jump at the limit", y.jump(2, -1000), LIMIT);
        Due.is("exchanges after a jump at the limit", y.count(0), before);
    }

    /** "Returns a count since the beginning": forget does not matter. */
    private static void promise12SinceTheBeginning() {
        MovingHeap x = meetingAt(6).heap();
        x.pass(6);
        x.forget();
        x.forget();
        for (int what = 0; what < 3; what++) {
            Due.is("count(" + what + ") after forget", x.count(what), 1);
        }
        x.remove(0);
        x.remove(1);
        for (int what = 0; what < 3; what++) {
            Due.is("count(" + what + ") without points", x.count(what), 1);
        }
    }
}
