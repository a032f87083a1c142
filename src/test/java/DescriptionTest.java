/** The document's description, sentence by sentence, where it names a bound or a special case. */
public final class DescriptionTest {
    private static final long INVALID = MovingHeap.INVALID_ARGUMENT;
    private static final long LIMIT = MovingHeap.LIMIT_REACHED;
    private static final long NOT_FOUND = MovingHeap.NOT_FOUND;
    private static final int[] PARENTS = {
        -1, 0, 0, 1, 1, 2, 2, 3, 3, 4, 4, 5, 5, 6, 6, 7, 7, 8, 8, 9, 9, 10, 10, 11
    };

    private DescriptionTest() {
    }

    public static void main(String[] args) {
        callNumber512();
        operationsOverAll512Calls();
        timeOnlyGrows();
        differentNumbers();
        growsByItsVelocity();
        valueStaysWhenVelocityChanges();
        valuesBeyondThoseOfInsert();
        lessValueIsBefore();
        equalValuesAreOrderedByNumber();
        placesWithoutGaps();
        parents();
        children();
        failsAtTheLeastTime();
        lowestCertificateFirst();
        lowestCertificateFirstEachTime();
        settlingOfTheWholeHeap();
        insertedAtTheEnd();
        lastPointComesToThePlace();
        lastPointItself();
        settledAfterChangeOfVelocity();
        settledAfterJump();
        removedPointIsFree();
        allOperationsOfATime();
        presentStateIsThePresentOne();
        noPointsBeforeTheFirstOperation();
        knownBackToTheBeginning();
        numberGivenAgainIsAnotherPoint();
        Due.finish();
    }

    /** "An object is used for at most 512 calls after it has been made" */
    private static void callNumber512() {
        MovingHeap x = new MovingHeap();
        Due.is("call 1", x.insert(0, 1), 0);
        Due.is("call 2", x.insert(500, 0), 1);
        for (int call = 3; call < 512; call++) {
            Due.is("call " + call, x.pass(call), call == 501 ? 1 : 0);
        }
        Due.is("call 512", x.leastBetween(11, 511), 11);
    }

    private static void operationsOverAll512Calls() {
        MovingHeap x = new MovingHeap();
        x.insert(0, 0);
        int made = 1;
        int value = 0;
        for (int call = 2; call < 512; call++) {
            if (made == 200) {
                Due.is("forget as call " + call, x.forget(), 200);
                made = 0;
            } else {
                Due.is("jump as call " + call, x.jump(0, call), value);
                value = call;
                made++;
            }
        }
        Due.is("call 512", x.valueAt(0, 0), 511);
    }

    /** "the present time is initially 0 and only grows" */
    private static void timeOnlyGrows() {
        MovingHeap x = new MovingHeap();
        Due.is("time()", x.time(), 0);
        x.insert(0, 2);
        x.insert(5, 0);
        x.insert(90, -3);
        int before = 0;
        for (int i = 0; i < 10; i++) {
            x.step();
            x.pass(before - 1);
            x.pass(10 * i);
            Due.holds("time() grows from " + before, x.time() >= before);
            before = x.time();
        }
        Due.is("time() at the end", before, 90);
    }

    /** "There are at most 24 points at a time, with different numbers from 0 to 23" */
    private static void differentNumbers() {
        MovingHeap x = new MovingHeap();
        boolean[] given = new boolean[24];
        for (int i = 0; i < 24; i++) {
            long p = x.insert(100 - i, i);
            Due.holds(p + " is a number from 0 to 23", p >= 0 && p <= 23);
            Due.holds(p + " was not given before", p >= 0 && p <= 23 && !given[(int) p]);
            given[(int) p] = true;
        }
        Due.is("the 25th point", x.insert(0, 0), LIMIT);
        Due.is("size()", x.size(), 24);
    }

    /** "in each unit of time its value grows by its velocity" */
    private static void growsByItsVelocity() {
        for (int velocity : new int[] {-1000, -1, 0, 1, 1000}) {
            MovingHeap x = new MovingHeap();
            x.insert(7, velocity);
            for (int t = 1; t < 5; t++) {
                x.pass(t);
                Due.is("value at " + t, x.point(0, 0), 7 + (long) velocity * t);
            }
            x.pass(100000);
            Due.is("value at 100000", x.point(0, 0), 7 + 100000L * velocity);
            Due.is("value at 3, later", x.valueAt(0, 3), 7 + 3L * velocity);
        }
    }

    /** "When the velocity is changed, the value at this time stays." */
    private static void valueStaysWhenVelocityChanges() {
        MovingHeap x = new MovingHeap();
        x.insert(10, 4);
        x.pass(5);
        x.setVelocity(0, -3);
        Due.is("value at this time", x.point(0, 0), 30);
        Due.is("value at this time as a moment", x.valueAt(0, 5), 30);
        Due.is("value one unit before", x.valueAt(0, 4), 26);
        x.pass(6);
        Due.is("value one unit later", x.point(0, 0), 27);
        x.setVelocity(0, 1);
        x.setVelocity(0, 9);
        Due.is("value after two changes", x.point(0, 0), 27);
    }

    /** "when it is inserted, or when it is moved by jump": at other times it may be any. */
    private static void valuesBeyondThoseOfInsert() {
        MovingHeap x = new MovingHeap();
        x.insert(1000000, 1);
        x.insert(-1000000, -1);
        x.pass(1);
        Due.is("value above", x.point(0, 0), 1000001);
        Due.is("value below", x.point(1, 0), -1000001);
        Due.is("setVelocity above", x.setVelocity(0, 0), 1);
        Due.is("value above, still", x.point(0, 0), 1000001);
        Due.is("remove above", x.remove(0), 1000001);
        Due.is("jump from below", x.jump(1, -1000000), -1000001);
    }

    /** What tells that one point is before the other one at the present time. */
    private static void isBefore(String how, MovingHeap x, int first, int second) {
        Due.is(how + ": order of the first", x.point(first, 4), 0);
        Due.is(how + ": order of the second", x.point(second, 4), 1);
        Due.is(how + ": at(0)", x.at(0), first);
        Due.is(how + ": at(1)", x.at(1), second);
        Due.is(how + ": topAt", x.topAt(x.time()), first);
        Due.is(how + ": orderAt(1)", x.orderAt(1, x.time()), second);
    }

    private static MovingHeap two(int value0, int value1) {
        MovingHeap x = new MovingHeap();
        x.insert(value0, 0);
        x.insert(value1, 0);
        return x;
    }

    /** "a point is before another one if its value is less" */
    private static void lessValueIsBefore() {
        isBefore("less by one", two(4, 5), 0, 1);
        isBefore("more by one", two(5, 4), 1, 0);
        isBefore("least and greatest", two(-1000000, 1000000), 0, 1);
        isBefore("greatest and least", two(1000000, -1000000), 1, 0);
        isBefore("less than 0", two(0, -1), 1, 0);
    }

    /** "or if the values are equal and its number is lower" */
    private static void equalValuesAreOrderedByNumber() {
        isBefore("equal", two(5, 5), 0, 1);
        isBefore("equal and greatest", two(1000000, 1000000), 0, 1);
        isBefore("equal and least", two(-1000000, -1000000), 0, 1);
        MovingHeap x = two(9, 5);
        x.jump(0, 5);
        isBefore("equal after a jump of the lower number", x, 0, 1);
        x = two(5, 9);
        x.jump(1, 5);
        isBefore("equal after a jump of the higher number", x, 0, 1);
        x = two(9, 5);
        x.setVelocity(0, -2);
        x.pass(2);
        isBefore("equal after a while", x, 0, 1);
        x = two(3, 5);
        x.setVelocity(0, 1);
        x.pass(2);
        isBefore("still equal after a while", x, 0, 1);
        x.pass(3);
        isBefore("not equal any more", x, 1, 0);
    }

    /** "The heap contains all points at the places 0, 1, 2, ..., without gaps." */
    private static void withoutGaps(MovingHeap x) {
        boolean[] seen = new boolean[24];
        for (int place = 0; place < x.size(); place++) {
            int p = (int) x.at(place);
            Due.holds("point " + p + " has one place", p >= 0 && p < 24 && !seen[p]);
            seen[p] = true;
            Due.is("place of point " + p, x.point(p, 2), place);
        }
        Due.is("at(size())", x.at(x.size()), NOT_FOUND);
    }

    private static void placesWithoutGaps() {
        for (int points = 0; points <= 24; points++) {
            MovingHeap x = new MovingHeap();
            for (int p = 0; p < points; p++) {
                x.insert((7 * p) % 24, 0);
            }
            withoutGaps(x);
            for (int p = 0; p < points; p += 5) {
                x.remove(p);
            }
            withoutGaps(x);
        }
        for (int p = 0; p < 24; p++) {
            MovingHeap x = States.atRest(24).heap();
            x.remove(p);
            withoutGaps(x);
            x.insert(-1, 0);
            withoutGaps(x);
        }
    }

    /** "The parent of place k, for k at least 1, is the place (k - 1) / 2, rounded down" */
    private static void parents() {
        for (int k = 1; k < 24; k++) {
            MovingHeap x = States.atRest(24).heap();
            x.setVelocity(k, -1);
            long due = 10L * (k - PARENTS[k]) + 1;
            Due.is("failure(" + k + ") of point " + k + " alone", x.failure(k), due);
            Due.is("calendarSize() of point " + k + " alone", x.calendarSize(), 1);
            x = States.atRest(24).heap();
            x.jump(k, 10 * PARENTS[k] + 1);
            Due.is("place of a point after its parent", x.point(k, 2), k);
            x.jump(k, 10 * PARENTS[k]);
            Due.is("place of a point equal to its parent", x.point(k, 2), k);
            x.jump(k, 10 * PARENTS[k] - 1);
            Due.is("place of a point before its parent", x.point(k, 2), PARENTS[k]);
        }
    }

    /** "the children of place k are 2 * k + 1 and 2 * k + 2, if there are so many points" */
    private static void children() {
        for (int points = 1; points <= 24; points++) {
            for (int k = 0; k < points; k++) {
                MovingHeap x = States.atRest(points).heap();
                x.setVelocity(k, 1);
                int entries = 0;
                for (int child = 2 * k + 1; child <= 2 * k + 2 && child < points; child++) {
                    Due.is("failure(" + child + ")", x.failure(child), 10L * (child - k) + 1);
                    Due.is("calendar(" + entries + ", 1)", x.calendar(entries, 1), child);
                    entries++;
                }
                Due.is("calendarSize() of the children of " + k, x.calendarSize(), entries);
            }
        }
    }

    /** "It fails at the least time, at least the present one, at which this is not so" */
    private static void failsAtTheLeastTime() {
        for (int gap = 0; gap < 20; gap++) {
            MovingHeap x = two(0, gap);
            x.setVelocity(0, 3);
            int fails = (int) x.failure(1);
            // Until then 3t is not more than the gap, and at this time it is.
            Due.holds("order before " + fails, 3 * (fails - 1) <= gap && 3 * fails > gap);
            x.pass(fails - 1);
            Due.is("failure(1) one unit before", x.failure(1), fails);
            Due.is("at(0) one unit before", x.at(0), 0);
            x.pass(fails);
            Due.is("at(0) at this time", x.at(0), 1);
            Due.is("failure(1) then", x.failure(1), NOT_FOUND);
        }
    }

    /** "the one with the lowest number among these is taken" */
    private static void lowestCertificateFirst() {
        MovingHeap x = new MovingHeap();
        x.insert(0, 10);
        x.insert(5, 0);
        x.insert(1, 0);
        x.pass(1);
        // 10, 5, 1: certificates 1 and 2 fail. Certificate 1 first: 5, 10, 1, then 1, 10, 5.
        Due.is("at(0)", x.at(0), 2);
        Due.is("at(1)", x.at(1), 0);
        Due.is("at(2)", x.at(2), 1);
        Due.is("exchanges", x.count(0), 2);
        Due.is("stops", x.count(1), 1);
    }

    /** "as long as there is a certificate that fails ...": after each exchange from the lowest. */
    private static void lowestCertificateFirstEachTime() {
        MovingHeap x = States.atRest(7).heap();
        x.jump(1, 1000);
        x.jump(0, 2000);
        // The first jump: 0 3 2 1 4 5 6 by certificate 3. The second one: 3 0 2 1 4 5 6 by
        // certificate 1, 2 0 3 1 4 5 6 by 2 (20 is less than 30), 2 1 3 0 4 5 6 by 3 (1000 is
        // less than 2000), and 2 4 3 0 1 5 6 by 4 (40 is less than 1000).
        long[] due = {2, 4, 3, 0, 1, 5, 6};
        for (int place = 0; place < 7; place++) {
            Due.is("at(" + place + ")", x.at(place), due[place]);
        }
        Due.is("exchanges", x.count(0), 5);
        Due.is("exchanges at place 0", x.count(2), 2);
    }

    private static void settlingOfTheWholeHeap() {
        States.atRest(24).asModelled(Call.JUMP, 0, 1000000);
        States.atRest(24).asModelled(Call.JUMP, 23, -1000000);
        States.atRest(24).asModelled(Call.REMOVE, 0);
        States.fullInMotion().asModelled(Call.JUMP, 0, 1000000);
        States.fullInMotion().asModelled(Call.JUMP, 23, -1000000);
        // At time 1 every certificate fails, and every pair of places is out of order.
        Past past = new Past("all at once");
        for (int p = 0; p < 24; p++) {
            past.then(Call.INSERT, 0, 24 - p);
        }
        MovingHeap x = past.after(1, Call.PASS, 1);
        // Each point goes up to the top in turn: 2 points one place, 4 two, 8 three, 9 four.
        Due.is("exchanges", x.count(0), 2 + 4 * 2 + 8 * 3 + 9 * 4);
        Due.is("exchanges at place 0", x.count(2), 23);
        for (int k = 1; k < 24; k++) {
            Due.holds("certificate " + k + " holds",
                x.point((int) x.at(PARENTS[k]), 0) < x.point((int) x.at(k), 0));
        }
        past.asModelled(Call.PASS, 1);
        past.asModelled(Call.STEP);
    }

    /** "A point that is inserted comes to the end of the heap, which is settled then." */
    private static void insertedAtTheEnd() {
        for (int points = 0; points < 24; points++) {
            MovingHeap x = States.atRest(points).after(points, Call.INSERT, 1000, 0);
            Due.is("place of the last one", x.point(points, 2), points);
            Due.is("exchanges", x.count(0), 0);
            x = States.atRest(points).after(points, Call.INSERT, -1, 0);
            Due.is("place of the first one", x.point(points, 2), 0);
            int steps = 0;
            for (int place = points; place > 0; place = PARENTS[place]) {
                Due.is("the place below the first one", x.at(place), PARENTS[place]);
                steps++;
            }
            Due.is("exchanges", x.count(0), steps);
            Due.is("exchanges at place 0", x.count(2), points == 0 ? 0 : 1);
        }
    }

    /** "When a point is removed, the last point of the heap comes to its place" */
    private static void lastPointComesToThePlace() {
        for (int p = 0; p < 23; p++) {
            MovingHeap x = new MovingHeap();
            for (int i = 0; i < 24; i++) {
                x.insert(i == 0 ? -1 : 7, 0);
            }
            x.jump(23, 6);
            Due.is("remove(" + p + ")", x.remove(p), p == 0 ? -1 : 7);
            Due.is("size()", x.size(), 23);
            withoutGaps(x);
        }
        // Without any exchange: 70 fits below place 2 (20).
        MovingHeap x = States.atRest(8).heap();
        x.remove(5);
        Due.is("at(5)", x.at(5), 7);
        Due.is("at(7)", x.at(7), NOT_FOUND);
        Due.is("exchanges", x.count(0), 0);
        x = States.atRest(8).heap();
        x.remove(0);
        // 70 at place 0 goes below 10 by certificate 1, below 30 by certificate 3.
        long[] due = {1, 3, 2, 7, 4, 5, 6};
        for (int place = 0; place < due.length; place++) {
            Due.is("at(" + place + ") without point 0", x.at(place), due[place]);
        }
        Due.is("exchanges without point 0", x.count(0), 2);
    }

    /** "(if it was not the last one itself)" */
    private static void lastPointItself() {
        for (int points = 1; points <= 24; points++) {
            MovingHeap x = States.atRest(points).after(10 * points - 10, Call.REMOVE, points - 1);
            Due.is("size()", x.size(), points - 1);
            Due.is("exchanges", x.count(0), 0);
            for (int place = 0; place < points - 1; place++) {
                Due.is("at(" + place + ")", x.at(place), place);
            }
            Due.is("at(" + (points - 1) + ")", x.at(points - 1), NOT_FOUND);
        }
    }

    /** "After a change of velocity ... the heap is settled": the values stay, and so do places. */
    private static void settledAfterChangeOfVelocity() {
        for (int velocity : new int[] {-1000, 1000}) {
            MovingHeap x = States.atRest(24).heap();
            for (int p = 0; p < 24; p++) {
                x.setVelocity(p, velocity);
            }
            Due.is("exchanges", x.count(0), 0);
            Due.is("calendarSize()", x.calendarSize(), 0);
            x.setVelocity(0, 0);
            Due.is("exchanges", x.count(0), 0);
            Due.is("failure(1)", x.failure(1), velocity < 0 ? 1 : NOT_FOUND);
        }
    }

    /** "and after a jump, the heap is settled, too": upwards, downwards and not at all. */
    private static void settledAfterJump() {
        MovingHeap x = States.atRest(24).heap();
        x.jump(11, 51);
        Due.is("exchanges after a jump that leaves the order", x.count(0), 0);
        x.jump(11, 49);
        Due.is("place after a jump past point 5", x.point(11, 2), 5);
        Due.is("place of point 5", x.point(5, 2), 11);
        x.jump(11, 51);
        Due.is("place after a jump back", x.point(11, 2), 11);
        x.jump(11, 230);
        Due.is("place at equal values and the lower number", x.point(11, 2), 11);
        x.jump(11, 231);
        Due.is("place below point 23", x.point(11, 2), 23);
        Due.is("exchanges", x.count(0), 3);
    }

    /** "A point that is removed and its number are free then." */
    private static void removedPointIsFree() {
        for (int p = 0; p < 24; p++) {
            Past past = States.atRest(24).then(Call.PASS, 2).then(Call.REMOVE, p);
            past.unchanged(INVALID, Call.POINT, p, 0);
            past.unchanged(INVALID, Call.REMOVE, p);
            past.unchanged(INVALID, Call.JUMP, p, 1);
            past.unchanged(INVALID, Call.SET_VELOCITY, p, 1);
            past.unchanged(INVALID, Call.MEETING, p, p == 0 ? 1 : 0);
            MovingHeap x = past.after(p, Call.INSERT, 77, 7);
            Due.is("value of the other point", x.point(p, 0), 77);
            Due.is("velocity of the other point", x.point(p, 1), 7);
            Due.is("birth of the other point", x.point(p, 3), 2);
        }
    }

    /** "after all operations that were made while the present time was t, or before" */
    private static void allOperationsOfATime() {
        Past past = new Past("operations at 4").then(Call.INSERT, 1, 1).then(Call.PASS, 4)
            .then(Call.INSERT, 50, 0).then(Call.JUMP, 0, 9).then(Call.SET_VELOCITY, 0, -1)
            .then(Call.INSERT, 60, 0).then(Call.REMOVE, 1).then(Call.JUMP, 0, 10)
            .then(Call.PASS, 6);
        past.unchanged(4, Call.VALUE_AT, 0, 3);
        past.unchanged(10, Call.VALUE_AT, 0, 4);
        past.unchanged(9, Call.VALUE_AT, 0, 5);
        past.unchanged(NOT_FOUND, Call.VALUE_AT, 1, 4);
        past.unchanged(NOT_FOUND, Call.VALUE_AT, 2, 3);
        past.unchanged(60, Call.VALUE_AT, 2, 4);
        past.unchanged(1, Call.SIZE_AT, 3);
        past.unchanged(2, Call.SIZE_AT, 4);
        past.unchanged(2, Call.SIZE_AT, 5);
    }

    /** "The state at the present time is the present one.": after each operation. */
    private static void presentStateIsThePresentOne() {
        MovingHeap x = new MovingHeap();
        x.pass(3);
        x.insert(5, 2);
        Due.is("sizeAt(3) after the first insert", x.sizeAt(3), 1);
        x.insert(4, 0);
        Due.is("sizeAt(3) after the second insert", x.sizeAt(3), 2);
        Due.is("topAt(3) after the second insert", x.topAt(3), 1);
        x.jump(1, 6);
        Due.is("topAt(3) after a jump", x.topAt(3), 0);
        Due.is("leastBetween(3, 3) after a jump", x.leastBetween(3, 3), 5);
        x.remove(0);
        Due.is("topAt(3) after a removal", x.topAt(3), 1);
        Due.is("topChanges(3, 3) after a removal", x.topChanges(3, 3), 1);
        x.remove(1);
        Due.is("topAt(3) after the last removal", x.topAt(3), NOT_FOUND);
        Due.is("topChanges(3, 3) after the last removal", x.topChanges(3, 3), 0);
        x.pass(5);
        Due.is("sizeAt(3) afterwards", x.sizeAt(3), 0);
    }

    /** "(There were no points before the first operation.)" */
    private static void noPointsBeforeTheFirstOperation() {
        Past past = new Past("first operation at 3").then(Call.PASS, 3)
            .then(Call.INSERT, 0, 0).then(Call.PASS, 5);
        for (int t = 0; t < 3; t++) {
            past.unchanged(NOT_FOUND, Call.TOP_AT, t);
            past.unchanged(NOT_FOUND, Call.VALUE_AT, 0, t);
            past.unchanged(NOT_FOUND, Call.ORDER_AT, 0, t);
            past.unchanged(0, Call.SIZE_AT, t);
            past.unchanged(NOT_FOUND, Call.LEAST_BETWEEN, 0, t);
        }
        past.unchanged(0, Call.TOP_AT, 3);
        past.unchanged(0, Call.LEAST_BETWEEN, 0, 3);
        past.unchanged(1, Call.TOP_CHANGES, 1, 3);
    }

    /** "What is known ... goes back to the beginning, or to the latest call of forget." */
    private static void knownBackToTheBeginning() {
        MovingHeap x = new MovingHeap();
        x.insert(8, 0);
        for (int i = 1; i < 200; i++) {
            x.pass(500 * i);
            x.jump(0, 8 + i);
        }
        x.pass(100000);
        Due.is("valueAt(0, 0)", x.valueAt(0, 0), 8);
        Due.is("valueAt(0, 499)", x.valueAt(0, 499), 8);
        Due.is("valueAt(0, 500)", x.valueAt(0, 500), 9);
        Due.is("valueAt(0, 99499)", x.valueAt(0, 99499), 206);
        Due.is("valueAt(0, 99500)", x.valueAt(0, 99500), 207);
        Due.is("valueAt(0, 100000)", x.valueAt(0, 100000), 207);
        x.forget();
        Due.is("valueAt(0, 99999)", x.valueAt(0, 99999), MovingHeap.NOT_POSSIBLE);
        Due.is("valueAt(0, 100000) after forget", x.valueAt(0, 100000), 207);
    }

    /** "A number that was given again is another point." */
    private static void numberGivenAgainIsAnotherPoint() {
        MovingHeap x = new MovingHeap();
        x.insert(5, 3);
        x.pass(2);
        x.remove(0);
        x.pass(4);
        Due.is("number", x.insert(90, -1), 0);
        x.pass(6);
        Due.is("value", x.point(0, 0), 88);
        Due.is("velocity", x.point(0, 1), -1);
        Due.is("birth", x.point(0, 3), 4);
        Due.is("valueAt(0, 1) of the first one", x.valueAt(0, 1), 8);
        Due.is("valueAt(0, 2) of none", x.valueAt(0, 2), NOT_FOUND);
        Due.is("valueAt(0, 3) of none", x.valueAt(0, 3), NOT_FOUND);
        Due.is("valueAt(0, 4) of the second one", x.valueAt(0, 4), 90);
        Due.is("valueAt(0, 5) of the second one", x.valueAt(0, 5), 89);
        x.remove(0);
        Due.is("number, again", x.insert(7, 0), 0);
        // The second one was not born at 0: what is left of it would be seen.
        Due.is("birth of the third one", x.point(0, 3), 6);
        Due.is("velocity of the third one", x.point(0, 1), 0);
        Due.is("valueAt(0, 5) of the second one, still", x.valueAt(0, 5), 89);
        Due.is("valueAt(0, 6) of the third one", x.valueAt(0, 6), 7);
    }
}
