/**
 * A heap of points whose values grow linearly with time. The certificates between parents and
 * children tell when the heap is to be settled again; a log of the operations tells the states
 * at earlier moments. Every row is made in a constructor, so that no call makes an object.
 */
public final class MovingHeap {
    public static final long INVALID_ARGUMENT = -1000000000001L;
    public static final long NOT_POSSIBLE = -1000000000002L;
    public static final long LIMIT_REACHED = -1000000000003L;
    public static final long NOT_FOUND = -1000000000004L;

    private static final long NO_ERROR = 0L;
    private static final int MOST_POINTS = 24;
    private static final int MOST_PAIRS = MOST_POINTS * (MOST_POINTS - 1) / 2;
    private static final int MOST_OPERATIONS = 200;
    private static final int MOST_VALUE = 1000000;
    private static final int MOST_VELOCITY = 1000;
    private static final int LAST_TIME = 100000;
    private static final int LAST_FAILURE = 1000000;
    /** Later than every failure, so that it loses every comparison for the earliest time. */
    private static final int NEVER = LAST_FAILURE + 1;
    private static final int LONGEST_SPAN = 500;
    private static final int NO_POINT = -1;
    private static final int NO_PLACE = -1;
    private static final int NO_CERTIFICATE = 0;
    /** Above every value, so that it loses every comparison for the least one. */
    private static final long NO_VALUE = 1000000000000L;

    private final Lines points;
    private final Heap heap;
    private final History history;
    private final int[] births;
    private int now;
    private long stops;

    public MovingHeap() {
        heap = new Heap();
        points = heap.points;
        history = new History();
        births = new int[MOST_POINTS];
        now = 0;
        stops = 0;
    }

    // Points

    public long insert(int value, int velocity) {
        if (!isValue(value) || !isVelocity(velocity)) {
            return INVALID_ARGUMENT;
        }
        int point = points.lowestFree();
        if (point == NO_POINT || history.isFull()) {
            return LIMIT_REACHED;
        }
        points.start(point, value, velocity, now);
        births[point] = now;
        heap.append(point);
        finishOperation(point);
        return point;
    }

    public long remove(int point) {
        if (!points.has(point)) {
            return INVALID_ARGUMENT;
        }
        if (history.isFull()) {
            return LIMIT_REACHED;
        }
        long value = points.valueOf(point, now);
        heap.takeOut(point);
        points.drop(point);
        finishOperation(point);
        return value;
    }

    public long setVelocity(int point, int velocity) {
        if (!points.has(point) || !isVelocity(velocity)) {
            return INVALID_ARGUMENT;
        }
        if (history.isFull()) {
            return LIMIT_REACHED;
        }
        long previous = points.velocityOf(point);
        points.start(point, points.valueOf(point, now), velocity, now);
        finishOperation(point);
        return previous;
    }

    public long jump(int point, int value) {
        if (!points.has(point) || !isValue(value)) {
            return INVALID_ARGUMENT;
        }
        if (history.isFull()) {
            return LIMIT_REACHED;
        }
        long previous = points.valueOf(point, now);
        points.start(point, value, points.velocityOf(point), now);
        finishOperation(point);
        return previous;
    }

    public int size() {
        return points.number();
    }

    public long point(int point, int what) {
        if (!points.has(point)) {
            return INVALID_ARGUMENT;
        }
        switch (what) {
            case 0:
                return points.valueOf(point, now);
            case 1:
                return points.velocityOf(point);
            case 2:
                return heap.placeOf(point);
            case 3:
                return births[point];
            case 4:
                return points.rankOf(point, now);
            default:
                return INVALID_ARGUMENT;
        }
    }

    public long at(int place) {
        if (place < 0) {
            return INVALID_ARGUMENT;
        }
        return pointOrNotFound(heap.pointIn(place));
    }

    // Time

    public long pass(int time) {
        if (time < now || time > LAST_TIME) {
            return INVALID_ARGUMENT;
        }
        long made = 0;
        // At every stop two points change their order, and no pair does so twice in one pass.
        for (int i = 0; i < MOST_PAIRS; i++) {
            int next = heap.nextFailure(now);
            if (next > time) {
                break;
            }
            stopAt(next);
            made++;
        }
        now = time;
        return made;
    }

    public long step() {
        int next = heap.nextFailure(now);
        if (next > LAST_TIME) {
            return NOT_FOUND;
        }
        stopAt(next);
        return next;
    }

    public int time() {
        return now;
    }

    public long count(int what) {
        switch (what) {
            case 0:
                return heap.exchanges;
            case 1:
                return stops;
            case 2:
                return heap.topExchanges;
            default:
                return INVALID_ARGUMENT;
        }
    }

    // Certificates and the calendar

    public long failure(int place) {
        if (!heap.hasCertificate(place)) {
            return INVALID_ARGUMENT;
        }
        return timeOrNotFound(heap.failureOf(place, now));
    }

    public long calendar(int index, int what) {
        if (index < 0 || what < 0 || what > 1) {
            return INVALID_ARGUMENT;
        }
        int certificate = heap.calendarEntry(index, now);
        if (certificate == NO_CERTIFICATE) {
            return NOT_FOUND;
        }
        return what == 0 ? heap.failureOf(certificate, now) : certificate;
    }

    public int calendarSize() {
        return heap.calendarLength(now);
    }

    public long topChange() {
        if (points.number() == 0) {
            return NOT_POSSIBLE;
        }
        return timeOrNotFound(points.nextFirst(now));
    }

    public long meeting(int a, int b) {
        if (!points.has(a) || !points.has(b) || a == b) {
            return INVALID_ARGUMENT;
        }
        if (points.isBefore(a, b, now)) {
            return timeOrNotFound(points.endOfOrder(a, b, now));
        }
        return timeOrNotFound(points.endOfOrder(b, a, now));
    }

    // Other moments

    public long topAt(int time) {
        long error = momentError(time);
        if (error != NO_ERROR) {
            return error;
        }
        return pointOrNotFound(history.stateAt(time).firstAt(time));
    }

    public long valueAt(int point, int time) {
        if (point < 0 || point >= MOST_POINTS) {
            return INVALID_ARGUMENT;
        }
        long error = momentError(time);
        if (error != NO_ERROR) {
            return error;
        }
        Lines state = history.stateAt(time);
        return state.has(point) ? state.valueOf(point, time) : NOT_FOUND;
    }

    public long orderAt(int place, int time) {
        if (place < 0) {
            return INVALID_ARGUMENT;
        }
        long error = momentError(time);
        if (error != NO_ERROR) {
            return error;
        }
        return pointOrNotFound(history.stateAt(time).pointOfRank(place, time));
    }

    public long sizeAt(int time) {
        long error = momentError(time);
        if (error != NO_ERROR) {
            return error;
        }
        return history.stateAt(time).number();
    }

    public long topChanges(int from, int to) {
        long error = spanError(from, to, 1);
        if (error != NO_ERROR) {
            return error;
        }
        Lines state = history.stateAt(from - 1);
        int top = state.firstAt(from - 1);
        int turn = Math.min(history.nextOperation(), state.nextFirst(from - 1));
        long changes = 0;
        for (int t = from; t <= to; t++) {
            // Between operations the lines alone tell when another point is the first one.
            if (t >= turn) {
                history.advance(t);
                int first = state.firstAt(t);
                if (first != top) {
                    changes++;
                }
                top = first;
                turn = Math.min(history.nextOperation(), state.nextFirst(t));
            }
        }
        return changes;
    }

    public long leastBetween(int from, int to) {
        long error = spanError(from, to, 0);
        if (error != NO_ERROR) {
            return error;
        }
        Lines state = history.stateAt(from);
        long least = NO_VALUE;
        int end = from - 1;
        for (int t = from; t <= to; t++) {
            // Between operations every value is least at one of the ends.
            if (t > end) {
                history.advance(t);
                end = Math.min(to, history.nextOperation() - 1);
                least = Math.min(least, Math.min(state.leastAt(t), state.leastAt(end)));
            }
        }
        return least == NO_VALUE ? NOT_FOUND : least;
    }

    public int forget() {
        int made = history.operations();
        history.restart(points, now);
        return made;
    }

    private static boolean isValue(int value) {
        return value >= -MOST_VALUE && value <= MOST_VALUE;
    }

    private static boolean isVelocity(int velocity) {
        return velocity >= -MOST_VELOCITY && velocity <= MOST_VELOCITY;
    }

    private static long timeOrNotFound(int time) {
        return time == NEVER ? NOT_FOUND : time;
    }

    private static long pointOrNotFound(int point) {
        return point == NO_POINT ? NOT_FOUND : point;
    }

    private void finishOperation(int point) {
        heap.settle(now);
        history.record(points, point, now);
    }

    private void stopAt(int time) {
        now = time;
        stops++;
        heap.settle(now);
    }

    private long momentError(int time) {
        if (time < 0 || time > now) {
            return INVALID_ARGUMENT;
        }
        return history.knows(time) ? NO_ERROR : NOT_POSSIBLE;
    }

    /** What forbids to look at a span and at so many moments before it. */
    private long spanError(int from, int to, int before) {
        if (from < before || from > now || to < from || to > now || to - from > LONGEST_SPAN) {
            return INVALID_ARGUMENT;
        }
        return momentError(from - before);
    }

    /**
     * The points of one state. A point is kept as the line that it moves on, by its height at
     * time 0 (whether it was there then or not): so a state needs no moment of its own.
     */
    private static final class Lines {
        private final boolean[] there;
        private final long[] height;
        private final int[] velocity;
        private int number;

        Lines() {
            there = new boolean[MOST_POINTS];
            height = new long[MOST_POINTS];
            velocity = new int[MOST_POINTS];
            number = 0;
        }

        int number() {
            return number;
        }

        boolean has(int point) {
            return point >= 0 && point < MOST_POINTS && there[point];
        }

        int lowestFree() {
            for (int p = 0; p < MOST_POINTS; p++) {
                if (!there[p]) {
                    return p;
                }
            }
            return NO_POINT;
        }

        long heightOf(int point) {
            return has(point) ? height[point] : 0;
        }

        int velocityOf(int point) {
            return has(point) ? velocity[point] : 0;
        }

        long valueOf(int point, int t) {
            return has(point) ? height[point] + (long) velocity[point] * t : 0;
        }

        void start(int point, long value, int newVelocity, int t) {
            setLine(point, value - (long) newVelocity * t, newVelocity);
        }

        void setLine(int point, long newHeight, int newVelocity) {
            if (point < 0 || point >= MOST_POINTS) {
                return;
            }
            if (!there[point]) {
                there[point] = true;
                number++;
            }
            height[point] = newHeight;
            velocity[point] = newVelocity;
        }

        void drop(int point) {
            if (has(point)) {
                there[point] = false;
                number--;
            }
        }

        void copyFrom(Lines other) {
            for (int p = 0; p < MOST_POINTS; p++) {
                there[p] = other.there[p];
                height[p] = other.height[p];
                velocity[p] = other.velocity[p];
            }
            number = other.number;
        }

        boolean isBefore(int a, int b, int t) {
            long valueOfA = valueOf(a, t);
            long valueOfB = valueOf(b, t);
            return valueOfA < valueOfB || (valueOfA == valueOfB && a < b);
        }

        /** The least time, from t on, at which a is not before b. */
        int endOfOrder(int a, int b, int t) {
            if (!isBefore(a, b, t)) {
                return t;
            }
            long closing = (long) velocityOf(a) - velocityOf(b);
            if (closing <= 0) {
                return NEVER;
            }
            // With equal values the lower number is still before, and has to get past.
            long gap = valueOf(b, t) - valueOf(a, t) + (a < b ? 1 : 0);
            long end = t + (gap + closing - 1) / closing;
            return end > LAST_FAILURE ? NEVER : (int) end;
        }

        int firstAt(int t) {
            int first = NO_POINT;
            for (int p = 0; p < MOST_POINTS; p++) {
                if (there[p] && (first == NO_POINT || isBefore(p, first, t))) {
                    first = p;
                }
            }
            return first;
        }

        /** The least time after t at which another point is the first one. */
        int nextFirst(int t) {
            int first = firstAt(t);
            int next = NEVER;
            for (int p = 0; p < MOST_POINTS; p++) {
                if (there[p] && p != first) {
                    next = Math.min(next, endOfOrder(first, p, t));
                }
            }
            return next;
        }

        int rankOf(int point, int t) {
            int rank = 0;
            for (int p = 0; p < MOST_POINTS; p++) {
                if (there[p] && isBefore(p, point, t)) {
                    rank++;
                }
            }
            return rank;
        }

        int pointOfRank(int rank, int t) {
            for (int p = 0; p < MOST_POINTS; p++) {
                if (there[p] && rankOf(p, t) == rank) {
                    return p;
                }
            }
            return NO_POINT;
        }

        long leastAt(int t) {
            int first = firstAt(t);
            return first == NO_POINT ? NO_VALUE : valueOf(first, t);
        }
    }

    /** The present points, their places in the heap, and the certificates between them. */
    private static final class Heap {
        private final Lines points;
        private final int[] pointsByPlace;
        private final int[] placesByPoint;
        /** The failures of all certificates, while an entry of the calendar is looked for. */
        private final int[] failures;
        private int filled;
        private long exchanges;
        private long topExchanges;

        Heap() {
            points = new Lines();
            pointsByPlace = new int[MOST_POINTS];
            placesByPoint = new int[MOST_POINTS];
            failures = new int[MOST_POINTS];
            filled = 0;
            exchanges = 0;
            topExchanges = 0;
        }

        int pointIn(int place) {
            if (place < 0 || place >= filled || place >= MOST_POINTS) {
                return NO_POINT;
            }
            return pointsByPlace[place];
        }

        int placeOf(int point) {
            if (point < 0 || point >= MOST_POINTS) {
                return NO_PLACE;
            }
            return placesByPoint[point];
        }

        boolean hasCertificate(int place) {
            return place >= 1 && place < filled;
        }

        void append(int point) {
            if (filled < MOST_POINTS) {
                put(filled, point);
                filled++;
            }
        }

        void takeOut(int point) {
            int place = placeOf(point);
            int last = filled - 1;
            // Only then do the places that remain stay without a gap.
            if (place >= 0 && place <= last) {
                put(place, pointIn(last));
                filled = last;
            }
        }

        private void put(int place, int point) {
            if (place >= 0 && place < MOST_POINTS && point >= 0 && point < MOST_POINTS) {
                pointsByPlace[place] = point;
                placesByPoint[point] = place;
            }
        }

        int failureOf(int place, int now) {
            if (!hasCertificate(place)) {
                return NEVER;
            }
            return points.endOfOrder(pointIn(parentOf(place)), pointIn(place), now);
        }

        int nextFailure(int now) {
            int next = NEVER;
            for (int k = 1; k < filled; k++) {
                next = Math.min(next, failureOf(k, now));
            }
            return next;
        }

        void settle(int now) {
            // Each exchange leaves fewer pairs of places out of order than there were.
            for (int i = 0; i < MOST_PAIRS; i++) {
                int place = firstBroken(now);
                if (place == NO_CERTIFICATE) {
                    return;
                }
                exchange(place);
            }
        }

        private int firstBroken(int now) {
            for (int k = 1; k < filled; k++) {
                if (!points.isBefore(pointIn(parentOf(k)), pointIn(k), now)) {
                    return k;
                }
            }
            return NO_CERTIFICATE;
        }

        private void exchange(int place) {
            int parent = parentOf(place);
            int upper = pointIn(parent);
            put(parent, pointIn(place));
            put(place, upper);
            exchanges++;
            if (parent == 0) {
                topExchanges++;
            }
        }

        private static int parentOf(int place) {
            return (place - 1) / 2;
        }

        int calendarLength(int now) {
            int length = 0;
            for (int k = 1; k < filled; k++) {
                if (failureOf(k, now) != NEVER) {
                    length++;
                }
            }
            return length;
        }

        /** The number of the certificate that stands at an index of the calendar. */
        int calendarEntry(int index, int now) {
            for (int k = 1; k < filled && k < MOST_POINTS; k++) {
                failures[k] = failureOf(k, now);
            }
            for (int k = 1; k < filled && k < MOST_POINTS; k++) {
                if (failures[k] != NEVER && earlierThan(k, failures[k]) == index) {
                    return k;
                }
            }
            return NO_CERTIFICATE;
        }

        private int earlierThan(int place, int failure) {
            int earlier = 0;
            for (int k = 1; k < filled && k < MOST_POINTS; k++) {
                if (failures[k] < failure || (failures[k] == failure && k < place)) {
                    earlier++;
                }
            }
            return earlier;
        }
    }

    /**
     * The state at the beginning of what is known, and a log of the operations since: each with
     * the line on which its point went on, so that a state is told by replaying them.
     */
    private static final class History {
        private final Lines beginning;
        private final Lines state;
        private final int[] when;
        private final int[] which;
        private final boolean[] stays;
        private final long[] height;
        private final int[] velocity;
        private int recorded;
        private int replayed;
        private int since;

        History() {
            beginning = new Lines();
            state = new Lines();
            when = new int[MOST_OPERATIONS];
            which = new int[MOST_OPERATIONS];
            stays = new boolean[MOST_OPERATIONS];
            height = new long[MOST_OPERATIONS];
            velocity = new int[MOST_OPERATIONS];
            recorded = 0;
            replayed = 0;
            since = 0;
        }

        int operations() {
            return recorded;
        }

        boolean isFull() {
            return recorded >= MOST_OPERATIONS;
        }

        boolean knows(int t) {
            return t >= since;
        }

        void record(Lines points, int point, int now) {
            if (isFull()) {
                return;
            }
            when[recorded] = now;
            which[recorded] = point;
            stays[recorded] = points.has(point);
            height[recorded] = points.heightOf(point);
            velocity[recorded] = points.velocityOf(point);
            recorded++;
        }

        void restart(Lines points, int now) {
            beginning.copyFrom(points);
            recorded = 0;
            replayed = 0;
            since = now;
        }

        /** The state at a moment; it holds until the next call, or is moved on by advance. */
        Lines stateAt(int t) {
            state.copyFrom(beginning);
            replayed = 0;
            advance(t);
            return state;
        }

        void advance(int t) {
            for (int i = replayed; i < recorded && i < MOST_OPERATIONS && when[i] <= t; i++) {
                if (stays[i]) {
                    state.setLine(which[i], height[i], velocity[i]);
                } else {
                    state.drop(which[i]);
                }
                replayed = i + 1;
            }
        }

        /** The time of the first operation that the state does not contain yet. */
        int nextOperation() {
            return replayed < recorded && replayed < MOST_OPERATIONS ? when[replayed] : NEVER;
        }
    }
}
