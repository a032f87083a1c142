import java.util.ArrayList;
import java.util.Comparator;
import java.util.List;
import java.util.Map;
import java.util.TreeMap;

/**
 * The document once more, in the most literal way: time passes unit by unit, failures are
 * searched instead of computed, and after every operation the whole state is put away.
 */
final class Model {
    static final long INVALID = -1000000000001L;
    static final long NOT_POSSIBLE = -1000000000002L;
    static final long LIMIT = -1000000000003L;
    static final long NOT_FOUND = -1000000000004L;
    private static final int HORIZON = 1000000;

    /** A point with its value at one time. */
    private static final class Point {
        final int number;
        final int birth;
        long value;
        long velocity;
        int time;

        Point(int number, int birth, long value, long velocity, int time) {
            this.number = number;
            this.birth = birth;
            this.value = value;
            this.velocity = velocity;
            this.time = time;
        }

        Point copy() {
            return new Point(number, birth, value, velocity, time);
        }

        long valueAt(int t) {
            return value + velocity * (t - time);
        }

        boolean isBefore(Point other, int t) {
            if (valueAt(t) != other.valueAt(t)) {
                return valueAt(t) < other.valueAt(t);
            }
            return number < other.number;
        }
    }

    private interface Moment {
        boolean fits(int t);
    }

    private final List<Point> heap = new ArrayList<>();
    private final TreeMap<Integer, List<Point>> states = new TreeMap<>();
    private int now = 0;
    private int operations = 0;
    private int since = 0;
    private long exchanges = 0;
    private long stops = 0;
    private long topExchanges = 0;

    long insert(int value, int velocity) {
        if (Math.abs((long) value) > 1000000 || Math.abs((long) velocity) > 1000) {
            return INVALID;
        }
        if (heap.size() == 24 || operations == 200) {
            return LIMIT;
        }
        int number = 0;
        while (find(number) != null) {
            number++;
        }
        heap.add(new Point(number, now, value, velocity, now));
        finish();
        return number;
    }

    long remove(int number) {
        Point point = find(number);
        if (point == null) {
            return INVALID;
        }
        if (operations == 200) {
            return LIMIT;
        }
        Point last = heap.remove(heap.size() - 1);
        if (last != point) {
            heap.set(heap.indexOf(point), last);
        }
        finish();
        return point.valueAt(now);
    }

    long setVelocity(int number, int velocity) {
        Point point = find(number);
        if (point == null || Math.abs((long) velocity) > 1000) {
            return INVALID;
        }
        if (operations == 200) {
            return LIMIT;
        }
        long previous = point.velocity;
        point.value = point.valueAt(now);
        point.time = now;
        point.velocity = velocity;
        finish();
        return previous;
    }

    long jump(int number, int value) {
        Point point = find(number);
        if (point == null || Math.abs((long) value) > 1000000) {
            return INVALID;
        }
        if (operations == 200) {
            return LIMIT;
        }
        long previous = point.valueAt(now);
        point.value = value;
        point.time = now;
        finish();
        return previous;
    }

    int size() {
        return heap.size();
    }

    long point(int number, int what) {
        Point point = find(number);
        if (point == null || what < 0 || what > 4) {
            return INVALID;
        }
        long[] properties = {
            point.valueAt(now), point.velocity, heap.indexOf(point), point.birth,
            ordered(heap, now).indexOf(point)
        };
        return properties[what];
    }

    long at(int place) {
        if (place < 0) {
            return INVALID;
        }
        return place < heap.size() ? heap.get(place).number : NOT_FOUND;
    }

    long pass(int time) {
        if (time < now || time > 100000) {
            return INVALID;
        }
        long before = stops;
        for (int t = now; t <= time; t++) {
            now = t;
            if (brokenCertificate() != 0) {
                stops++;
                settle();
            }
        }
        return stops - before;
    }

    long step() {
        int start = now;
        for (int t = now; t <= 100000; t++) {
            now = t;
            if (brokenCertificate() != 0) {
                stops++;
                settle();
                return now;
            }
        }
        now = start;
        return NOT_FOUND;
    }

    int time() {
        return now;
    }

    long count(int what) {
        if (what < 0 || what > 2) {
            return INVALID;
        }
        return new long[] {exchanges, stops, topExchanges}[what];
    }

    long failure(int place) {
        if (place < 1 || place >= heap.size()) {
            return INVALID;
        }
        Point child = heap.get(place);
        Point parent = heap.get((place - 1) / 2);
        return search(now, t -> !parent.isBefore(child, t));
    }

    long calendar(int index, int what) {
        if (index < 0 || what < 0 || what > 1) {
            return INVALID;
        }
        List<long[]> entries = entries();
        return index < entries.size() ? entries.get(index)[what] : NOT_FOUND;
    }

    int calendarSize() {
        return entries().size();
    }

    long topChange() {
        if (heap.isEmpty()) {
            return NOT_POSSIBLE;
        }
        Point top = ordered(heap, now).get(0);
        return search(now + 1, t -> ordered(heap, t).get(0) != top);
    }

    long meeting(int a, int b) {
        Point one = find(a);
        Point other = find(b);
        if (one == null || other == null || a == b) {
            return INVALID;
        }
        boolean order = one.isBefore(other, now);
        return search(now + 1, t -> one.isBefore(other, t) != order);
    }

    long topAt(int time) {
        return orderAt(0, time);
    }

    long valueAt(int number, int time) {
        if (number < 0 || number > 23 || time < 0 || time > now) {
            return INVALID;
        }
        if (time < since) {
            return NOT_POSSIBLE;
        }
        for (Point point : stateAt(time)) {
            if (point.number == number) {
                return point.valueAt(time);
            }
        }
        return NOT_FOUND;
    }

    long orderAt(int place, int time) {
        if (place < 0 || time < 0 || time > now) {
            return INVALID;
        }
        if (time < since) {
            return NOT_POSSIBLE;
        }
        List<Point> order = ordered(stateAt(time), time);
        return place < order.size() ? order.get(place).number : NOT_FOUND;
    }

    long sizeAt(int time) {
        if (time < 0 || time > now) {
            return INVALID;
        }
        return time < since ? NOT_POSSIBLE : stateAt(time).size();
    }

    long topChanges(int from, int to) {
        if (from < 1 || from > now || to < from || to > now || to - from > 500) {
            return INVALID;
        }
        if (from - 1 < since) {
            return NOT_POSSIBLE;
        }
        long changes = 0;
        for (int t = from; t <= to; t++) {
            if (topAt(t) != topAt(t - 1)) {
                changes++;
            }
        }
        return changes;
    }

    long leastBetween(int from, int to) {
        if (from < 0 || from > now || to < from || to > now || to - from > 500) {
            return INVALID;
        }
        if (from < since) {
            return NOT_POSSIBLE;
        }
        long least = Long.MAX_VALUE;
        for (int t = from; t <= to; t++) {
            for (Point point : stateAt(t)) {
                least = Math.min(least, point.valueAt(t));
            }
        }
        return least == Long.MAX_VALUE ? NOT_FOUND : least;
    }

    int forget() {
        int made = operations;
        operations = 0;
        since = now;
        states.clear();
        putStateAway();
        return made;
    }

    private Point find(int number) {
        for (Point point : heap) {
            if (point.number == number) {
                return point;
            }
        }
        return null;
    }

    private void finish() {
        operations++;
        settle();
        putStateAway();
    }

    private void putStateAway() {
        List<Point> copies = new ArrayList<>();
        for (Point point : heap) {
            copies.add(point.copy());
        }
        states.put(now, copies);
    }

    private List<Point> stateAt(int time) {
        Map.Entry<Integer, List<Point>> state = states.floorEntry(time);
        return state == null ? new ArrayList<>() : state.getValue();
    }

    private int brokenCertificate() {
        for (int k = 1; k < heap.size(); k++) {
            if (!heap.get((k - 1) / 2).isBefore(heap.get(k), now)) {
                return k;
            }
        }
        return 0;
    }

    private void settle() {
        for (int k = brokenCertificate(); k != 0; k = brokenCertificate()) {
            int parent = (k - 1) / 2;
            Point child = heap.get(k);
            heap.set(k, heap.get(parent));
            heap.set(parent, child);
            exchanges++;
            topExchanges += parent == 0 ? 1 : 0;
        }
    }

    private List<long[]> entries() {
        List<long[]> entries = new ArrayList<>();
        for (int k = 1; k < heap.size(); k++) {
            if (failure(k) != NOT_FOUND) {
                entries.add(new long[] {failure(k), k});
            }
        }
        entries.sort(Comparator.comparingLong((long[] e) -> e[0]).thenComparingLong(e -> e[1]));
        return entries;
    }

    private static List<Point> ordered(List<Point> points, int t) {
        List<Point> order = new ArrayList<>(points);
        order.sort((a, b) -> a == b ? 0 : a.isBefore(b, t) ? -1 : 1);
        return order;
    }

    /** The least time that fits: lines cross once, so once a moment fits, all later ones do. */
    private static long search(int from, Moment moment) {
        if (!moment.fits(HORIZON)) {
            return NOT_FOUND;
        }
        int low = from;
        int high = HORIZON;
        while (low < high) {
            int middle = (low + high) / 2;
            if (moment.fits(middle)) {
                high = middle;
            } else {
                low = middle + 1;
            }
        }
        return low;
    }
}
