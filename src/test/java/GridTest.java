import java.util.Arrays;

/**
 * Every call in every state of States with every pair of arguments at the bounds, compared with
 * the model: what it answers, that an error or a question changes nothing, and what else changes.
 */
public final class GridTest {
    private static final int LEAST = Integer.MIN_VALUE;
    private static final int GREATEST = Integer.MAX_VALUE;
    private static final int[] VALUES = {LEAST, -1000001, -1000000, 0, 1000000, 1000001, GREATEST};
    private static final int[] VELOCITIES = {LEAST, -1001, -1000, 0, 1000, 1001, GREATEST};
    private static final int[] POINTS = {LEAST, -1, 0, 1, 2, 3, 4, 22, 23, 24, GREATEST};
    private static final int[] WHATS = {LEAST, -1, 0, 1, 2, 3, 4, 5, GREATEST};
    private static final int[] PLACES = {
        LEAST, -1, 0, 1, 2, 3, 4, 5, 21, 22, 23, 24, 25, GREATEST
    };
    private static final int[] NONE = {0};

    private GridTest() {
    }

    public static void main(String[] args) {
        for (Past past : States.all()) {
            for (Call call : Call.values()) {
                allArguments(past, call);
            }
        }
        Due.finish();
    }

    private static void allArguments(Past past, Call call) {
        int[] times = times(past.heap().time());
        // What only asks does so on one model, as a long past takes the model its time.
        Model asked = past.model();
        for (int a : bounds(call, 0, times)) {
            for (int b : bounds(call, 1, times)) {
                int[] arguments = Arrays.copyOf(new int[] {a, b}, call.arguments());
                if (call.changes()) {
                    change(past, call, arguments);
                } else {
                    past.unchanged(call.on(asked, arguments), call, arguments);
                }
            }
        }
    }

    private static void change(Past past, Call call, int... arguments) {
        long due = call.on(past.model(), arguments);
        if (due <= Model.INVALID && due >= Model.NOT_FOUND) {
            past.unchanged(due, call, arguments);
        } else {
            past.asModelled(call, arguments);
        }
    }

    /** The ends of int, of all times, of what is known in some state, of spans, and the present. */
    private static int[] times(int now) {
        return new int[] {
            LEAST, -1, 0, 1, 2, 5, 6, 7, 9, 10, 11, now - 501, now - 500, now - 499, now - 1, now,
            now + 1, 100000, 100001, GREATEST
        };
    }

    private static int[] bounds(Call call, int index, int[] times) {
        if (index >= call.arguments()) {
            return NONE;
        }
        switch (call) {
            case INSERT:
                return index == 0 ? VALUES : VELOCITIES;
            case REMOVE: case MEETING:
                return POINTS;
            case SET_VELOCITY:
                return index == 0 ? POINTS : VELOCITIES;
            case JUMP:
                return index == 0 ? POINTS : VALUES;
            case POINT:
                return index == 0 ? POINTS : WHATS;
            case CALENDAR:
                return index == 0 ? PLACES : WHATS;
            case VALUE_AT:
                return index == 0 ? POINTS : times;
            case ORDER_AT:
                return index == 0 ? PLACES : times;
            case AT: case FAILURE:
                return PLACES;
            case COUNT:
                return WHATS;
            default:
                return times;
        }
    }
}
