/**
 * All that an object answers, in parts: an object answers 512 calls alone, so that each part is
 * looked at on an object of its own.
 */
final class Look {
    static final int PARTS = 8;
    /** Without the last part, which takes the model, that knows no failures ahead, too long. */
    static final int PARTS_OF_THE_MODEL = 7;
    /** What a past may have of the 512 calls. */
    static final int MOST_CALLS_BEFORE = 224;
    private static final int MOST_CALLS = 512 - MOST_CALLS_BEFORE - 1;
    private static final int POINTS = 24;
    private static final int MOMENTS = 10;

    /** Who is looked at: the class or the model. */
    interface Answers {
        long to(Call call, int... arguments);
    }

    private final Answers who;
    private final long[] answers = new long[MOST_CALLS];
    private final Call[] calls = new Call[MOST_CALLS];
    private final int[][] arguments = new int[MOST_CALLS][];
    private int number = 0;

    private Look(Answers who) {
        this.who = who;
    }

    static Look at(MovingHeap x, int part) {
        return new Look((call, arguments) -> call.on(x, arguments)).part(part);
    }

    static Look at(Model m, int part) {
        return new Look((call, arguments) -> call.on(m, arguments)).part(part);
    }

    /** The first answer that differs, in words; empty if there is none. */
    String difference(Look due) {
        for (int i = 0; i < Math.max(number, due.number); i++) {
            if (i >= number || i >= due.number || answers[i] != due.answers[i]) {
                Look longer = i < number ? this : due;
                String text = longer.calls[i].text(longer.arguments[i]);
                return text + " answered " + answers[i] + ", due is " + due.answers[i];
            }
        }
        return "";
    }

    private long ask(Call call, int... with) {
        long answer = who.to(call, with);
        answers[number] = answer;
        calls[number] = call;
        arguments[number] = with;
        number++;
        return answer;
    }

    private Look part(int part) {
        switch (part) {
            case 0:
                present();
                break;
            case 1:
                certificates();
                break;
            case 2:
                meetings();
                break;
            case 3:
                valuesOfMoments();
                break;
            case 4:
                ordersOfMoments();
                break;
            case 5:
                spans();
                break;
            case 6:
                nextTimes();
                break;
            default:
                nextStops();
                break;
        }
        return this;
    }

    private void present() {
        counts();
        for (int p = 0; p < POINTS; p++) {
            for (int what = 0; what < 5; what++) {
                ask(Call.POINT, p, what);
            }
        }
        places();
        // Not at first: what is known of earlier moments is gone then.
        ask(Call.FORGET);
    }

    private void counts() {
        ask(Call.TIME);
        ask(Call.SIZE);
        for (int what = 0; what < 3; what++) {
            ask(Call.COUNT, what);
        }
    }

    private void places() {
        for (int place = 0; place <= POINTS; place++) {
            ask(Call.AT, place);
        }
    }

    private void certificates() {
        for (int k = 1; k < POINTS; k++) {
            ask(Call.FAILURE, k);
        }
        for (int i = 0; i < POINTS; i++) {
            ask(Call.CALENDAR, i, 0);
            ask(Call.CALENDAR, i, 1);
        }
        ask(Call.CALENDAR_SIZE);
        ask(Call.TOP_CHANGE);
    }

    private void meetings() {
        for (int a = 0; a < POINTS; a++) {
            for (int b = a + 1; b < POINTS; b++) {
                ask(Call.MEETING, a, b);
            }
        }
    }

    /** The beginning and the latest times: ten, or all that there were. */
    private static int moment(int index, int now) {
        return index == 0 ? 0 : Math.max(now - MOMENTS + 1, 0) + index;
    }

    private void valuesOfMoments() {
        int now = (int) ask(Call.TIME);
        for (int i = 0; i < MOMENTS && moment(i, now) <= now; i++) {
            for (int p = 0; p < POINTS; p++) {
                ask(Call.VALUE_AT, p, moment(i, now));
            }
        }
    }

    private void ordersOfMoments() {
        int now = (int) ask(Call.TIME);
        for (int i = 0; i < MOMENTS && moment(i, now) <= now; i++) {
            ask(Call.SIZE_AT, moment(i, now));
            ask(Call.TOP_AT, moment(i, now));
            for (int place = 0; place < POINTS; place++) {
                ask(Call.ORDER_AT, place, moment(i, now));
            }
        }
    }

    private void spans() {
        int now = (int) ask(Call.TIME);
        for (int i = 0; i < MOMENTS && moment(i, now) <= now; i++) {
            for (int j = 0; j < MOMENTS && moment(j, now) <= now; j++) {
                ask(Call.TOP_CHANGES, moment(i, now), moment(j, now));
                ask(Call.LEAST_BETWEEN, moment(i, now), moment(j, now));
            }
        }
    }

    private void nextTimes() {
        int now = (int) ask(Call.TIME);
        for (int units = 1; units <= 1000; units *= 10) {
            ask(Call.PASS, Math.min(now + units, 100000));
            counts();
            places();
        }
        pointToCome();
    }

    private void nextStops() {
        for (int i = 0; i < 5; i++) {
            ask(Call.STEP);
            counts();
            places();
        }
        ask(Call.PASS, 100000);
        counts();
        places();
        pointToCome();
    }

    private void pointToCome() {
        long point = ask(Call.INSERT, 0, 0);
        // With 24 points, or after 200 operations, there is no new one to look at.
        if (point >= 0) {
            ask(Call.POINT, (int) point, 2);
        }
        ask(Call.FORGET);
    }
}
