/** Long runs of calls of every kind, each answer compared with the model's. */
public final class ModelTest {
    private static final int RUNS = 1200;
    private static final int CALLS = 512;
    private static final int[] VALUES = {3, 30, 400, 1000000};
    private static final int[] VELOCITIES = {1, 4, 50, 1000};
    private static final int[] PASSES = {2, 10, 60, 400, 6000};
    private static final int[] EXTREMES = {
        Integer.MIN_VALUE, Integer.MIN_VALUE + 1, -1000001, -1001, -1, 24, 1001, 100001, 1000001,
        Integer.MAX_VALUE - 1, Integer.MAX_VALUE
    };

    private final MovingHeap heap = new MovingHeap();
    private final Model model = new Model();
    private final Numbers numbers;
    private final int run;
    private final int values;
    private final int velocities;
    private final int passes;
    private final int operationsIn;

    private ModelTest(int run) {
        this.run = run;
        numbers = new Numbers(run);
        values = VALUES[numbers.between(0, 3)];
        velocities = VELOCITIES[numbers.between(0, 3)];
        passes = PASSES[numbers.between(0, 4)];
        operationsIn = numbers.between(1, 6);
    }

    public static void main(String[] args) {
        for (int run = 1; run <= RUNS && Due.wrong() == 0; run++) {
            new ModelTest(run).go();
        }
        Due.finish();
    }

    private void go() {
        for (int call = 0; call < CALLS && Due.wrong() == 0; call++) {
            if (numbers.once(operationsIn)) {
                change();
            } else {
                ask();
            }
        }
    }

    private void due(String call, long got, long want) {
        Due.is("run " + run + " at time " + model.time() + ": " + call, got, want);
    }

    private int orExtreme(int usual) {
        return numbers.once(30) ? EXTREMES[numbers.between(0, EXTREMES.length - 1)] : usual;
    }

    private int aValue() {
        return orExtreme(numbers.between(-values, values));
    }

    private int aVelocity() {
        return orExtreme(numbers.between(-velocities, velocities));
    }

    private int aPoint() {
        return orExtreme(numbers.between(0, Math.min(23, model.size())));
    }

    private int aPlace() {
        return orExtreme(numbers.between(0, model.size() + 1));
    }

    private int aMoment() {
        int now = model.time();
        int recent = numbers.once(2) ? Math.max(0, now - 20) : 0;
        return orExtreme(numbers.between(recent, now));
    }

    private int momentFrom(int from) {
        int now = model.time();
        if (from < 0 || from > now) {
            return aMoment();
        }
        return orExtreme(numbers.between(from, Math.min(now, from + numbers.between(0, 510))));
    }

    private void change() {
        int a;
        int b;
        switch (numbers.between(0, 19)) {
            case 0: case 1: case 2: case 3: case 4: case 5: case 6:
                a = aValue();
                b = aVelocity();
                due("insert(" + a + ", " + b + ")", heap.insert(a, b), model.insert(a, b));
                break;
            case 7: case 8:
                a = aPoint();
                due("remove(" + a + ")", heap.remove(a), model.remove(a));
                break;
            case 9: case 10:
                a = aPoint();
                b = aVelocity();
                due("setVelocity(" + a + ", " + b + ")", heap.setVelocity(a, b),
                    model.setVelocity(a, b));
                break;
            case 11: case 12:
                a = aPoint();
                b = aValue();
                due("jump(" + a + ", " + b + ")", heap.jump(a, b), model.jump(a, b));
                break;
            case 13: case 14: case 15: case 16:
                a = orExtreme(model.time() + numbers.between(-1, passes));
                due("pass(" + a + ")", heap.pass(a), model.pass(a));
                break;
            case 17: case 18:
                due("step()", heap.step(), model.step());
                break;
            default:
                if (numbers.once(4)) {
                    due("forget()", heap.forget(), model.forget());
                }
                break;
        }
    }

    private void ask() {
        if (numbers.once(2)) {
            askOfThePresent();
        } else {
            askOfOtherMoments();
        }
    }

    private void askOfThePresent() {
        int a = aPoint();
        int b = aPoint();
        int what = orExtreme(numbers.between(0, 5));
        int place = aPlace();
        switch (numbers.between(0, 10)) {
            case 0:
                due("size()", heap.size(), model.size());
                break;
            case 1: case 2:
                due("point(" + a + ", " + what + ")", heap.point(a, what), model.point(a, what));
                break;
            case 3: case 4:
                due("at(" + place + ")", heap.at(place), model.at(place));
                break;
            case 5:
                if (numbers.once(2)) {
                    due("time()", heap.time(), model.time());
                } else {
                    due("count(" + what + ")", heap.count(what), model.count(what));
                }
                break;
            case 6:
                due("failure(" + place + ")", heap.failure(place), model.failure(place));
                break;
            case 7:
                what = orExtreme(numbers.between(0, 1));
                due("calendar(" + place + ", " + what + ")", heap.calendar(place, what),
                    model.calendar(place, what));
                break;
            case 8:
                due("calendarSize()", heap.calendarSize(), model.calendarSize());
                break;
            case 9:
                due("topChange()", heap.topChange(), model.topChange());
                break;
            default:
                due("meeting(" + a + ", " + b + ")", heap.meeting(a, b), model.meeting(a, b));
                break;
        }
    }

    private void askOfOtherMoments() {
        int a = aPoint();
        int place = aPlace();
        int t = aMoment();
        int to = momentFrom(t);
        switch (numbers.between(0, 5)) {
            case 0:
                due("topAt(" + t + ")", heap.topAt(t), model.topAt(t));
                break;
            case 1:
                due("valueAt(" + a + ", " + t + ")", heap.valueAt(a, t), model.valueAt(a, t));
                break;
            case 2:
                due("orderAt(" + place + ", " + t + ")", heap.orderAt(place, t),
                    model.orderAt(place, t));
                break;
            case 3:
                due("sizeAt(" + t + ")", heap.sizeAt(t), model.sizeAt(t));
                break;
            case 4:
                due("topChanges(" + t + ", " + to + ")", heap.topChanges(t, to),
                    model.topChanges(t, to));
                break;
            default:
                due("leastBetween(" + t + ", " + to + ")", heap.leastBetween(t, to),
                    model.leastBetween(t, to));
                break;
        }
    }
}
