/** The calls of the document's face as things to hand on: each on the class and on the model. */
enum Call {
    INSERT("insert", 2, (x, a, b) -> x.insert(a, b), (m, a, b) -> m.insert(a, b)),
    REMOVE("remove", 1, (x, a, b) -> x.remove(a), (m, a, b) -> m.remove(a)),
    SET_VELOCITY("setVelocity", 2, (x, a, b) -> x.setVelocity(a, b),
        (m, a, b) -> m.setVelocity(a, b)),
    JUMP("jump", 2, (x, a, b) -> x.jump(a, b), (m, a, b) -> m.jump(a, b)),
    SIZE("size", 0, (x, a, b) -> x.size(), (m, a, b) -> m.size()),
    POINT("point", 2, (x, a, b) -> x.point(a, b), (m, a, b) -> m.point(a, b)),
    AT("at", 1, (x, a, b) -> x.at(a), (m, a, b) -> m.at(a)),
    PASS("pass", 1, (x, a, b) -> x.pass(a), (m, a, b) -> m.pass(a)),
    STEP("step", 0, (x, a, b) -> x.step(), (m, a, b) -> m.step()),
    TIME("time", 0, (x, a, b) -> x.time(), (m, a, b) -> m.time()),
    COUNT("count", 1, (x, a, b) -> x.count(a), (m, a, b) -> m.count(a)),
    FAILURE("failure", 1, (x, a, b) -> x.failure(a), (m, a, b) -> m.failure(a)),
    CALENDAR("calendar", 2, (x, a, b) -> x.calendar(a, b), (m, a, b) -> m.calendar(a, b)),
    CALENDAR_SIZE("calendarSize", 0, (x, a, b) -> x.calendarSize(), (m, a, b) -> m.calendarSize()),
    TOP_CHANGE("topChange", 0, (x, a, b) -> x.topChange(), (m, a, b) -> m.topChange()),
    MEETING("meeting", 2, (x, a, b) -> x.meeting(a, b), (m, a, b) -> m.meeting(a, b)),
    TOP_AT("topAt", 1, (x, a, b) -> x.topAt(a), (m, a, b) -> m.topAt(a)),
    VALUE_AT("valueAt", 2, (x, a, b) -> x.valueAt(a, b), (m, a, b) -> m.valueAt(a, b)),
    ORDER_AT("orderAt", 2, (x, a, b) -> x.orderAt(a, b), (m, a, b) -> m.orderAt(a, b)),
    SIZE_AT("sizeAt", 1, (x, a, b) -> x.sizeAt(a), (m, a, b) -> m.sizeAt(a)),
    TOP_CHANGES("topChanges", 2, (x, a, b) -> x.topChanges(a, b), (m, a, b) -> m.topChanges(a, b)),
    LEAST_BETWEEN("leastBetween", 2, (x, a, b) -> x.leastBetween(a, b),
        (m, a, b) -> m.leastBetween(a, b)),
    FORGET("forget", 0, (x, a, b) -> x.forget(), (m, a, b) -> m.forget());

    private interface OnHeap {
        long answer(MovingHeap x, int a, int b);
    }

    private interface OnModel {
        long answer(Model m, int a, int b);
    }

    private final String name;
    private final int number;
    private final OnHeap onHeap;
    private final OnModel onModel;

    Call(String name, int number, OnHeap onHeap, OnModel onModel) {
        this.name = name;
        this.number = number;
        this.onHeap = onHeap;
        this.onModel = onModel;
    }

    /** How many arguments the call has. */
    int arguments() {
        return number;
    }

    /** Whether the call may change the state when it is not refused. */
    boolean changes() {
        switch (this) {
            case INSERT: case REMOVE: case SET_VELOCITY: case JUMP: case PASS: case STEP:
            case FORGET:
                return true;
            default:
                return false;
        }
    }

    long on(MovingHeap x, int... arguments) {
        return onHeap.answer(x, argument(arguments, 0), argument(arguments, 1));
    }

    long on(Model m, int... arguments) {
        return onModel.answer(m, argument(arguments, 0), argument(arguments, 1));
    }

    String text(int... arguments) {
        StringBuilder text = new StringBuilder(name).append('(');
        for (int i = 0; i < number; i++) {
            text.append(i == 0 ? "" : ", ").append(argument(arguments, i));
        }
        return text.append(')').toString();
    }

    private int argument(int[] arguments, int index) {
        // A call with an argument too many or too few would test something else than it says.
        if (arguments.length != number) {
            throw new IllegalArgumentException(name + " has " + number + " arguments");
        }
        return index < number ? arguments[index] : 0;
    }
}
