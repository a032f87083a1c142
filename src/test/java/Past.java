import java.util.ArrayList;
import java.util.Arrays;
import java.util.List;

/** A row of calls that brings a new object into a state, as often as a test needs it. */
final class Past {
    private record Step(Call call, int[] arguments) {
    }

    private final String name;
    private final List<Step> steps = new ArrayList<>();
    private final Look[] untouched = new Look[Look.PARTS];

    Past(String name) {
        this.name = name;
    }

    Past then(Call call, int... arguments) {
        if (steps.size() == Look.MOST_CALLS_BEFORE) {
            throw new IllegalStateException(name + " leaves too few of the 512 calls");
        }
        steps.add(new Step(call, arguments));
        Arrays.fill(untouched, null);
        return this;
    }

    MovingHeap heap() {
        MovingHeap x = new MovingHeap();
        for (Step step : steps) {
            step.call().on(x, step.arguments());
        }
        return x;
    }

    Model model() {
        Model m = new Model();
        for (Step step : steps) {
            step.call().on(m, step.arguments());
        }
        return m;
    }

    /** The call answers what is due and changes nothing: refused calls, and those that only ask. */
    void unchanged(long due, Call call, int... arguments) {
        String text = text(call, arguments);
        for (int part = 0; part < Look.PARTS; part++) {
            MovingHeap x = heap();
            Due.is(text, call.on(x, arguments), due);
            noDifference(text, Look.at(x, part).difference(untouched(part)));
        }
    }

    /** The call answers what is due, and the object that it was made on is handed on. */
    MovingHeap after(long due, Call call, int... arguments) {
        MovingHeap x = heap();
        Due.is(text(call, arguments), call.on(x, arguments), due);
        return x;
    }

    /** The call answers and does what it answers and does in the model. */
    void asModelled(Call call, int... arguments) {
        String text = text(call, arguments);
        for (int part = 0; part < Look.PARTS_OF_THE_MODEL; part++) {
            Model m = model();
            MovingHeap x = after(call.on(m, arguments), call, arguments);
            noDifference(text, Look.at(x, part).difference(Look.at(m, part)));
        }
    }

    private String text(Call call, int... arguments) {
        return name + ", " + call.text(arguments);
    }

    private static void noDifference(String text, String difference) {
        Due.holds(text + " leaves what it should (" + difference + ")", difference.isEmpty());
    }

    private Look untouched(int part) {
        if (untouched[part] == null) {
            untouched[part] = Look.at(heap(), part);
        }
        return untouched[part];
    }
}
