/** States in which boundary cases are looked at. */
final class States {
    static final int LEAST = Integer.MIN_VALUE;
    static final int GREATEST = Integer.MAX_VALUE;

    private States() {
    }

    static Past empty() {
        return new Past("empty");
    }

    /** Time 100000 without any point at any time. */
    static Past emptyAtTheEnd() {
        return new Past("empty at the end").then(Call.PASS, 100000);
    }

    /** Two points at times 3 to 5, none at time 6. */
    static Past emptied() {
        return new Past("emptied").then(Call.PASS, 3).then(Call.INSERT, 5, 1)
            .then(Call.INSERT, 2, 0).then(Call.PASS, 5).then(Call.REMOVE, 0)
            .then(Call.REMOVE, 1).then(Call.PASS, 6);
    }

    /** Point 0 at 10 + 2t, at time 4. */
    static Past one() {
        return new Past("one point").then(Call.INSERT, 10, 2).then(Call.PASS, 4);
    }

    /** Points 0, 1, 2, 3 in motion at time 7, number 1 given twice, and stops before and after. */
    static Past busy() {
        return new Past("busy").then(Call.INSERT, 0, 3).then(Call.INSERT, 10, 0)
            .then(Call.INSERT, 20, -2).then(Call.PASS, 2).then(Call.INSERT, 15, -1)
            .then(Call.REMOVE, 1).then(Call.PASS, 5).then(Call.INSERT, 12, 1)
            .then(Call.SET_VELOCITY, 0, 1).then(Call.JUMP, 2, 9).then(Call.PASS, 7);
    }

    /** As many points at rest, point p at place p with the value 10 * p, at time 0. */
    static Past atRest(int points) {
        Past past = new Past(points + " points at rest");
        for (int p = 0; p < points; p++) {
            past.then(Call.INSERT, 10 * p, 0);
        }
        return past;
    }

    /** 24 points, all at different velocities, at time 8. */
    static Past fullInMotion() {
        Past past = new Past("full in motion");
        for (int p = 0; p < 12; p++) {
            past.then(Call.INSERT, 7 * p, 11 - p);
        }
        past.then(Call.PASS, 3);
        for (int p = 12; p < 24; p++) {
            past.then(Call.INSERT, 60 - p, p - 18);
        }
        return past.then(Call.PASS, 8);
    }

    /** As many operations, three points, and point 0 jumped at all times from 1 to 9. */
    static Past operations(int operations) {
        Past past = new Past(operations + " operations");
        past.then(Call.INSERT, 0, 1).then(Call.INSERT, 100, -1).then(Call.INSERT, 40, 0);
        for (int i = 3; i < operations; i++) {
            if (i % 20 == 0) {
                past.then(Call.PASS, i / 20);
            }
            past.then(Call.JUMP, 0, i % 50);
        }
        return past;
    }

    /** 24 points and 200 operations. */
    static Past fullAndSpent() {
        Past past = new Past("24 points and 200 operations");
        for (int p = 0; p < 24; p++) {
            past.then(Call.INSERT, 10 * p, p % 3);
        }
        for (int i = 24; i < 200; i++) {
            past.then(Call.JUMP, i % 24, i);
        }
        return past;
    }

    /**
     * Point 0 from time 5 on and point 1 from 10 on, forgotten at 10; then point 0 slower from 15
     * on, at time 20.
     */
    static Past forgotten() {
        return new Past("forgotten").then(Call.PASS, 5).then(Call.INSERT, 100, 0)
            .then(Call.PASS, 10).then(Call.INSERT, 50, 1).then(Call.FORGET)
            .then(Call.PASS, 15).then(Call.SET_VELOCITY, 0, -2).then(Call.PASS, 20);
    }

    /** No point was ever there, forgotten at 5, at time 8. */
    static Past forgottenEmpty() {
        return new Past("forgotten empty").then(Call.PASS, 5).then(Call.FORGET)
            .then(Call.PASS, 8);
    }

    /** Forgotten at 3, and again at 6; point 0 at 10 + 2t, at time 8. */
    static Past forgottenTwice() {
        return new Past("forgotten twice").then(Call.INSERT, 10, 2).then(Call.PASS, 3)
            .then(Call.FORGET).then(Call.PASS, 6).then(Call.JUMP, 0, 22).then(Call.FORGET)
            .then(Call.PASS, 8);
    }

    /** Two points that never meet, at the last time. */
    static Past last() {
        return new Past("the last time").then(Call.PASS, 99990).then(Call.INSERT, 50, 3)
            .then(Call.INSERT, 40, 2).then(Call.PASS, 100000);
    }

    /** Point 0 at t and point 1 at rest at 600, which exchange at 601, at time 1000. */
    static Past thousand() {
        return new Past("time 1000").then(Call.INSERT, 0, 1).then(Call.INSERT, 600, 0)
            .then(Call.PASS, 1000);
    }

    static Past[] all() {
        return new Past[] {
            empty(), emptyAtTheEnd(), emptied(), one(), busy(), atRest(23), atRest(24),
            fullInMotion(), operations(199), operations(200), fullAndSpent(), forgotten(),
            forgottenEmpty(), forgottenTwice(), last(), thousand()
        };
    }
}
