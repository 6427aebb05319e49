/** Beginnings and readings that several tests share. */
final class Work {
    private Work() {
    }

    /** One BALL of so much, JOINED. */
    static Knitstead withYarn(int length) {
        Knitstead x = new Knitstead();
        x.buy(length);
        x.join(0);
        return x;
    }

    /** So many BALLS of 9999, none JOINED. */
    static Knitstead withBalls(int many) {
        Knitstead x = new Knitstead();
        for (int i = 0; i < many; i++) {
            x.buy(9999);
        }
        return x;
    }

    /** So many CAST LOOPS on LEFT: the one next to its tip is many - 1; the ROW is 1. */
    static Knitstead withLeft(int many) {
        return withLeft(many, 9999);
    }

    static Knitstead withLeft(int many, int length) {
        Knitstead x = withYarn(length);
        x.cast(many);
        x.turn();
        return x;
    }

    /** So many CAST LOOPS on RIGHT, none on LEFT; the ROW is 0. */
    static Knitstead withRight(int many) {
        Knitstead x = withYarn(9999);
        x.cast(many);
        return x;
    }

    /** So many CAST LOOPS on LEFT, and behind them so many on RIGHT. */
    static Knitstead withBoth(int left, int right) {
        Knitstead x = withYarn(9999);
        if (left > 0) {
            x.cast(left);
            x.turn();
        }
        if (right > 0) {
            x.cast(right);
        }
        return x;
    }

    /** The same, and BALL 1 of so much is JOINED. */
    static Knitstead withBoth(int left, int right, int yarn) {
        Knitstead x = withBoth(left, right);
        x.buy(yarn);
        x.join(1);
        return x;
    }

    /** Two CAST LOOPS on each needle, and nothing left of the only BALL. */
    static Knitstead withNoYarn() {
        Knitstead x = withLeft(2, 8);
        x.cast(2);
        return x;
    }

    /** So many OPEN RUNS, and so many CAST LOOPS on LEFT. */
    static Knitstead withRuns(int runs, int left) {
        Knitstead x = withLeft(runs + left);
        for (int run = 0; run < runs; run++) {
            x.drop();
        }
        return x;
    }

    /** So many CAST LOOPS on LEFT, and PATTERN 0 told. */
    static Knitstead withPattern(int left, int steps) {
        Knitstead x = withLeft(left);
        x.pattern(steps);
        return x;
    }

    /** So many LOOPS on LEFT, each KNITTED so many times. */
    static Knitstead tower(int many, int times) {
        Knitstead x = withLeft(many);
        for (int row = 0; row < times; row++) {
            for (int i = 0; i < many; i++) {
                x.work(false);
            }
            x.turn();
        }
        return x;
    }

    /** The LOOPS of a needle from its tip on. */
    static String row(Knitstead x, boolean isRight) {
        StringBuilder text = new StringBuilder();
        for (int place = 0; place < 24 && x.on(isRight, place) != -1; place++) {
            text.append(place == 0 ? "" : " ").append(x.on(isRight, place));
        }
        return text.toString();
    }

    static String rows(Knitstead x) {
        return row(x, false) + " | " + row(x, true);
    }

    static String loop(Knitstead x, int loop) {
        StringBuilder text = new StringBuilder();
        for (int what = 0; what <= 5; what++) {
            text.append(what == 0 ? "" : " ").append(x.ofLoop(loop, what));
        }
        return text.toString();
    }

    static String run(Knitstead x, int run) {
        return x.ofRun(run, 0) + " " + x.ofRun(run, 1) + " " + x.ofRun(run, 2) + " " + x.ofRun(run, 3);
    }

    static String facts(Knitstead x, int pattern) {
        StringBuilder text = new StringBuilder();
        for (int what = 0; what <= 4; what++) {
            text.append(what == 0 ? "" : " ").append(x.ofPattern(pattern, what));
        }
        return text.toString();
    }

    /** How many LOOPS there are on LEFT and on RIGHT. */
    static String counts(Knitstead x) {
        return x.many(3) + " " + x.many(4);
    }
}
