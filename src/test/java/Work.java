/** Beginnings that several tests share. */
final class Work {
    private Work() {
    }

    /** One BALL of so much, JOINED. */
    static Knitstead withYarn(int length) {
        Knitstead x = new Knitstead();
        x.buy(length);
        x.join(0);
        return x;
    }

    /** So many CAST LOOPS on LEFT: the one next to its tip is many - 1; the ROW is 1. */
    static Knitstead withLeft(int many) {
        return withLeft(many, 9999);
    }

    static Knitstead withLeft(int many, int length) {
        Knitstead x = withYarn(length);
        x.cast(many);
        x.turn();
        return x;
    }

    /** The LOOPS of a needle from its tip on. */
    static String row(Knitstead x, boolean isRight) {
        StringBuilder text = new StringBuilder();
        for (int place = 0; place < 24 && x.on(isRight, place) != -1; place++) {
            text.append(place == 0 ? "" : " ").append(x.on(isRight, place));
        }
        return text.toString();
    }

    static String rows(Knitstead x) {
        return row(x, false) + " | " + row(x, true);
    }

    static String loop(Knitstead x, int loop) {
        StringBuilder text = new StringBuilder();
        for (int what = 0; what <= 5; what++) {
            text.append(what == 0 ? "" : " ").append(x.ofLoop(loop, what));
        }
        return text.toString();
    }

    static String run(Knitstead x, int run) {
        return x.ofRun(run, 0) + " " + x.ofRun(run, 1) + " " + x.ofRun(run, 2) + " " + x.ofRun(run, 3);
    }

    static String facts(Knitstead x, int pattern) {
        StringBuilder text = new StringBuilder();
        for (int what = 0; what <= 4; what++) {
            text.append(what == 0 ? "" : " ").append(x.ofPattern(pattern, what));
        }
        return text.toString();
    }
}
