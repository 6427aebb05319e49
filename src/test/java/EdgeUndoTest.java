/** Section 5 and promise 16: which calls are kept, how many, and what undo brings back. */
public final class EdgeUndoTest {
    private static final Check.Call[] KEPT = {
        k -> k.cast(2), k -> k.work(false), k -> k.work(true), k -> k.over(), k -> k.together(2, false),
        k -> k.together(3, true), k -> k.slip(), k -> k.cross(1, 2), k -> k.turn(), k -> k.bind(1), k -> k.drop(),
        k -> k.latch(0), k -> k.follow(0), k -> k.follow(1)
    };
    private static final String[] KEPT_NAMES = {
        "cast", "knit", "purl", "over", "two together", "three together", "slip", "cross", "turn", "bind", "drop",
        "latch", "follow", "follow of no step"
    };
    private static final Check.Call[] NOT_KEPT = {
        k -> k.buy(7), k -> k.join(1), k -> k.pattern(3), k -> k.on(true, 0), k -> k.ofLoop(0, 5), k -> k.ofRun(0, 3),
        k -> k.seen(false), k -> k.width(false), k -> k.many(15), k -> k.left(0), k -> k.ofPattern(0, 4),
        k -> k.would(0), k -> k.needs(0), k -> k.best(), k -> k.digest()
    };
    private static final String[] NOT_KEPT_NAMES = {
        "buy", "join", "pattern", "on", "ofLoop", "ofRun", "seen", "width", "many", "left", "ofPattern", "would",
        "needs", "best", "digest"
    };

    private EdgeUndoTest() {
    }

    /** RUN 0 is OPEN, 5 LOOPS are on LEFT and 3 on RIGHT; PATTERN 1 can do no step. So far 4 calls are kept. */
    private static Knitstead busy() {
        Knitstead x = Work.withRuns(1, 5);
        x.cast(3);
        x.buy(500);
        x.pattern(192);
        x.pattern(3);
        x.pattern(8888);
        return x;
    }

    /** The same, where PATTERN 1 can do no step, as 24 LOOPS are on the needles. */
    private static Knitstead busyAndFull() {
        Knitstead x = busy();
        x.cast(16);
        return x;
    }

    /** "the latest call that was done of cast() .. follow() (as a whole, also if it did no step), with all .." */
    private static void eachCall() {
        Edge.answers("what the beginning keeps", 4, EdgeUndoTest::busy, k -> k.many(15));
        Edge.answers("a follow of no step", 0, EdgeUndoTest::busyAndFull, k -> k.follow(1));
        for (int i = 0; i < KEPT.length; i++) {
            boolean isFull = KEPT_NAMES[i].equals("follow of no step");
            Edge.Begin begin = isFull ? EdgeUndoTest::busyAndFull : EdgeUndoTest::busy;
            int kept = isFull ? 5 : 4;
            Check.Call call = KEPT[i];
            Edge.after(KEPT_NAMES[i] + " is kept", kept + 1, begin, call, k -> k.many(15));
            Edge.after("undo of " + KEPT_NAMES[i], kept, begin, call, k -> k.undo());
            Edge.changesNothing(KEPT_NAMES[i] + " and undo", kept, begin, Edge.both(call, k -> k.undo()));
        }
        for (int i = 0; i < NOT_KEPT.length; i++) {
            Edge.after(NOT_KEPT_NAMES[i] + " is not kept", 4, EdgeUndoTest::busy, NOT_KEPT[i], k -> k.many(15));
        }
    }

    private static Knitstead withCasts(int times) {
        Knitstead x = Work.withYarn(9999);
        for (int i = 0; i < times; i++) {
            x.cast(1);
        }
        return x;
    }

    private static Knitstead undoneTimes(Knitstead x, int times) {
        for (int i = 0; i < times; i++) {
            x.undo();
        }
        return x;
    }

    /** "at most the latest 12 of these are kept, and one that is not kept any more can never be undone" */
    private static void howMany() {
        for (int times = 0; times <= 24; times++) {
            int casts = times;
            int kept = Math.min(12, times);
            Edge.answers("kept of " + times, kept, () -> withCasts(casts), k -> k.many(15));
            for (int undone = 0; undone < kept; undone++) {
                int u = undone;
                Edge.answers("more of " + times, kept - u - 1, () -> undoneTimes(withCasts(casts), u), k -> k.undo());
                Edge.answers("loops then", casts - u, () -> undoneTimes(withCasts(casts), u), k -> k.many(4));
            }
            Edge.state("nothing of " + times, () -> undoneTimes(withCasts(casts), kept), k -> k.undo());
            Edge.answers("loops that stay of " + times, casts - kept, () -> undoneTimes(withCasts(casts), kept),
                k -> k.many(4));
        }
    }

    /** Some calls, some undone, and more of them: the kept ones are still the latest, and none comes back. */
    private static void onAndOff() {
        for (int undone = 0; undone <= 12; undone++) {
            for (int more = 0; more <= 14; more++) {
                int u = undone;
                int m = more;
                int kept = Math.min(12, 12 - u + m);
                Edge.Begin begin = () -> onAndOff(u, m);
                String what = "15 calls, " + u + " undone, " + m + " more";
                Edge.answers(what, kept, begin, k -> k.many(15));
                Edge.answers(what + ", all undone", 15 - u + m - kept, begin, k -> undoneTimes(k, kept).many(6));
                Edge.after(what + ", no more", IllegalStateException.class, begin, k -> undoneTimes(k, kept),
                    k -> k.undo());
            }
        }
    }

    /** Each call is a TURN, so that the ROW tells how many of them stand; one CAST ahead, long not kept. */
    private static Knitstead onAndOff(int undone, int more) {
        Knitstead x = withCasts(1);
        turn(x, 15);
        undoneTimes(x, undone);
        turn(x, more);
        return x;
    }

    private static void turn(Knitstead x, int times) {
        for (int i = 0; i < times; i++) {
            x.turn();
        }
    }

    /** Promise 16: "Throws IllegalStateException if there is nothing". */
    private static void nothing() {
        Edge.state("new", Knitstead::new, k -> k.undo());
        Edge.state("balls alone", () -> Work.withYarn(5), k -> k.undo());
        Edge.state("patterns alone", EdgeUndoTest::patternsAlone, k -> k.undo());
        Edge.state("refused calls alone", EdgeUndoTest::refusedAlone, k -> k.undo());
        Edge.answers("one call", 0, () -> Work.withRight(1), k -> k.undo());
        Edge.after("one call, undone", IllegalStateException.class, () -> Work.withRight(1), k -> k.undo(), k -> k.undo());
    }

    private static Knitstead patternsAlone() {
        Knitstead x = new Knitstead();
        x.pattern(1);
        return x;
    }

    private static Knitstead refusedAlone() {
        Knitstead x = Work.withYarn(1);
        for (Check.Call call : KEPT) {
            Check.isRefused(x, call);
        }
        return x;
    }

    /** "numbers of LOOPS and RUNS and the yarn of its BALL, too" */
    private static void numbersAndYarn() {
        Edge.index("a loop that was undone", () -> undoneTimes(Work.withRight(3), 1), k -> k.ofLoop(0, 0));
        Edge.index("a run that was undone", () -> undoneTimes(Work.withRuns(1, 1), 1), k -> k.ofRun(0, 0));
        Edge.index("a latch of an undone run", () -> undoneTimes(Work.withRuns(1, 1), 1), k -> k.latch(0));
        Edge.after("the numbers go on from there", 1, () -> Work.withLeft(1), k -> k.work(false) + k.undo(),
            k -> k.over());
        Edge.after("the facts are the new one's", "3 0 1 1 0 1", () -> Work.withLeft(1),
            k -> k.work(false) + k.undo() + k.over(), k -> Work.loop(k, 1));
        Edge.after("runs go on from there", "0 1 0 1", () -> Work.withRuns(1, 1),
            k -> k.undo() + k.slip() + k.drop(), k -> Work.run(k, 0));
        Edge.after("the yarn of its ball, not of the joined one", "9999 50", Knitstead::new,
            EdgeUndoTest::castOfOneUndoneWithAnother, k -> k.left(0) + " " + k.left(1));
        Edge.after("the joined one stays", 1, Knitstead::new,
            EdgeUndoTest::castOfOneUndoneWithAnother, k -> k.many(2));
        Edge.after("yarn, as two balls were used", "9995 40", () -> Work.withBoth(2, 0, 50), k -> usesBoth(k, 2),
            k -> k.left(0) + " " + k.left(1));
        Edge.after("a used up ball has yarn again", 4, Work::withNoYarn, k -> k.undo(), k -> k.left(0));
    }

    private static int castOfOneUndoneWithAnother(Knitstead x) {
        x.buy(9999);
        x.join(0);
        x.cast(5);
        x.buy(50);
        x.join(1);
        return x.undo();
    }

    /** Five CAST ones of BALL 1, then two of BALL 0 and two of BALL 1 again; so many calls are undone. */
    private static int usesBoth(Knitstead x, int undone) {
        x.cast(5);
        x.join(0);
        x.cast(2);
        x.join(1);
        x.cast(2);
        return undoneTimes(x, undone).many(15);
    }

    /** "What buy(), join() and pattern() did stays." */
    private static void whatStays() {
        Edge.Begin begin = () -> {
            Knitstead x = Work.withRight(1);
            x.buy(70);
            x.join(1);
            x.pattern(12);
            x.undo();
            return x;
        };
        Edge.answers("balls", 2, begin, k -> k.many(0));
        Edge.answers("a ball's yarn", 70, begin, k -> k.left(1));
        Edge.answers("the joined one", 1, begin, k -> k.many(2));
        Edge.answers("patterns", 1, begin, k -> k.many(14));
        Edge.answers("a pattern", "12 2 2 2 8", begin, k -> Work.facts(k, 0));
        Edge.state("nothing more", begin, k -> k.undo());
    }

    public static void main(String[] args) {
        eachCall();
        howMany();
        onAndOff();
        nothing();
        numbersAndYarn();
        whatStays();
        Check.end();
    }
}
