/** What promises 17 to 28 name: what each question answers at its bounds, and what it refuses. */
public final class EdgeAskedTest {
    private static final int LEAST = Integer.MIN_VALUE;
    private static final int GREATEST = Integer.MAX_VALUE;

    private EdgeAskedTest() {
    }

    /** 17: "NONE, if there is none", "if place is not 0 to 23". */
    private static void on() {
        for (boolean isRight : new boolean[] {false, true}) {
            for (int place : new int[] {-1, 24, 25, LEAST, GREATEST}) {
                Edge.index("place is not 0 to 23, new: " + place, Knitstead::new, k -> k.on(isRight, place));
                Edge.index("place is not 0 to 23: " + place, () -> full(isRight), k -> k.on(isRight, place));
            }
            for (int place = 0; place <= 23; place++) {
                int p = place;
                Edge.answers("no loop at " + p, -1, Knitstead::new, k -> k.on(isRight, p));
                Edge.answers("of 24, at " + p, 23 - p, () -> full(isRight), k -> k.on(isRight, p));
                Edge.answers("of the other's 24, at " + p, -1, () -> full(!isRight), k -> k.on(isRight, p));
                Edge.answers("of 5, at " + p, p < 5 ? 4 - p : -1, () -> some(isRight, 5), k -> k.on(isRight, p));
            }
        }
    }

    private static Knitstead full(boolean isRight) {
        return some(isRight, 24);
    }

    private static Knitstead some(boolean isRight, int many) {
        return isRight ? Work.withRight(many) : Work.withLeft(many);
    }

    /** 18: a LOOP of each place: 0 and 1 on LEFT, 2 bound off, 3 of an OPEN RUN, 4 in the work, 5 and 6 on RIGHT. */
    private static Knitstead eachPlace() {
        Knitstead x = Work.withLeft(5);
        x.work(true);
        x.drop();
        x.slip();
        x.over();
        x.bind(1);
        return x;
    }

    private static void ofLoop() {
        for (int loop : new int[] {-1, 7, 8, LEAST, GREATEST}) {
            Edge.index("no such loop: " + loop, EdgeAskedTest::eachPlace, k -> k.ofLoop(loop, 5));
            Edge.index("what is wrong, too: " + loop, EdgeAskedTest::eachPlace, k -> k.ofLoop(loop, 6));
            Edge.index("what is wrong, too, below: " + loop, EdgeAskedTest::eachPlace, k -> k.ofLoop(loop, -1));
        }
        for (int what : new int[] {-1, 6, LEAST, GREATEST}) {
            Edge.argument("what is not 0 to 5: " + what, EdgeAskedTest::eachPlace, k -> k.ofLoop(0, what));
            Edge.argument("what is not 0 to 5, the last: " + what, EdgeAskedTest::eachPlace, k -> k.ofLoop(6, what));
        }
        Edge.answers("how many there are", 7, EdgeAskedTest::eachPlace, k -> k.many(7));
        Edge.answers("in the work", "0 0 0 1 0 2", EdgeAskedTest::eachPlace, k -> Work.loop(k, 4));
        Edge.answers("of a run", "0 0 0 1 0 4", EdgeAskedTest::eachPlace, k -> Work.loop(k, 3));
        Edge.answers("bound off", "0 0 0 1 0 3", EdgeAskedTest::eachPlace, k -> Work.loop(k, 2));
        Edge.answers("on left", "0 0 0 1 0 0", EdgeAskedTest::eachPlace, k -> Work.loop(k, 1));
        Edge.answers("a purl on right", "2 0 1 2 1 1", EdgeAskedTest::eachPlace, k -> Work.loop(k, 5));
        Edge.answers("an over on right", "3 0 1 1 0 1", EdgeAskedTest::eachPlace, k -> Work.loop(k, 6));
        Edge.after("on right by a turn", 1, EdgeAskedTest::eachPlace, k -> k.turn(), k -> k.ofLoop(0, 5));
        Edge.after("on left by a turn", 0, EdgeAskedTest::eachPlace, k -> k.turn(), k -> k.ofLoop(5, 5));
        Edge.after("on left by a latch", 0, EdgeAskedTest::eachPlace, k -> k.latch(0), k -> k.ofLoop(3, 5));
        Edge.after("in the work, once latched", 2, EdgeAskedTest::eachPlace, k -> k.latch(0) + k.work(false),
            k -> k.ofLoop(3, 5));
        Edge.after("bound off, once in a run", 3, () -> Work.withRuns(1, 0), k -> k.latch(0) + k.slip() + k.bind(1),
            k -> k.ofLoop(0, 5));
        Edge.after("the last one, bound off", 3, () -> Work.withRight(3), k -> k.bind(3), k -> k.ofLoop(2, 5));
    }

    /** 19. */
    private static void ofRun() {
        for (int runs : new int[] {1, 8, 9}) {
            for (int run : new int[] {runs, -1, 9, LEAST, GREATEST}) {
                Edge.index("no such run: " + run + " of " + runs, () -> Work.withRuns(runs, 1), k -> k.ofRun(run, 0));
                Edge.index("what is wrong, too: " + run, () -> Work.withRuns(runs, 1), k -> k.ofRun(run, 4));
                Edge.index("what is wrong, too, below: " + run, () -> Work.withRuns(runs, 1), k -> k.ofRun(run, -1));
            }
            for (int what : new int[] {-1, 4, LEAST, GREATEST}) {
                Edge.argument("what is not 0 to 3: " + what, () -> Work.withRuns(runs, 1), k -> k.ofRun(0, what));
                Edge.argument("of the last: " + what, () -> Work.withRuns(runs, 1), k -> k.ofRun(runs - 1, what));
            }
            Edge.answers("the last of " + runs, "1 1 0 1", () -> Work.withRuns(runs, 1), k -> Work.run(k, runs - 1));
            Edge.after("latched", "1 1 0 0", () -> Work.withRuns(runs, 1), k -> k.latch(runs - 1),
                k -> Work.run(k, runs - 1));
            Edge.after("an undone one's latch", "1 1 0 1", () -> Work.withRuns(runs, 1),
                k -> k.latch(runs - 1) + k.undo(), k -> Work.run(k, runs - 1));
        }
    }

    /** One LOOP on RIGHT, made as it is told; seen from its own SIDE, from the other one, and from its own again. */
    private static void sign(String what, String own, String other, int left, Check.Call call) {
        Check.Call turned = Edge.both(call, k -> k.turn());
        Check.Call twice = Edge.both(turned, k -> k.turn());
        Edge.after(what + " from its side", own, () -> Work.withLeft(left), call, k -> k.seen(true));
        Edge.after(what + " from the other", other, () -> Work.withLeft(left), turned, k -> k.seen(false));
        Edge.after(what + " from its side again", own, () -> Work.withLeft(left), twice, k -> k.seen(true));
    }

    /** 20. */
    private static void seen() {
        Edge.answers("empty needles", "/", Knitstead::new, k -> k.seen(false) + "/" + k.seen(true));
        Edge.answers("24 on right", "-".repeat(24) + "/", () -> full(true), k -> k.seen(true) + "/" + k.seen(false));
        Edge.answers("24 on left", "v".repeat(24) + "/", () -> full(false), k -> k.seen(false) + "/" + k.seen(true));
        sign("a cast one", "-", "v", 1, k -> k.drop() + k.cast(1));
        sign("a knit", "v", "-", 1, k -> k.work(false));
        sign("a purl", "-", "v", 1, k -> k.work(true));
        sign("an over", "o", "o", 1, k -> k.drop() + k.over());
        sign("two to the left", "<", ">", 2, k -> k.together(2, false));
        sign("two to the right", ">", "<", 2, k -> k.together(2, true));
        sign("three to the left", "<", ">", 3, k -> k.together(3, false));
        sign("three to the right", ">", "<", 3, k -> k.together(3, true));
        Edge.after("from the tip on", "-v", () -> Work.withLeft(2), k -> k.work(false) + k.work(true), k -> k.seen(true));
        Edge.after("a slipped one is as it was", "v", () -> Work.withLeft(1), k -> k.slip(), k -> k.seen(true));
        Edge.after("a latched one is as it was", "v", () -> Work.withLeft(1), k -> k.drop() + k.latch(0),
            k -> k.seen(false));
    }

    /** 21: "0.5f times n, less 0.125f for each two beside each other of which .. one is smooth and one a bump" */
    private static void width() {
        for (int n = 0; n <= 24; n++) {
            int many = n;
            if (n > 0) {
                Edge.answers(n + " alike", 0.5 * n, () -> Work.withRight(many), k -> k.width(true));
                Edge.answers(n + " alike from the other side", 0.5 * n, () -> Work.withLeft(many), k -> k.width(false));
                Edge.after(n + " by turns", 0.5 * n - 0.125 * (n - 1), () -> Work.withPattern(many, 12),
                    k -> k.follow(0), k -> k.width(true));
                Edge.after(n + " by turns from the other side", 0.5 * n - 0.125 * (n - 1),
                    () -> Work.withPattern(many, 12), k -> k.follow(0) + k.turn(), k -> k.width(false));
            }
            Edge.answers("the empty one beside " + n, 0.0, () -> Work.withBoth(many, 0), k -> k.width(true));
        }
        Edge.answers("empty needles", 0.0, Knitstead::new, k -> k.width(false) + k.width(true));
        Edge.answers("two needles' tips are not beside each other", "0.5 0.5", () -> Work.withBoth(1, 1),
            k -> k.width(false) + " " + k.width(true));
        beside("a knit and a cast one", 0.875, k -> k.work(false) + k.cast(1));
        beside("a purl and a cast one", 1.0, k -> k.work(true) + k.cast(1));
        beside("a knit and an over", 1.0, k -> k.work(false) + k.over());
        beside("a purl and an over", 0.875, k -> k.work(true) + k.over());
        beside("a knit and one that leans", 1.0, k -> k.work(false) + k.together(2, true));
        beside("a purl and one that leans", 0.875, k -> k.work(true) + k.together(2, false));
        beside("two that lean", 1.0, k -> k.together(2, true) + k.together(2, false));
        beside("a cast one from behind and a knit", 1.0, k -> k.slip() + k.work(false));
        beside("a cast one from behind and a purl", 0.875, k -> k.slip() + k.work(true));
    }

    /** Two LOOPS on RIGHT; the WIDTH is the same from both SIDES. */
    private static void beside(String what, double due, Check.Call call) {
        Edge.after(what, due, () -> Work.withLeft(4), call, k -> k.width(true));
        Edge.after(what + " from the other side", due, () -> Work.withLeft(4), Edge.both(call, k -> k.turn()),
            k -> k.width(false));
    }

    /** 22. */
    private static void many() {
        for (int what : new int[] {-1, 16, 17, LEAST, GREATEST}) {
            Edge.argument("what is not 0 to 15, new: " + what, Knitstead::new, k -> k.many(what));
            Edge.argument("what is not 0 to 15: " + what, EdgeAskedTest::eachPlace, k -> k.many(what));
        }
        int[] due = {1, 9982, 0, 2, 2, 1, 1, 7, 1, 0, 0, 1, 1, 1, 0, 7};
        for (int what = 0; what <= 15; what++) {
            int w = what;
            Edge.answers("many(" + w + ")", due[w], EdgeAskedTest::eachPlace, k -> k.many(w));
            Edge.answers("most: many(" + w + ")", MOST[w], EdgeAskedTest::asMuchAsCanBe, k -> k.many(w));
        }
        Edge.after("bound off, the last, too", 24, () -> Work.withRight(24), k -> k.bind(24), k -> k.many(11));
        Edge.after("none open, but 9 runs", "9 8", () -> Work.withRuns(9, 0), k -> k.latch(3),
            k -> k.many(12) + " " + k.many(13));
    }

    private static final int[] MOST = {4, 39929, 0, 15, 9, 1, 1, 33, 1, 99, 0, 0, 9, 9, 6, 12};

    /** 4 BALLS, 24 LOOPS, 9 OPEN RUNS, 6 PATTERNS, and 12 calls kept (of 14). */
    private static Knitstead asMuchAsCanBe() {
        Knitstead x = Work.withBalls(4);
        x.join(3);
        x.cast(24);
        x.turn();
        for (int run = 0; run < 9; run++) {
            x.drop();
        }
        x.pattern(7);
        for (int step = 1; step <= 5; step++) {
            x.pattern(step * 111111111);
        }
        x.follow(0);
        x.join(0);
        x.cast(8);
        x.over();
        return x;
    }

    /** 23. */
    private static void left() {
        for (int balls = 0; balls <= 4; balls++) {
            int many = balls;
            for (int ball : new int[] {many, -1, 4, 5, LEAST, GREATEST}) {
                Edge.index("no such ball: " + ball + " of " + many, () -> Work.withBalls(many), k -> k.left(ball));
            }
            for (int ball = 0; ball < many; ball++) {
                int b = ball;
                Edge.answers("all of ball " + b, 9999, () -> Work.withBalls(many), k -> k.left(b));
                Edge.after("what is left of it", 9997, () -> Work.withBalls(many), k -> k.join(b) + k.cast(1),
                    k -> k.left(b));
            }
        }
        Edge.answers("nothing is left", 0, Work::withNoYarn, k -> k.left(0));
    }

    private static Knitstead withPatterns(int left, int... steps) {
        Knitstead x = Work.withLeft(left);
        for (int each : steps) {
            x.pattern(each);
        }
        return x;
    }

    /** 24. */
    private static void ofPattern() {
        Edge.Begin none = Knitstead::new;
        Edge.Begin six = EdgeAskedTest::asMuchAsCanBe;
        for (int pattern : new int[] {-1, 6, 7, LEAST, GREATEST}) {
            Edge.index("no such pattern of none: " + pattern, none, k -> k.ofPattern(pattern, 0));
            Edge.index("no such pattern of 6: " + pattern, six, k -> k.ofPattern(pattern, 0));
            Edge.index("what is wrong, too: " + pattern, six, k -> k.ofPattern(pattern, 5));
            Edge.index("what is wrong, too, below: " + pattern, six, k -> k.ofPattern(pattern, -1));
        }
        Edge.index("pattern 0 of none", none, k -> k.ofPattern(0, 0));
        Edge.index("pattern 1 of 1", () -> withPatterns(1, 5), k -> k.ofPattern(1, 0));
        for (int what : new int[] {-1, 5, LEAST, GREATEST}) {
            Edge.argument("what is not 0 to 4: " + what, six, k -> k.ofPattern(0, what));
            Edge.argument("what is not 0 to 4, the last: " + what, six, k -> k.ofPattern(5, what));
        }
        Edge.answers("it eats and makes none", "7 1 0 0 0", six, k -> Work.facts(k, 0));
        Edge.answers("the last of 6", "555555555 9 18 9 45", six, k -> Work.facts(k, 5));
        Edge.answers("it eats the most", "888888888 9 27 9 45", () -> withPatterns(1, 888888888), k -> Work.facts(k, 0));
        Edge.answers("it makes the most", "999999999 9 18 27 99", () -> withPatterns(1, 999999999), k -> Work.facts(k, 0));
        Edge.answers("it eats none", "333333333 9 0 9 27", () -> withPatterns(1, 333333333), k -> Work.facts(k, 0));
        Edge.answers("it takes no yarn", "67 2 1 1 0", () -> withPatterns(1, 67), k -> Work.facts(k, 0));
    }

    /** 25 and 26: as FOLLOWED then, with nothing changed; "as many as there are" and "0, if LEFT has no LOOP". */
    private static void tried(String what, int would, int needs, Edge.Begin begin) {
        Edge.changesNothing(what + ": would", would, begin, k -> k.would(0));
        Edge.changesNothing(what + ": needs", needs, begin, k -> k.needs(0));
        Edge.after(what + ": followed", would, begin, k -> k.many(3) > 0 ? k.follow(0) : 0, k -> k.many(3) + k.many(4));
    }

    private static void wouldAndNeeds() {
        for (int pattern : new int[] {-1, 6, 7, LEAST, GREATEST}) {
            Edge.index("no such pattern of none: " + pattern, Knitstead::new, k -> k.would(pattern));
            Edge.index("no such pattern of 6: " + pattern, EdgeAskedTest::asMuchAsCanBe, k -> k.would(pattern));
            Edge.index("no such pattern of none: " + pattern, Knitstead::new, k -> k.needs(pattern));
            Edge.index("no such pattern of 6: " + pattern, EdgeAskedTest::asMuchAsCanBe, k -> k.needs(pattern));
        }
        Edge.index("would: 1 of 1", () -> withPatterns(1, 5), k -> k.would(1));
        Edge.index("needs: 1 of 1", () -> withPatterns(1, 5), k -> k.needs(1));
        tried("bare needles", 0, 0, () -> bare(3));
        tried("left has none, right 23", 23, 0, () -> rightWith(23, 3));
        tried("left has none, right 24", 24, 0, () -> rightWith(24, 8));
        tried("left has one", 1, 4, () -> withPatterns(1, 1));
        tried("an over as the 24th", 24, 3, () -> withPatterns(23, 37));
        tried("an over as the 25th", 24, 0, () -> withPatterns(24, 37));
        tried("overs till 24", 24, 69, () -> withPatterns(1, 3));
        tried("three and three of 24", 8, 40, () -> withPatterns(24, 8));
        tried("three and three of 23", 9, 35, () -> withPatterns(23, 8));
        tried("99 steps, and left has no loop", 11, 55, () -> withPatterns(22, 777777775));
        tried("99 steps, and a 100th could be", 13, 55, () -> withPatterns(24, 777777775));
        tried("no step", 1, 0, () -> withPatterns(1, 4));
        tried("yarn of another ball is of no use", 3, 4, () -> withYarnOf(3, 7, 1));
        tried("just enough yarn", 3, 12, () -> withYarnOf(3, 12, 1));
        tried("1 too little", 3, 8, () -> withYarnOf(3, 11, 1));
        tried("just enough for a 9", 3, 11, () -> withYarnOf(2, 11, 9));
        tried("1 too little for a 9", 2, 0, () -> withYarnOf(2, 10, 9));
    }

    private static Knitstead bare(int steps) {
        Knitstead x = Work.withYarn(99);
        x.pattern(steps);
        return x;
    }

    private static Knitstead rightWith(int right, int steps) {
        Knitstead x = Work.withRight(right);
        x.pattern(steps);
        return x;
    }

    private static Knitstead withYarnOf(int left, int yarn, int steps) {
        Knitstead x = Work.withBoth(left, 0, yarn);
        x.pattern(steps);
        return x;
    }

    private static void best(String what, int due, Edge.Begin begin) {
        Edge.changesNothing(what + ": best", due, begin, k -> k.best());
    }

    /** 27. */
    private static void bests() {
        best("no pattern, new", -1, Knitstead::new);
        best("no pattern", -1, () -> Work.withLeft(3));
        best("left has no loop, new", -1, () -> bare(1));
        best("left has no loop, right some", -1, () -> rightWith(5, 1));
        best("one", 0, () -> withPatterns(3, 1));
        best("one, left has one loop", 0, () -> withPatterns(1, 1));
        best("one, left has 24 loops", 0, () -> withPatterns(24, 1));
        best("it does no step", -1, () -> withPatterns(1, 4));
        best("it ends with left not empty", -1, () -> withPatterns(3, 4));
        best("it ends in the middle", -1, () -> withPatterns(3, 12));
        best("it ends just behind its last step", 0, () -> withPatterns(4, 12));
        best("it ends ahead of its last step", -1, () -> withPatterns(2, 116));
        best("an over behind the last loop is not done", -1, () -> withPatterns(2, 13));
        best("the least yarn is the first", 0, () -> withPatterns(2, 4, 1, 11));
        best("the least yarn is the second", 1, () -> withPatterns(2, 1, 4, 11));
        best("the least yarn is the last of 6", 5, () -> withPatterns(2, 1, 11, 2, 22, 4, 6));
        best("of several the smallest number", 1, () -> withPatterns(2, 93, 1, 2, 11, 22, 12));
        best("of several with no yarn", 2, () -> withPatterns(2, 1, 4, 6, 66));
        best("the least that ends so, not the least", 1, () -> withPatterns(3, 4, 1, 666666));
        best("99 steps, and left has no loop", 0, () -> withPatterns(22, 777777775));
        best("99 steps, and a 100th could be", -1, () -> withPatterns(24, 777777775));
        best("99 steps of crosses", -1, () -> withPatterns(2, 7));
        best("24 loops, and no over", -1, () -> withPatterns(24, 3111));
        best("just enough yarn", 0, () -> withYarnOf(3, 12, 1));
        best("1 too little", -1, () -> withYarnOf(3, 11, 1));
        best("no yarn, and none needed", 0, () -> withYarnOf(3, 1, 6));
    }

    /** 28. */
    private static void digests() {
        Edge.changesNothing("of a new one", 468717170234643993L, Knitstead::new, k -> k.digest());
        for (Edge.Begin begin : new Edge.Begin[] {Knitstead::new, () -> Work.withBalls(4), () -> Work.withLeft(24),
            () -> Work.withRight(24), () -> Work.withBoth(12, 12), () -> Work.withRuns(9, 3), Work::withNoYarn,
            EdgeAskedTest::eachPlace, EdgeAskedTest::asMuchAsCanBe, () -> withPatterns(3, 1, 22, 333, 4444, 9, 6)}) {
            long due = Check.digestOf(begin.make());
            Edge.changesNothing("by its rule", due, begin, k -> k.digest());
            Edge.answers("asked twice", due, begin, Edge.both(k -> k.digest(), k -> k.digest()));
        }
    }

    public static void main(String[] args) {
        on();
        ofLoop();
        ofRun();
        seen();
        width();
        many();
        left();
        ofPattern();
        wouldAndNeeds();
        bests();
        digests();
        Check.end();
    }
}
