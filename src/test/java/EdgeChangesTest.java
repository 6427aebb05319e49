/** What promises 1 to 15 name: what each call returns at its bounds, what it refuses, and what comes first. */
public final class EdgeChangesTest {
    private static final int LEAST = Integer.MIN_VALUE;
    private static final int GREATEST = Integer.MAX_VALUE;

    private EdgeChangesTest() {
    }

    /** "Creates a pair of empty needles." */
    private static void newObject() {
        Edge.answers("the needles", " | ", Knitstead::new, Work::rows);
        Edge.answers("what one sees", "", Knitstead::new, k -> k.seen(false) + k.seen(true));
        for (int what = 0; what <= 15; what++) {
            int w = what;
            Edge.answers("new: many(" + w + ")", w == 2 ? -1 : 0, Knitstead::new, k -> k.many(w));
        }
        Edge.index("no ball", Knitstead::new, k -> k.left(0));
        Edge.index("no loop", Knitstead::new, k -> k.ofLoop(0, 0));
        Edge.index("no run", Knitstead::new, k -> k.ofRun(0, 0));
        Edge.index("no pattern", Knitstead::new, k -> k.ofPattern(0, 0));
    }

    private static void buy() {
        for (int length : new int[] {0, -1, 10000, LEAST, GREATEST}) {
            Edge.argument("length is not 1 to 9999: " + length, Knitstead::new, k -> k.buy(length));
            Edge.argument("with 4 balls, it comes first: " + length, () -> Work.withBalls(4), k -> k.buy(length));
        }
        for (int length : new int[] {1, 2, 9998, 9999}) {
            Edge.answers("a length of " + length, 0, Knitstead::new, k -> k.buy(length));
            Edge.after("what is left of " + length, length, Knitstead::new, k -> k.buy(length), k -> k.left(0));
            Edge.state("there are 4: " + length, () -> Work.withBalls(4), k -> k.buy(length));
        }
        Edge.answers("with 3 balls", 3, () -> Work.withBalls(3), k -> k.buy(1));
        Edge.after("it stays, as all is undone", 2, () -> Work.withRight(1), k -> k.buy(1) + k.undo(), k -> k.many(0));
        Edge.state("there are 4, one of them used up", EdgeChangesTest::fourWithOneUsedUp, k -> k.buy(1));
    }

    private static Knitstead fourWithOneUsedUp() {
        Knitstead x = Work.withNoYarn();
        x.buy(1);
        x.buy(2);
        x.buy(3);
        return x;
    }

    private static void join() {
        for (int n = 0; n <= 4; n++) {
            int balls = n;
            for (int ball : new int[] {balls, balls + 1, -1, 4, LEAST, GREATEST}) {
                Edge.index("no such ball: " + ball + " of " + balls, () -> Work.withBalls(balls), k -> k.join(ball));
            }
            for (int ball = 0; ball < balls; ball++) {
                int b = ball;
                Edge.answers("none before " + b, -1, () -> Work.withBalls(balls), k -> k.join(b));
                Edge.after("joined " + b, b, () -> Work.withBalls(balls), k -> k.join(b), k -> k.many(2));
                Edge.after("joined again " + b, b, () -> Work.withBalls(balls), k -> k.join(b), k -> k.join(b));
                Edge.after("the one before " + b, b, () -> Work.withBalls(balls), k -> k.join(b), k -> k.join(0));
            }
        }
        Edge.answers("one that is used up", 1, EdgeChangesTest::joinsUsedUp, k -> k.join(0));
        Edge.after("it stays, as all is undone", 1, () -> Work.withBoth(0, 3, 9), k -> k.undo(), k -> k.many(2));
    }

    private static Knitstead joinsUsedUp() {
        Knitstead x = fourWithOneUsedUp();
        x.join(1);
        return x;
    }

    private static void cast() {
        for (int many : new int[] {0, -1, 25, 26, LEAST, GREATEST}) {
            Edge.argument("many is not 1 to 24: " + many, () -> Work.withYarn(9999), k -> k.cast(many));
            Edge.argument("no ball, it comes first: " + many, Knitstead::new, k -> k.cast(many));
            Edge.argument("24 loops, it comes first: " + many, () -> Work.withRight(24), k -> k.cast(many));
            Edge.argument("little yarn, it comes first: " + many, () -> Work.withYarn(1), k -> k.cast(many));
        }
        for (int n = 1; n <= 24; n++) {
            int many = n;
            Edge.answers("cast(" + n + ") on bare needles", n, () -> Work.withYarn(2 * many), k -> k.cast(many));
            Edge.state("too little yarn for " + n, () -> Work.withYarn(2 * many - 1), k -> k.cast(many));
            Edge.state("no ball for " + n, Knitstead::new, k -> k.cast(many));
            Edge.state("none joined for " + n, () -> Work.withBalls(4), k -> k.cast(many));
            Edge.answers("on both " + n, 24, () -> Work.withBoth((24 - many) / 2, (25 - many) / 2), k -> k.cast(many));
            Edge.state("more than 24 by " + n, () -> Work.withBoth((25 - many) / 2, (26 - many) / 2), k -> k.cast(many));
        }
        Edge.state("another ball's yarn is of no use", () -> Work.withBoth(0, 0, 1), k -> k.cast(1));
    }

    private static void work() {
        for (boolean isPurl : new boolean[] {false, true}) {
            String sort = isPurl ? "purl" : "knit";
            Edge.state("left has no loop, new: " + sort, Knitstead::new, k -> k.work(isPurl));
            Edge.state("left has no loop: " + sort, () -> Work.withYarn(9), k -> k.work(isPurl));
            Edge.state("left has no loop, right 24: " + sort, () -> Work.withRight(24), k -> k.work(isPurl));
            Edge.state("too little yarn: " + sort, () -> Work.withLeft(2, 7), k -> k.work(isPurl));
            Edge.answers("just enough: " + sort, 2, () -> Work.withLeft(2, 8), k -> k.work(isPurl));
            Edge.answers("one loop: " + sort, 1, () -> Work.withLeft(1), k -> k.work(isPurl));
            Edge.answers("24 loops: " + sort, 24, () -> Work.withLeft(24), k -> k.work(isPurl));
            Edge.after("its facts: " + sort, (isPurl ? 2 : 1) + " 0 1 2 1 1", () -> Work.withLeft(1),
                k -> k.work(isPurl), k -> Work.loop(k, 1));
            Edge.after("the last of left, no more: " + sort, IllegalStateException.class, () -> Work.withLeft(1),
                k -> k.work(isPurl), k -> k.work(isPurl));
        }
    }

    private static void over() {
        Edge.state("no ball", Knitstead::new, k -> k.over());
        Edge.state("none joined", () -> Work.withBalls(4), k -> k.over());
        Edge.state("too little yarn", () -> Work.withYarn(2), k -> k.over());
        Edge.answers("just enough", 0, () -> Work.withYarn(3), k -> k.over());
        Edge.answers("23 loops", 23, () -> Work.withRight(23), k -> k.over());
        Edge.state("24 loops on right", () -> Work.withRight(24), k -> k.over());
        Edge.state("24 loops on left", () -> Work.withLeft(24), k -> k.over());
        Edge.state("24 loops on both", () -> Work.withBoth(12, 12), k -> k.over());
        Edge.after("its facts", "3 0 1 1 0 1", () -> Work.withLeft(1), k -> k.over(), k -> Work.loop(k, 1));
    }

    private static void together() {
        for (boolean isRight : new boolean[] {false, true}) {
            for (int many : new int[] {1, 4, 0, -2, -3, LEAST, GREATEST}) {
                Edge.argument("not 2 or 3: " + many, () -> Work.withLeft(9), k -> k.together(many, isRight));
                Edge.argument("no loop, it comes first: " + many, Knitstead::new, k -> k.together(many, isRight));
                Edge.argument("no yarn, it comes first: " + many, Work::withNoYarn, k -> k.together(many, isRight));
            }
            for (int many = 2; many <= 3; many++) {
                int m = many;
                for (int less = 0; less < m; less++) {
                    int left = less;
                    Edge.state("left has " + left + " of " + m, () -> Work.withBoth(left, 5), k -> k.together(m, isRight));
                }
                Edge.state("no ball for " + m, Knitstead::new, k -> k.together(m, isRight));
                Edge.answers("left has just " + m, m, () -> Work.withLeft(m), k -> k.together(m, isRight));
                Edge.after("nothing is on left then", "0 1", () -> Work.withLeft(m), k -> k.together(m, isRight),
                    Work::counts);
                Edge.answers("left has 24 for " + m, 24, () -> Work.withLeft(24), k -> k.together(m, isRight));
                Edge.answers("just enough for " + m, m, () -> Work.withLeft(m, 2 * m + 5), k -> k.together(m, isRight));
                Edge.state("too little for " + m, () -> Work.withLeft(m, 2 * m + 4), k -> k.together(m, isRight));
                Edge.after("its facts of " + m, (isRight ? 5 : 4) + " 0 1 1 " + m + " 1", () -> Work.withLeft(m),
                    k -> k.together(m, isRight), k -> Work.loop(k, m));
            }
        }
    }

    private static void slip() {
        Edge.state("left has no loop, new", Knitstead::new, k -> k.slip());
        Edge.state("left has no loop, right 1", () -> Work.withRight(1), k -> k.slip());
        Edge.state("left has no loop, right 24", () -> Work.withRight(24), k -> k.slip());
        Edge.answers("one loop", 0, () -> Work.withLeft(1), k -> k.slip());
        Edge.answers("24 loops", 23, () -> Work.withLeft(24), k -> k.slip());
        Edge.after("the last one, no more", IllegalStateException.class, () -> Work.withLeft(1), k -> k.slip(),
            k -> k.slip());
    }

    private static void cross() {
        for (int wrong : new int[] {0, 4, -1, LEAST, GREATEST}) {
            for (int other : new int[] {1, 3, wrong}) {
                Edge.argument("first is not 1 to 3: " + wrong, () -> Work.withLeft(9), k -> k.cross(wrong, other));
                Edge.argument("second is not 1 to 3: " + wrong, () -> Work.withLeft(9), k -> k.cross(other, wrong));
                Edge.argument("no loop, it comes first: " + wrong, Knitstead::new, k -> k.cross(wrong, other));
                Edge.argument("no loop, it comes first, too: " + wrong, Knitstead::new, k -> k.cross(other, wrong));
            }
        }
        for (int first = 1; first <= 3; first++) {
            for (int second = 1; second <= 3; second++) {
                crossed(first, second);
            }
        }
    }

    private static void crossed(int a, int b) {
        String what = a + " and " + b;
        for (int less = 0; less < a + b; less++) {
            int left = less;
            Edge.state(what + " of " + left, () -> Work.withBoth(left, 6), k -> k.cross(a, b));
        }
        Edge.answers(what + ", the next one then", b - 1, () -> Work.withLeft(a + b), k -> k.cross(a, b));
        Edge.answers(what + " of 24, the next one then", 23 - a, () -> Work.withLeft(24), k -> k.cross(a, b));
        StringBuilder due = new StringBuilder();
        for (int i = 0; i < b; i++) {
            due.append(9 - a - i).append(' ');
        }
        for (int i = 0; i < a; i++) {
            due.append(9 - i).append(' ');
        }
        for (int i = 9 - a - b; i >= 0; i--) {
            due.append(i).append(' ');
        }
        Edge.after(what + ", each in its order", due + "| ", () -> Work.withLeft(10), k -> k.cross(a, b), Work::rows);
    }

    private static void turn() {
        Edge.state("no loop, new", Knitstead::new, k -> k.turn());
        Edge.state("no loop, all bound off", () -> boundOff(), k -> k.turn());
        Edge.state("no loop, all dropped", () -> Work.withRuns(2, 0), k -> k.turn());
        Edge.answers("one on right", 1, () -> Work.withRight(1), k -> k.turn());
        Edge.answers("one on left", 0, () -> Work.withLeft(1), k -> k.turn());
        Edge.answers("24 on right", 24, () -> Work.withRight(24), k -> k.turn());
        Edge.answers("1 and 23", 23, () -> Work.withBoth(1, 23), k -> k.turn());
        Edge.answers("23 and 1", 1, () -> Work.withBoth(23, 1), k -> k.turn());
    }

    private static Knitstead boundOff() {
        Knitstead x = Work.withRight(3);
        x.bind(3);
        return x;
    }

    private static void bind() {
        for (int many : new int[] {0, -1, 25, LEAST, GREATEST}) {
            Edge.argument("many is not 1 to 24: " + many, () -> Work.withRight(24), k -> k.bind(many));
            Edge.argument("no loop, it comes first: " + many, Knitstead::new, k -> k.bind(many));
            Edge.argument("no yarn, it comes first: " + many, Work::withNoYarn, k -> k.bind(many));
        }
        for (int n = 1; n <= 24; n++) {
            int right = n;
            Edge.answers("all of " + n, 0, () -> Work.withRight(right), k -> k.bind(right));
            Edge.after("all of " + n + ", bound off", n, () -> Work.withRight(right), k -> k.bind(right), k -> k.many(11));
            Edge.answers("just enough yarn for all of " + n, 0, () -> castOf(2 * right + 6, right), k -> k.bind(right));
            Edge.state("too little yarn for all of " + n, () -> castOf(2 * right + 5, right), k -> k.bind(right));
            if (n < 24) {
                Edge.state("one more than " + n, () -> Work.withRight(right), k -> k.bind(right + 1));
                Edge.state("all of " + n + ", 1 on left", () -> Work.withBoth(1, right), k -> k.bind(right));
                Edge.state("24 of " + n, () -> Work.withRight(right), k -> k.bind(24));
            }
            if (n > 1) {
                Edge.answers("all but one of " + n, 1, () -> castOf(2 * right, right), k -> k.bind(right - 1));
                Edge.after("the tip stays of " + n, " | " + (n - 1), () -> Work.withRight(right), k -> k.bind(right - 1),
                    Work::rows);
            }
        }
        Edge.answers("all but one of 23, 1 on left", 2, () -> Work.withBoth(1, 23), k -> k.bind(22));
        Edge.state("nothing, new", Knitstead::new, k -> k.bind(1));
        Edge.state("nothing, all bound off", EdgeChangesTest::boundOff, k -> k.bind(1));
        Edge.state("nothing on right", () -> Work.withLeft(24), k -> k.bind(1));
        Edge.state("1 on each", () -> Work.withBoth(1, 1), k -> k.bind(1));
        Edge.answers("the last one, as a run is open", 0, () -> Work.withRuns(1, 1), k -> k.slip() + k.bind(1));
    }

    private static Knitstead castOf(int yarn, int many) {
        Knitstead x = Work.withYarn(yarn);
        x.cast(many);
        return x;
    }

    private static void drop() {
        Edge.state("left has no loop, new", Knitstead::new, k -> k.drop());
        Edge.state("left has no loop, right 24", () -> Work.withRight(24), k -> k.drop());
        Edge.state("left has no loop, 9 runs", () -> Work.withRuns(9, 0), k -> k.drop());
        Edge.state("there were 9", () -> Work.withRuns(9, 5), k -> k.drop());
        Edge.answers("there were 8", 8, () -> Work.withRuns(8, 5), k -> k.drop());
        Edge.answers("the only loop", 0, () -> Work.withLeft(1), k -> k.drop());
        Edge.after("no loop then", "0 0", () -> Work.withLeft(1), k -> k.drop(), Work::counts);
        Edge.after("where it is", 4, () -> Work.withLeft(1), k -> k.drop(), k -> k.ofLoop(0, 5));
    }

    private static void latch() {
        for (int runs : new int[] {0, 1, 8, 9}) {
            for (int run : new int[] {runs, -1, 9, LEAST, GREATEST}) {
                Edge.index("no such run: " + run + " of " + runs, () -> Work.withRuns(runs, 2), k -> k.latch(run));
            }
        }
        Edge.index("an undone run", () -> undoneRun(), k -> k.latch(1));
        Edge.index("24 loops, it comes first", () -> runAnd24(), k -> k.latch(1));
        Edge.answers("the first of 9", 0, () -> Work.withRuns(9, 0), k -> k.latch(0));
        Edge.after("the first of 9, its loop", "8 | ", () -> Work.withRuns(9, 0), k -> k.latch(0), Work::rows);
        Edge.after("the last of 9, its loop", "0 | ", () -> Work.withRuns(9, 0), k -> k.latch(8), Work::rows);
        Edge.state("it is not open", () -> latchedRun(), k -> k.latch(0));
        Edge.after("open again, as that was undone", 0, () -> latchedRun(), k -> k.undo(), k -> k.latch(0));
        Edge.state("there are 24 loops", () -> runAnd24(), k -> k.latch(0));
        Edge.after("there are 23 loops", 1, () -> runAnd24(), k -> k.bind(1), k -> k.latch(0));
    }

    private static Knitstead undoneRun() {
        Knitstead x = Work.withRuns(2, 1);
        x.undo();
        return x;
    }

    private static Knitstead latchedRun() {
        Knitstead x = Work.withRuns(1, 1);
        x.latch(0);
        return x;
    }

    private static Knitstead runAnd24() {
        Knitstead x = Work.withRuns(1, 12);
        x.cast(12);
        return x;
    }

    private static Knitstead withPatterns(int many) {
        Knitstead x = Work.withLeft(2);
        for (int i = 0; i < many; i++) {
            x.pattern(9 - i);
        }
        return x;
    }

    private static void pattern() {
        int[] wrong = {0, -1, -9, 10, 90, 101, 110, 999999990, 100000000, 123406789, 1000000000, 1111111111, 1999999999,
            -123, LEAST, GREATEST};
        for (int steps : wrong) {
            Edge.argument("not 1 to 999999999, or a 0: " + steps, Knitstead::new, k -> k.pattern(steps));
            Edge.argument("with 6, it comes first: " + steps, () -> withPatterns(6), k -> k.pattern(steps));
        }
        for (int steps : new int[] {1, 9, 11, 99, 111111111, 999999999, 999999998, 123456789}) {
            Edge.answers("steps " + steps, 0, Knitstead::new, k -> k.pattern(steps));
            Edge.after("told " + steps, steps, Knitstead::new, k -> k.pattern(steps), k -> k.ofPattern(0, 0));
            Edge.answers("with 5: " + steps, 5, () -> withPatterns(5), k -> k.pattern(steps));
            Edge.state("with 6: " + steps, () -> withPatterns(6), k -> k.pattern(steps));
        }
        Edge.answers("the same one again", 1, () -> Work.withPattern(1, 12), k -> k.pattern(12));
        Edge.after("it stays, as all is undone", 1, () -> Work.withPattern(1, 1), k -> k.undo() + k.undo(), k -> k.many(14));
    }

    private static void follow() {
        for (int patterns : new int[] {0, 1, 5, 6}) {
            for (int pattern : new int[] {patterns, -1, 6, LEAST, GREATEST}) {
                String what = "no such pattern: " + pattern + " of " + patterns;
                Edge.index(what, () -> withPatterns(patterns), k -> k.follow(pattern));
                Edge.index(what + ", it comes first", () -> bareWithPatterns(patterns), k -> k.follow(pattern));
            }
        }
        for (int pattern = 0; pattern < 6; pattern++) {
            int p = pattern;
            Edge.state("left has no loop: " + p, () -> bareWithPatterns(6), k -> k.follow(p));
        }
        Edge.state("left has no loop, right 24", () -> right24(), k -> k.follow(0));
        Edge.answers("the last of 6", 1, () -> withPatterns(6), k -> k.follow(5));
    }

    private static Knitstead right24() {
        Knitstead x = Work.withRight(24);
        x.pattern(1);
        return x;
    }

    private static Knitstead bareWithPatterns(int many) {
        Knitstead x = withPatterns(many);
        x.slip();
        x.slip();
        return x;
    }

    public static void main(String[] args) {
        newObject();
        buy();
        join();
        cast();
        work();
        over();
        together();
        slip();
        cross();
        turn();
        bind();
        drop();
        latch();
        pattern();
        follow();
        Check.end();
    }
}
