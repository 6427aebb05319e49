/** The bounds that sections 1 to 4 of the document's "Terms" name, each sentence by itself. */
public final class EdgeTermsTest {
    private EdgeTermsTest() {
    }

    // ---- 1 yarn

    /** "BALLS: at most 4, numbered from 0, each with a LENGTH of yarn (0 to 9999; what is left of it)." */
    private static void balls() {
        for (int n = 0; n < 4; n++) {
            int before = n;
            Edge.answers("ball " + n, n, () -> Work.withBalls(before), k -> k.buy(1));
        }
        Edge.state("a fifth ball", () -> Work.withBalls(4), k -> k.buy(1));
        Edge.answers("a length of 9999", 9999, () -> Work.withYarn(9999), k -> k.left(0));
        Edge.answers("a length of 0, as all is used", 0, Work::withNoYarn, k -> k.left(0));
        Edge.answers("4 balls of 9999", 39996, () -> Work.withBalls(4), k -> k.many(1));
    }

    /** "One of them is JOINED (NONE at first)": BUYING JOINS none. */
    private static void joinedAtFirst() {
        Edge.answers("joined at first", -1, Knitstead::new, k -> k.many(2));
        Edge.answers("joined with 4 balls", -1, () -> Work.withBalls(4), k -> k.many(2));
        Edge.answers("the one before, of none", -1, () -> Work.withBalls(1), k -> k.join(0));
        Edge.answers("joined by an undo", 0, () -> Work.withRight(1), k -> k.undo() + k.many(2));
    }

    /** "Who needs more than is left can not do that.": just enough in the JOINED BALL leaves 0, 1 less is refused. */
    private static void takes(String what, int yarn, int left, int right, Check.Call call) {
        Edge.after(what + " with just enough", 0, () -> Work.withBoth(left, right, yarn), call, k -> k.left(1));
        Edge.after(what + " takes of no other", Work.withBoth(left, right).left(0),
            () -> Work.withBoth(left, right, yarn), call, k -> k.left(0));
        Edge.after(what + " with 1 to spare", 1, () -> Work.withBoth(left, right, yarn + 1), call, k -> k.left(1));
        Edge.state(what + " with 1 too little", () -> Work.withBoth(left, right, yarn - 1), call);
    }

    private static void yarnOfEach() {
        takes("cast(1)", 2, 0, 0, k -> k.cast(1));
        takes("cast(5)", 10, 3, 3, k -> k.cast(5));
        takes("cast(24)", 48, 0, 0, k -> k.cast(24));
        takes("knit", 4, 1, 0, k -> k.work(false));
        takes("purl", 4, 1, 0, k -> k.work(true));
        takes("over", 3, 1, 0, k -> k.over());
        takes("two together to the left", 5, 2, 0, k -> k.together(2, false));
        takes("two together to the right", 5, 2, 0, k -> k.together(2, true));
        takes("three together to the left", 5, 3, 0, k -> k.together(3, false));
        takes("three together to the right", 5, 3, 0, k -> k.together(3, true));
        takes("bind(1) of 1", 6, 0, 1, k -> k.bind(1));
        takes("bind(24) of 24", 6, 0, 24, k -> k.bind(24));
    }

    /** What needs no yarn goes on with a LENGTH of 0; what needs some does not. */
    private static void noYarn() {
        Edge.answers("slip with no yarn", 1, Work::withNoYarn, k -> k.slip());
        Edge.answers("cross with no yarn", 0, Work::withNoYarn, k -> k.cross(1, 1));
        Edge.answers("turn with no yarn", 2, Work::withNoYarn, k -> k.turn());
        Edge.answers("bind(1) of 2 with no yarn", 3, Work::withNoYarn, k -> k.bind(1));
        Edge.answers("drop with no yarn", 0, Work::withNoYarn, k -> k.drop());
        Edge.after("latch with no yarn", "1 0 | 3 2", Work::withNoYarn, k -> k.drop() + k.latch(0), Work::rows);
        Edge.state("cast with no yarn", Work::withNoYarn, k -> k.cast(1));
        Edge.state("knit with no yarn", Work::withNoYarn, k -> k.work(false));
        Edge.state("purl with no yarn", Work::withNoYarn, k -> k.work(true));
        Edge.state("over with no yarn", Work::withNoYarn, k -> k.over());
        Edge.state("together with no yarn", Work::withNoYarn, k -> k.together(2, true));
    }

    // ---- 2 the work

    /** "LOOPS, 24 on both together at most." */
    private static void loopsOnBoth() {
        for (int left = 0; left <= 23; left++) {
            int l = left;
            Edge.Begin oneLess = () -> Work.withBoth(l, 23 - l);
            Edge.Begin full = () -> Work.withBoth(l, 24 - l);
            Edge.answers("a 24th by cast, left " + l, 24, oneLess, k -> k.cast(1));
            Edge.answers("a 24th by over, left " + l, 23, oneLess, k -> k.over());
            Edge.state("a 25th by cast(2), left " + l, oneLess, k -> k.cast(2));
            Edge.state("a 25th by cast(1), left " + l, full, k -> k.cast(1));
            Edge.state("a 25th by over, left " + l, full, k -> k.over());
        }
        Edge.answers("24 at once", 24, () -> Work.withYarn(48), k -> k.cast(24));
        Edge.state("24 beside 1 on left", () -> Work.withLeft(1), k -> k.cast(24));
        Edge.state("24 beside 1 on right", () -> Work.withRight(1), k -> k.cast(24));
        Edge.state("a 25th with all on left", () -> Work.withLeft(24), k -> k.over());
    }

    /** RUN 0, so many LOOPS on LEFT, and behind it so many CAST ones on RIGHT. */
    private static Knitstead runBeside(int left, int right) {
        Knitstead x = Work.withRuns(1, left);
        if (right > 0) {
            x.cast(right);
        }
        return x;
    }

    private static void loopsOnBothByLatch() {
        for (int left = 0; left <= 23; left++) {
            int l = left;
            Edge.after("a 24th by latch, left " + l, l + 1 + " " + (23 - l), () -> runBeside(l, 23 - l),
                k -> k.latch(0), Work::counts);
            Edge.state("a 25th by latch, left " + l, () -> runBeside(l, 24 - l), k -> k.latch(0));
        }
    }

    /** With 24 LOOPS all goes on that makes them no more. */
    private static void fullNeedles() {
        Edge.answers("work with 24", 24, () -> Work.withLeft(24), k -> k.work(true));
        Edge.answers("together with 24", 24, () -> Work.withLeft(24), k -> k.together(2, true));
        Edge.answers("slip with 24", 23, () -> Work.withLeft(24), k -> k.slip());
        Edge.answers("cross with 24", 20, () -> Work.withLeft(24), k -> k.cross(3, 3));
        Edge.answers("turn with 24 on left", 0, () -> Work.withLeft(24), k -> k.turn());
        Edge.answers("turn with 24 on right", 24, () -> Work.withRight(24), k -> k.turn());
        Edge.answers("bind with 24", 1, () -> Work.withRight(24), k -> k.bind(23));
        Edge.answers("drop with 24", 0, () -> Work.withLeft(24), k -> k.drop());
        Edge.after("24 that are slipped", "0 24", () -> Work.withPattern(24, 6), k -> k.follow(0), Work::counts);
    }

    /** "LOOPS are numbered from 0 as they are made." */
    private static void numbering() {
        Edge.answers("the first by a cast", 0, () -> Work.withRight(1), k -> k.on(true, 0));
        Edge.answers("the first by an over", 0, () -> Work.withYarn(3), k -> k.over());
        Edge.answers("the next, as all were bound off", 3, () -> Work.withRight(3), k -> k.bind(3) + k.over());
        Edge.answers("the next, as one was dropped", 3, () -> Work.withRuns(1, 2), k -> k.over());
        Edge.after("the same again, as it was undone", 3, () -> Work.withRight(3), k -> k.over() + k.undo(), k -> k.over());
    }

    /** 251 times 23 LOOPS are CAST, and each time but the last all but one are bound off: 505 calls. */
    private static Knitstead manyLoops() {
        Knitstead x = Work.withYarn(9999);
        x.buy(9999);
        for (int i = 0; i < 250; i++) {
            if (i == 200) {
                x.join(1);
            }
            x.cast(23);
            x.bind(i == 0 ? 22 : 23);
        }
        x.cast(23);
        return x;
    }

    /** No sentence bounds how many LOOPS are made: as many as 512 calls can make. */
    private static void veryManyLoops() {
        Edge.answers("how many", 251 * 23, EdgeTermsTest::manyLoops, k -> k.many(7));
        Edge.answers("the first", 3, EdgeTermsTest::manyLoops, k -> k.ofLoop(0, 5));
        Edge.answers("one of the middle", 3, EdgeTermsTest::manyLoops, k -> k.ofLoop(5003, 5));
        Edge.answers("its ball", 1, EdgeTermsTest::manyLoops, k -> k.ofLoop(5003, 1));
        Edge.answers("its height", 1, EdgeTermsTest::manyLoops, k -> k.ofLoop(5003, 3));
        Edge.answers("the last", "0 1 0 1 0 1", EdgeTermsTest::manyLoops, k -> Work.loop(k, 251 * 23 - 1));
        Edge.index("behind the last", () -> Work.withRight(23), k -> k.ofLoop(23, 0));
    }

    /** Rows of 24 PURLED LOOPS, 100 above the CAST ones: LOOP n is of ROW n / 24. 204 calls. */
    private static Knitstead purledRows() {
        Knitstead x = Work.withPattern(24, 2);
        x.follow(0);
        for (int row = 2; row <= 100; row++) {
            x.turn();
            x.follow(0);
        }
        return x;
    }

    /** "A LOOP has a KIND ..; the BALL of which it is, the ROW in which it was made, and a HEIGHT": each keeps its own. */
    private static void factsOfEachLoop() {
        int loops = 101 * 24;
        for (int first = 0; first < loops; first += 50) {
            StringBuilder due = new StringBuilder();
            int end = Math.min(first + 50, loops);
            for (int loop = first; loop < end; loop++) {
                int row = loop / 24;
                due.append(row == 0 ? "0 0 0 1 0 2" : "2 0 " + row + " " + (row + 1) + " 1 " + (row == 100 ? 1 : 2)).append(", ");
            }
            int from = first;
            Edge.answers("loops from " + first, due.toString(), EdgeTermsTest::purledRows, k -> factsOf(k, from, end));
        }
    }

    private static String factsOf(Knitstead x, int first, int end) {
        StringBuilder text = new StringBuilder();
        for (int loop = first; loop < end; loop++) {
            text.append(Work.loop(x, loop)).append(", ");
        }
        return text.toString();
    }

    private static Knitstead turned(int times) {
        Knitstead x = Work.withRight(1);
        for (int i = 0; i < times; i++) {
            x.turn();
        }
        return x;
    }

    private static String sideAndRow(Knitstead x) {
        return x.many(5) + " " + x.many(6);
    }

    /** "The SIDE that faces is 0 at first, and with each TURN the other one. ROW is 0 at first, and .. 1 more." */
    private static void sides() {
        Edge.answers("side and row at first", "0 0", Knitstead::new, EdgeTermsTest::sideAndRow);
        Edge.answers("after a turn", "1 1", () -> turned(1), EdgeTermsTest::sideAndRow);
        Edge.answers("side 0 again", "0 2", () -> turned(2), EdgeTermsTest::sideAndRow);
        Edge.after("as a turn was undone", "0 2", () -> turned(3), k -> k.undo(), EdgeTermsTest::sideAndRow);
        Edge.answers("after 505 turns", "1 505", () -> turned(505), EdgeTermsTest::sideAndRow);
        Edge.after("a loop's row after 505 turns", 505, () -> turned(505), k -> k.over(), k -> k.ofLoop(1, 2));
    }

    /** "a HEIGHT: 1, but for KNIT and PURL: 1 more than that of the LOOP that was worked" */
    private static void heights() {
        Edge.answers("a cast one", 1, () -> Work.withRight(1), k -> k.ofLoop(0, 3));
        Edge.answers("an over", 1, () -> Work.withYarn(9), k -> k.ofLoop(k.over(), 3));
        Edge.answers("a knit on a cast one", 2, () -> Work.withLeft(1), k -> k.ofLoop(k.work(false), 3));
        Edge.answers("a purl on a cast one", 2, () -> Work.withLeft(1), k -> k.ofLoop(k.work(true), 3));
        Edge.answers("a purl on a high one", 202, () -> Work.tower(1, 200), k -> k.ofLoop(k.work(true), 3));
        Edge.answers("high ones together", 1, () -> Work.tower(3, 9), k -> k.ofLoop(k.together(3, true), 3));
        Edge.answers("a high one that is slipped", 4, () -> Work.tower(1, 3), k -> k.ofLoop(k.slip(), 3));
        Edge.answers("a high one that is latched", 4, () -> Work.tower(1, 3),
            k -> k.ofLoop(k.ofRun(k.drop() + k.latch(0), 0), 3));
    }

    /** "A new LOOP is always the one next to the tip of RIGHT."; LOOPS are worked "the one next to its tip first". */
    private static void tips() {
        Edge.Begin both = () -> Work.withBoth(3, 2);
        Edge.answers("cast one by one", " | 2 1 0", () -> Work.withRight(3), Work::rows);
        Edge.answers("the one next to a tip stays so", "2 1 0 | ", () -> Work.withLeft(3), Work::rows);
        Edge.answers("cast on right alone", "2 1 0 | 4 3", both, Work::rows);
        Edge.after("a knit", "1 0 | 5 4 3", both, k -> k.work(false), Work::rows);
        Edge.after("an over", "2 1 0 | 5 4 3", both, k -> k.over(), Work::rows);
        Edge.after("two together", "0 | 5 4 3", both, k -> k.together(2, true), Work::rows);
        Edge.after("three together", " | 5 4 3", both, k -> k.together(3, true), Work::rows);
        Edge.after("a slip", "1 0 | 2 4 3", both, k -> k.slip(), Work::rows);
        Edge.after("a turn", "4 3 | 2 1 0", both, k -> k.turn(), Work::rows);
        Edge.after("a bind", "2 1 0 | 4", both, k -> k.bind(1), Work::rows);
        Edge.after("a drop", "1 0 | 4 3", both, k -> k.drop(), Work::rows);
        Edge.after("a latch", "2 1 0 | 4 3", both, k -> k.drop() + k.latch(0), Work::rows);
    }

    /** "an OVER: .. a HOLE (counted)"; "it is a CABLE (counted)": by steps of a PATTERN, too. */
    private static void holesAndCables() {
        Edge.answers("holes at first", 0, Knitstead::new, k -> k.many(8));
        Edge.after("a hole", 1, () -> Work.withBoth(4, 4), k -> k.over(), k -> k.many(8));
        Edge.after("a hole by step 3", 1, () -> Work.withPattern(1, 31), k -> k.follow(0), k -> k.many(8));
        Edge.after("a hole by step 9", 1, () -> Work.withPattern(2, 9), k -> k.follow(0), k -> k.many(8));
        Edge.after("none by others", 0, () -> Work.withPattern(24, 1245678), k -> k.follow(0), k -> k.many(8));
        Edge.answers("cables at first", 0, Knitstead::new, k -> k.many(9));
        Edge.after("a cable", 1, () -> Work.withBoth(4, 4), k -> k.cross(2, 2), k -> k.many(9));
        Edge.after("a cable by step 7", 1, () -> Work.withPattern(2, 711), k -> k.follow(0), k -> k.many(9));
        Edge.after("none by others", 0, () -> Work.withPattern(22, 12345689), k -> k.follow(0), k -> k.many(9));
    }

    /** "If there were LOOPS on LEFT ahead of it, that is a GAP (counted)" */
    private static void gaps() {
        Edge.answers("gaps at first", 0, Knitstead::new, k -> k.many(10));
        Edge.after("none on left", 0, () -> Work.withRight(5), k -> k.turn(), k -> k.many(10));
        Edge.after("one on left", 1, () -> Work.withBoth(1, 5), k -> k.turn(), k -> k.many(10));
        Edge.after("all but one on left", 1, () -> Work.withBoth(23, 1), k -> k.turn(), k -> k.many(10));
        Edge.after("all on left", 1, () -> Work.withLeft(1), k -> k.turn(), k -> k.many(10));
    }

    // ---- 3 runs

    /** "it is a RUN (numbered from 0; at most 9 ever, undone ones not) with a DEPTH (its HEIGHT), and has FALLEN 0" */
    private static void runs() {
        for (int n = 0; n < 9; n++) {
            int before = n;
            Edge.answers("run " + n, n, () -> Work.withRuns(before, 1), k -> k.drop());
        }
        Edge.state("a tenth run", () -> Work.withRuns(9, 1), k -> k.drop());
        Edge.state("a tenth run, with none open", EdgeTermsTest::nineLatched, k -> k.drop());
        Edge.after("a ninth, as one was undone", 8, () -> Work.withRuns(9, 0), k -> k.undo(), k -> k.drop());
        Edge.answers("a run of a cast one", "0 1 0 1", () -> Work.withRuns(1, 0), k -> Work.run(k, 0));
        Edge.answers("a run of a high one", "7 4 0 1", () -> Work.tower(2, 3), k -> Work.run(k, k.drop()));
        Edge.answers("9 loops on no needle", " | ", () -> Work.withRuns(9, 0), Work::rows);
    }

    private static Knitstead nineLatched() {
        Knitstead x = Work.withRuns(9, 0);
        for (int run = 0; run < 9; run++) {
            x.latch(run);
        }
        return x;
    }

    /** RUN 0 with a DEPTH of 5, and three LOOPS on LEFT. */
    private static Knitstead deepRun() {
        Knitstead x = Work.tower(4, 4);
        x.drop();
        x.pattern(9);
        return x;
    }

    private static void falls(String what, int due, Check.Call call) {
        Edge.after("fallen by " + what, due, EdgeTermsTest::deepRun, call, k -> k.ofRun(0, 2));
    }

    /** "By each LOOP that is made (CAST ones, too, one by one) each RUN that is OPEN has FALLEN 1 more, to DEPTH at most." */
    private static void fallen() {
        falls("4 cast ones, 1 less than the depth", 4, k -> k.cast(4));
        falls("5 cast ones, the depth", 5, k -> k.cast(5));
        falls("6 cast ones, the depth still", 5, k -> k.cast(6));
        falls("a knit", 1, k -> k.work(false));
        falls("a purl", 1, k -> k.work(true));
        falls("an over", 1, k -> k.over());
        falls("two together", 1, k -> k.together(2, false));
        falls("three together", 1, k -> k.together(3, true));
        falls("a knit, an over and a knit", 3, k -> k.follow(0));
        falls("a slip", 0, k -> k.slip());
        falls("a cross", 0, k -> k.cross(1, 2));
        falls("a turn", 0, k -> k.turn());
        falls("a drop", 0, k -> k.drop());
        falls("a bind", 0, k -> k.slip() + k.slip() + k.bind(1));
        falls("an undone cast", 0, k -> k.cast(3) + k.undo());
        falls("what is made ahead of its latch alone", 2, k -> k.cast(2) + k.latch(0) + k.cast(2));
        falls("a refused cast", 0, k -> Check.isRefused(k, x -> x.cast(24)));
        Edge.after("each run, by its own depth", "1 2", () -> twoRuns(), k -> k.cast(2),
            k -> k.ofRun(0, 2) + " " + k.ofRun(1, 2));
    }

    /** RUN 0 with a DEPTH of 1, RUN 1 with one of 2. */
    private static Knitstead twoRuns() {
        Knitstead x = Work.withLeft(2);
        x.work(false);
        x.drop();
        x.turn();
        x.drop();
        return x;
    }

    /** "To LATCH a RUN that is OPEN: its LOOP is the next one of LEFT again (as it was), .. FALLEN stays." */
    private static void latched() {
        Edge.answers("fallen 0", 0, EdgeTermsTest::deepRun, k -> k.latch(0));
        Edge.answers("fallen to its depth", 5, EdgeTermsTest::deepRun, k -> k.cast(7) * 0 + k.latch(0));
        Edge.after("fallen stays", "19 5 2 0", EdgeTermsTest::deepRun, k -> k.cast(2) + k.latch(0), k -> Work.run(k, 0));
        Edge.after("onto an empty needle", "0 | ", () -> Work.withRuns(1, 0), k -> k.latch(0), Work::rows);
        Edge.after("behind a turn, on left", "0 | 1", () -> Work.withRuns(1, 1), k -> k.turn() + k.latch(0),
            k -> k.on(true, 0) + " | " + k.on(false, 0));
        Edge.state("one that is not open", EdgeTermsTest::nineLatched, k -> k.latch(8));
    }

    // ---- 4 patterns

    private static Knitstead withPatterns(int many) {
        Knitstead x = Work.withLeft(3);
        for (int i = 0; i < many; i++) {
            x.pattern(i + 1);
        }
        return x;
    }

    /** "PATTERNS: at most 6, numbered from 0, each of 1 to 9 steps, as decimal digits, the first one in front" */
    private static void patterns() {
        for (int n = 0; n < 6; n++) {
            int before = n;
            Edge.answers("pattern " + n, n, () -> withPatterns(before), k -> k.pattern(1));
        }
        Edge.state("a seventh pattern", () -> withPatterns(6), k -> k.pattern(1));
        Edge.answers("1 step", 1, () -> Work.withPattern(1, 9), k -> k.ofPattern(0, 1));
        Edge.answers("9 steps", 9, () -> Work.withPattern(1, 123456789), k -> k.ofPattern(0, 1));
        Edge.argument("10 steps", Knitstead::new, k -> k.pattern(1111111111));
        Edge.after("the first one in front", "--v", () -> Work.withPattern(3, 122), k -> k.follow(0), k -> k.seen(true));
    }

    private static void follows(String what, int steps, String counts, int left, int pattern) {
        Edge.answers(what + ", steps", steps, () -> Work.withPattern(left, pattern), k -> k.follow(0));
        Edge.after(what + ", loops", counts, () -> Work.withPattern(left, pattern), k -> k.follow(0), Work::counts);
    }

    /** "step by step, again and again, till LEFT has no LOOP, 99 steps are done, or a step can not be done" */
    private static void followed() {
        follows("till left has no loop", 4, "0 4", 4, 1);
        follows("till left has no loop, in the middle", 5, "0 5", 5, 12);
        follows("no step behind the last loop", 1, "0 1", 1, 13);
        follows("99 steps, and left has no loop", 99, "0 11", 22, 777777775);
        follows("99 steps, and a 100th could be", 99, "2 11", 24, 777777775);
        follows("99 steps of a cross", 99, "2 0", 2, 7);
        follows("two together of two", 1, "0 1", 2, 4);
        follows("two together of one", 0, "1 0", 1, 4);
        follows("two to the right of two", 1, "0 1", 2, 5);
        follows("two to the right of one", 0, "1 0", 1, 5);
        follows("a cross of one", 0, "1 0", 1, 7);
        follows("three together of three", 1, "0 1", 3, 8);
        follows("three together of two", 0, "2 0", 2, 8);
        follows("an over as the 24th, none as the 25th", 2, "22 2", 23, 36);
        follows("an over as the 25th", 0, "24 0", 24, 36);
    }

    private static void step(String what, String rows, String seen, int left, int pattern) {
        Edge.after("step " + what, rows, () -> Work.withPattern(left, pattern), k -> k.follow(0), Work::rows);
        Edge.after("seen " + what, seen, () -> Work.withPattern(left, pattern), k -> k.follow(0), k -> k.seen(true));
    }

    /** "1 KNIT, 2 PURL, 3 OVER, 4 two TOGETHER .., 5 .., 6 SLIP, 7 CROSS 1 and 1, 8 three .., 9 a KNIT, an OVER and a KNIT" */
    private static void steps() {
        step("1", " | 1", "v", 1, 1);
        step("2", " | 1", "-", 1, 2);
        step("3 ahead of a slip", " | 0 1", "vo", 1, 36);
        step("4 of two", " | 2", "<", 2, 4);
        step("4 of three", "0 | 3", "<", 3, 4);
        step("5 of two", " | 2", ">", 2, 5);
        step("5 of three", "0 | 3", ">", 3, 5);
        step("6", " | 0", "v", 1, 6);
        step("7 ahead of slips", " | 0 2 1", "vvv", 3, 7666);
        step("8 of three", " | 3", "<", 3, 8);
        step("8 of five", "1 0 | 5", "<", 5, 8);
        step("9 of two", " | 4 3 2", "vov", 2, 9);
        step("9 of three", "0 | 5 4 3", "vov", 3, 9);
    }

    /** "A PATTERN EATS so many LOOPS as come off LEFT by one time of its steps, and MAKES so many as come to RIGHT" */
    private static void eatsAndMakes() {
        int[] eats = {0, 1, 1, 0, 2, 2, 1, 0, 3, 2};
        int[] makes = {0, 1, 1, 1, 1, 1, 1, 0, 1, 3};
        for (int first = 1; first <= 9; first++) {
            int f = first;
            Edge.answers("eats by " + f, eats[f], () -> Work.withPattern(9, f), k -> k.ofPattern(0, 2));
            Edge.answers("makes by " + f, makes[f], () -> Work.withPattern(9, f), k -> k.ofPattern(0, 3));
            for (int second = 1; second <= 9; second++) {
                int s = second;
                Edge.answers("eats by " + f + s, eats[f] + eats[s], () -> Work.withPattern(9, 10 * f + s),
                    k -> k.ofPattern(0, 2));
                Edge.answers("makes by " + f + s, makes[f] + makes[s], () -> Work.withPattern(9, 10 * f + s),
                    k -> k.ofPattern(0, 3));
            }
        }
    }

    /** "9: if one of its three can not be, none of them is" */
    private static void nines() {
        follows("a 9 of two", 1, "0 3", 2, 9);
        follows("a 9 of one", 0, "1 0", 1, 9);
        follows("a 9 of three", 1, "1 3", 3, 9);
        follows("a 9 with 23 loops", 1, "21 3", 23, 9);
        follows("a 9 with 24 loops", 0, "24 0", 24, 9);
        for (int yarn = 1; yarn <= 12; yarn++) {
            int enough = yarn;
            Edge.answers("a 9 with yarn of " + yarn, yarn < 11 ? 0 : 1, () -> told(2, enough, 9), k -> k.follow(0));
            Edge.after("what is left of " + yarn, yarn < 11 ? yarn : yarn - 11, () -> told(2, enough, 9),
                k -> k.follow(0), k -> k.left(1));
        }
        Edge.after("none of the three leaves no hole", 0, () -> told(2, 10, 9), k -> k.follow(0), k -> k.many(8));
        Edge.after("none of the three makes no loop", 2, () -> told(2, 10, 9), k -> k.follow(0), k -> k.many(7));
    }

    private static Knitstead told(int left, int yarn, int pattern) {
        Knitstead x = Work.withBoth(left, 0, yarn);
        x.pattern(pattern);
        return x;
    }

    /** A step that lacks yarn ends it, too. */
    private static void followedWithYarn() {
        int[] needed = {0, 4, 4, 3, 5, 5, 0, 0, 5, 11};
        for (int step = 1; step <= 9; step++) {
            int s = step;
            int steps = s * 10 + 6;
            if (needed[s] > 0) {
                Edge.answers("just enough for " + s, needed[s] + " 1", () -> told(3, needed[s], steps),
                    k -> k.needs(0) + " " + Math.min(1, k.follow(0)));
                Edge.answers("1 too little for " + s, "0 0", () -> told(3, needed[s] - 1, steps),
                    k -> k.needs(0) + " " + k.follow(0));
            }
        }
        Edge.answers("slips with no yarn", 2, () -> emptyAndTold(6), k -> k.follow(0));
        Edge.answers("crosses with no yarn", 99, () -> emptyAndTold(7), k -> k.follow(0));
        Edge.answers("a slip, and no knit with no yarn", 1, () -> emptyAndTold(61), k -> k.follow(0));
        Edge.answers("no over with no yarn", 0, () -> emptyAndTold(3), k -> k.follow(0));
    }

    private static Knitstead emptyAndTold(int pattern) {
        Knitstead x = Work.withNoYarn();
        x.pattern(pattern);
        return x;
    }

    public static void main(String[] args) {
        balls();
        joinedAtFirst();
        yarnOfEach();
        noYarn();
        loopsOnBoth();
        loopsOnBothByLatch();
        fullNeedles();
        numbering();
        veryManyLoops();
        factsOfEachLoop();
        sides();
        heights();
        tips();
        holesAndCables();
        gaps();
        runs();
        fallen();
        latched();
        patterns();
        followed();
        steps();
        eatsAndMakes();
        nines();
        followedWithYarn();
        Check.end();
    }
}
