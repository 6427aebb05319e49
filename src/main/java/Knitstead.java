import java.util.Arrays;

/** Knitting on two needles. */
public final class Knitstead {
    private static final int NONE = -1;

    private static final int MOST_BALLS = 4;
    private static final int MOST_YARN = 9999;
    private static final int MOST_LOOPS = 24;
    private static final int MOST_RUNS = 9;
    private static final int MOST_PATTERNS = 6;
    private static final int MOST_STEPS_TOLD = 9;
    private static final int GREATEST_STEPS = 999999999;
    private static final int MOST_STEPS_DONE = 99;
    private static final int MOST_KEPT = 12;
    private static final int MOST_CROSSED = 3;

    private static final int CAST = 0;
    private static final int KNIT = 1;
    private static final int PURL = 2;
    private static final int OVER = 3;
    private static final int LEANS_LEFT = 4;
    private static final int LEANS_RIGHT = 5;

    private static final int CAST_YARN = 2;
    private static final int WORK_YARN = 4;
    private static final int OVER_YARN = 3;
    private static final int TOGETHER_YARN = 5;
    private static final int FASTEN_YARN = 6;

    // No LOOP takes less yarn than a CAST one, so the yarn of all BALLS bounds how many can be made.
    private static final int MOST_MADE = MOST_BALLS * MOST_YARN / CAST_YARN;
    private static final int LOOPS_AT_FIRST = 64;

    private static final int LOOP_KIND = 0;
    private static final int LOOP_BALL = 1;
    private static final int LOOP_ROW = 2;
    private static final int LOOP_HEIGHT = 3;
    private static final int LOOP_WORKED = 4;
    private static final int LOOP_WHERE = 5;
    private static final int LOOP_FACTS = 6;

    private static final int ON_LEFT = 0;
    private static final int ON_RIGHT = 1;
    private static final int IN_THE_WORK = 2;
    private static final int BOUND_OFF = 3;
    private static final int OF_AN_OPEN_RUN = 4;

    private static final int RUN_LOOP = 0;
    private static final int RUN_DEPTH = 1;
    private static final int RUN_FALLEN = 2;
    private static final int RUN_OPEN = 3;
    private static final int RUN_FACTS = 4;

    private static final int PATTERN_STEPS = 0;
    private static final int PATTERN_LENGTH = 1;
    private static final int PATTERN_EATS = 2;
    private static final int PATTERN_MAKES = 3;
    private static final int PATTERN_YARN = 4;
    private static final int PATTERN_FACTS = 5;

    private static final int NUMBERS = 16;

    private static final int KNIT_STEP = 1;
    private static final int PURL_STEP = 2;
    private static final int OVER_STEP = 3;
    private static final int TWO_LEFT_STEP = 4;
    private static final int TWO_RIGHT_STEP = 5;
    private static final int SLIP_STEP = 6;
    private static final int CROSS_STEP = 7;
    private static final int THREE_LEFT_STEP = 8;
    private static final int KNIT_OVER_KNIT_STEP = 9;

    // By the step's digit; there is no step 0.
    private static final int[] STEP_WANTS_ON_LEFT = {0, 1, 1, 0, 2, 2, 1, 2, 3, 2};
    private static final int[] STEP_EATS = {0, 1, 1, 0, 2, 2, 1, 0, 3, 2};
    private static final int[] STEP_MAKES = {0, 1, 1, 1, 1, 1, 1, 0, 1, 3};
    private static final int[] STEP_YARN = {
        0, WORK_YARN, WORK_YARN, OVER_YARN, TOGETHER_YARN, TOGETHER_YARN, 0, 0, TOGETHER_YARN,
        WORK_YARN + OVER_YARN + WORK_YARN
    };

    private final Balls balls = new Balls();
    private final Work now = new Work();
    private final Table loops = new Table(LOOP_FACTS, LOOPS_AT_FIRST, MOST_MADE);
    private final Table patterns = new Table(PATTERN_FACTS, MOST_PATTERNS, MOST_PATTERNS);
    private final Table patternDigits = new Table(MOST_STEPS_TOLD, MOST_PATTERNS, MOST_PATTERNS);
    private final History history = new History();
    private final Trial trial = new Trial();
    private int patternCount;

    public Knitstead() {
    }

    // ---- yarn

    public int buy(int length) throws IllegalArgumentException, IllegalStateException {
        if (length < 1 || length > MOST_YARN) {
            throw new IllegalArgumentException("a length is 1 to 9999");
        }
        if (balls.count >= MOST_BALLS) {
            throw new IllegalStateException("there are 4 balls");
        }
        return balls.add(length);
    }

    public int join(int ball) throws IndexOutOfBoundsException {
        if (!balls.has(ball)) {
            throw new IndexOutOfBoundsException("no such ball");
        }
        int before = balls.joined;
        balls.joined = ball;
        return before;
    }

    // ---- loops

    public int cast(int many) throws IllegalArgumentException, IllegalStateException {
        if (many < 1 || many > MOST_LOOPS) {
            throw new IllegalArgumentException("1 to 24 loops are cast on");
        }
        if (balls.ofJoined() < many * CAST_YARN || now.onBoth() + many > MOST_LOOPS) {
            throw new IllegalStateException("no ball, too little yarn, or too many loops");
        }
        history.keep(now, balls);
        for (int i = 0; i < many; i++) {
            make(CAST, 1, 0, CAST_YARN);
        }
        return now.onBoth();
    }

    public int work(boolean isPurl) throws IllegalStateException {
        if (!canDo(isPurl ? PURL_STEP : KNIT_STEP)) {
            throw new IllegalStateException("no loop, no ball, or too little yarn");
        }
        history.keep(now, balls);
        return workNext(isPurl ? PURL : KNIT);
    }

    public int over() throws IllegalStateException {
        if (!canDo(OVER_STEP)) {
            throw new IllegalStateException("24 loops, no ball, or too little yarn");
        }
        history.keep(now, balls);
        return makeOver();
    }

    public int together(int many, boolean isRight) throws IllegalArgumentException, IllegalStateException {
        if (many != 2 && many != 3) {
            throw new IllegalArgumentException("2 or 3 loops are taken together");
        }
        if (!canDo(many == 2 ? TWO_LEFT_STEP : THREE_LEFT_STEP)) {
            throw new IllegalStateException("too few loops, no ball, or too little yarn");
        }
        history.keep(now, balls);
        return takeTogether(many, isRight ? LEANS_RIGHT : LEANS_LEFT);
    }

    public int slip() throws IllegalStateException {
        if (!canDo(SLIP_STEP)) {
            throw new IllegalStateException("no loop on the left needle");
        }
        history.keep(now, balls);
        return slipNext();
    }

    public int cross(int first, int second) throws IllegalArgumentException, IllegalStateException {
        if (first < 1 || first > MOST_CROSSED || second < 1 || second > MOST_CROSSED) {
            throw new IllegalArgumentException("1 to 3 loops are crossed with 1 to 3");
        }
        if (now.leftNeedle.count < first + second) {
            throw new IllegalStateException("too few loops on the left needle");
        }
        history.keep(now, balls);
        return crossNext(first, second);
    }

    public int turn() throws IllegalStateException {
        if (now.onBoth() == 0) {
            throw new IllegalStateException("no loop on the needles");
        }
        history.keep(now, balls);
        if (now.leftNeedle.count > 0) {
            now.gaps++;
        }
        now.leftNeedle.swapWith(now.rightNeedle);
        now.row++;
        return now.leftNeedle.count;
    }

    public int bind(int many) throws IllegalArgumentException, IllegalStateException {
        if (many < 1 || many > MOST_LOOPS) {
            throw new IllegalArgumentException("1 to 24 loops are bound off");
        }
        boolean isAll = many == now.rightNeedle.count && now.leftNeedle.count == 0;
        if (!isAll && many > now.rightNeedle.count - 1) {
            throw new IllegalStateException("too few loops on the right needle");
        }
        if (isAll && balls.ofJoined() < FASTEN_YARN) {
            throw new IllegalStateException("no ball, or too little yarn");
        }
        history.keep(now, balls);
        bindSeconds(isAll ? many - 1 : many);
        if (isAll) {
            fastenLast();
        }
        return now.onBoth();
    }

    public int drop() throws IllegalStateException {
        if (now.leftNeedle.count < 1 || now.runCount >= MOST_RUNS) {
            throw new IllegalStateException("no loop on the left needle, or 9 runs");
        }
        history.keep(now, balls);
        int loop = now.leftNeedle.takeAt(0);
        return now.openRun(loop, loops.get(loop, LOOP_HEIGHT));
    }

    public int latch(int run) throws IndexOutOfBoundsException, IllegalStateException {
        if (run < 0 || run >= now.runCount) {
            throw new IndexOutOfBoundsException("no such run");
        }
        if (now.runs.get(run, RUN_OPEN) == 0 || now.onBoth() >= MOST_LOOPS) {
            throw new IllegalStateException("the run is not open, or there are 24 loops");
        }
        history.keep(now, balls);
        now.runs.set(run, RUN_OPEN, 0);
        now.leftNeedle.put(now.runs.get(run, RUN_LOOP));
        return now.runs.get(run, RUN_FALLEN);
    }

    public int pattern(int steps) throws IllegalArgumentException, IllegalStateException {
        if (steps < 1 || steps > GREATEST_STEPS || hasZero(steps)) {
            throw new IllegalArgumentException("a pattern has 1 to 9 steps from 1 to 9");
        }
        if (patternCount >= MOST_PATTERNS) {
            throw new IllegalStateException("there are 6 patterns");
        }
        int pattern = patternCount;
        patternCount++;
        tellPattern(pattern, steps);
        return pattern;
    }

    public int follow(int pattern) throws IndexOutOfBoundsException, IllegalStateException {
        if (!hasPattern(pattern)) {
            throw new IndexOutOfBoundsException("no such pattern");
        }
        if (now.leftNeedle.count < 1) {
            throw new IllegalStateException("no loop on the left needle");
        }
        history.keep(now, balls);
        tryOut(pattern);
        int steps = trial.done;
        for (int i = 0; i < steps; i++) {
            doStep(stepAt(pattern, i));
        }
        return steps;
    }

    public int undo() throws IllegalStateException {
        if (history.count < 1) {
            throw new IllegalStateException("nothing can be undone");
        }
        history.bringBack(now, balls);
        return history.count;
    }

    // ---- what is asked

    public int on(boolean isRight, int place) throws IndexOutOfBoundsException {
        if (place < 0 || place >= MOST_LOOPS) {
            throw new IndexOutOfBoundsException("a place is 0 to 23");
        }
        return needle(isRight).at(place);
    }

    public int ofLoop(int loop, int what) throws IndexOutOfBoundsException, IllegalArgumentException {
        if (loop < 0 || loop >= now.made) {
            throw new IndexOutOfBoundsException("no such loop");
        }
        if (what < 0 || what >= LOOP_FACTS) {
            throw new IllegalArgumentException("what is 0 to 5");
        }
        return loopFact(loop, what);
    }

    public int ofRun(int run, int what) throws IndexOutOfBoundsException, IllegalArgumentException {
        if (run < 0 || run >= now.runCount) {
            throw new IndexOutOfBoundsException("no such run");
        }
        if (what < 0 || what >= RUN_FACTS) {
            throw new IllegalArgumentException("what is 0 to 3");
        }
        return now.runs.get(run, what);
    }

    public String seen(boolean isRight) {
        Needle needle = needle(isRight);
        StringBuilder signs = new StringBuilder();
        for (int place = 0; place < needle.count; place++) {
            signs.append(signOf(needle.at(place)));
        }
        return signs.toString();
    }

    public double width(boolean isRight) {
        return widthOf(needle(isRight));
    }

    public int many(int what) throws IllegalArgumentException {
        if (what < 0 || what >= NUMBERS) {
            throw new IllegalArgumentException("what is 0 to 15");
        }
        return number(what);
    }

    public int left(int ball) throws IndexOutOfBoundsException {
        if (!balls.has(ball)) {
            throw new IndexOutOfBoundsException("no such ball");
        }
        return balls.of(ball);
    }

    public int ofPattern(int pattern, int what) throws IndexOutOfBoundsException, IllegalArgumentException {
        if (!hasPattern(pattern)) {
            throw new IndexOutOfBoundsException("no such pattern");
        }
        if (what < 0 || what >= PATTERN_FACTS) {
            throw new IllegalArgumentException("what is 0 to 4");
        }
        return patterns.get(pattern, what);
    }

    // ---- what would be (nothing is changed)

    public int would(int pattern) throws IndexOutOfBoundsException {
        if (!hasPattern(pattern)) {
            throw new IndexOutOfBoundsException("no such pattern");
        }
        tryOut(pattern);
        return trial.onBoth;
    }

    public int needs(int pattern) throws IndexOutOfBoundsException {
        if (!hasPattern(pattern)) {
            throw new IndexOutOfBoundsException("no such pattern");
        }
        tryOut(pattern);
        return trial.spent;
    }

    public int best() {
        return bestPattern();
    }

    public long digest() {
        long d = 58309;
        for (int what = 0; what < NUMBERS; what++) {
            d = mixed(d, number(what));
        }
        for (int ball = 0; ball < balls.count; ball++) {
            d = mixed(d, balls.of(ball));
        }
        d = mixedLoops(d, now.leftNeedle);
        d = mixedLoops(d, now.rightNeedle);
        d = mixed(d, (long) (8 * widthOf(now.leftNeedle)));
        d = mixed(d, (long) (8 * widthOf(now.rightNeedle)));
        for (int run = 0; run < now.runCount; run++) {
            d = mixedRow(d, now.runs, run, RUN_FACTS);
        }
        d = mixedPatterns(d);
        return mixed(d, bestPattern());
    }

    // ---- the work

    private int make(int kind, int height, int worked, int yarn) {
        int loop = now.made;
        now.made++;
        loops.set(loop, LOOP_KIND, kind);
        loops.set(loop, LOOP_BALL, balls.joined);
        loops.set(loop, LOOP_ROW, now.row);
        loops.set(loop, LOOP_HEIGHT, height);
        loops.set(loop, LOOP_WORKED, worked);
        balls.spend(yarn);
        now.rightNeedle.put(loop);
        now.letRunsFall();
        return loop;
    }

    private int takeWorked() {
        int loop = now.leftNeedle.takeAt(0);
        loops.set(loop, LOOP_WHERE, IN_THE_WORK);
        return loop;
    }

    private int workNext(int kind) {
        int worked = takeWorked();
        return make(kind, loops.get(worked, LOOP_HEIGHT) + 1, 1, WORK_YARN);
    }

    private int makeOver() {
        now.holes++;
        return make(OVER, 1, 0, OVER_YARN);
    }

    private int takeTogether(int many, int kind) {
        for (int i = 0; i < many; i++) {
            takeWorked();
        }
        return make(kind, 1, many, TOGETHER_YARN);
    }

    private int slipNext() {
        int loop = now.leftNeedle.takeAt(0);
        now.rightNeedle.put(loop);
        return loop;
    }

    private int crossNext(int first, int second) {
        for (int i = 0; i < first; i++) {
            now.leftNeedle.moveTipBehind(first + second - 1);
        }
        now.cables++;
        return now.leftNeedle.at(0);
    }

    private void bindSeconds(int many) {
        for (int i = 0; i < many; i++) {
            bindAt(1);
        }
    }

    private void fastenLast() {
        balls.spend(FASTEN_YARN);
        bindAt(0);
    }

    private void bindAt(int place) {
        int loop = now.rightNeedle.takeAt(place);
        loops.set(loop, LOOP_WHERE, BOUND_OFF);
        now.bound++;
    }

    // ---- patterns

    private static int stepFact(int[] table, int step) {
        return step >= 0 && step < table.length ? table[step] : 0;
    }

    private boolean canDo(int step) {
        return fits(step, now.leftNeedle.count, now.onBoth(), balls.ofJoined());
    }

    private static boolean fits(int step, int onLeft, int onBoth, int yarn) {
        int more = stepFact(STEP_MAKES, step) - stepFact(STEP_EATS, step);
        return onLeft >= stepFact(STEP_WANTS_ON_LEFT, step)
            && onBoth + more <= MOST_LOOPS
            && yarn >= stepFact(STEP_YARN, step);
    }

    private void doStep(int step) {
        switch (step) {
            case KNIT_STEP:
                workNext(KNIT);
                break;
            case PURL_STEP:
                workNext(PURL);
                break;
            case OVER_STEP:
                makeOver();
                break;
            case TWO_LEFT_STEP:
                takeTogether(2, LEANS_LEFT);
                break;
            case TWO_RIGHT_STEP:
                takeTogether(2, LEANS_RIGHT);
                break;
            case SLIP_STEP:
                slipNext();
                break;
            case CROSS_STEP:
                crossNext(1, 1);
                break;
            case THREE_LEFT_STEP:
                takeTogether(3, LEANS_LEFT);
                break;
            case KNIT_OVER_KNIT_STEP:
                workNext(KNIT);
                makeOver();
                workNext(KNIT);
                break;
            default:
                break;
        }
    }

    private boolean hasPattern(int pattern) {
        return pattern >= 0 && pattern < patternCount;
    }

    private static boolean hasZero(int steps) {
        int rest = steps;
        for (int i = 0; i < MOST_STEPS_TOLD && rest > 0; i++) {
            if (rest % 10 == 0) {
                return true;
            }
            rest = rest / 10;
        }
        return false;
    }

    private static int digitsIn(int steps) {
        int digits = 0;
        int rest = steps;
        for (int i = 0; i < MOST_STEPS_TOLD && rest > 0; i++) {
            digits++;
            rest = rest / 10;
        }
        return digits;
    }

    private void tellPattern(int pattern, int steps) {
        int length = digitsIn(steps);
        int eats = 0;
        int makes = 0;
        int yarn = 0;
        int rest = steps;
        for (int i = length - 1; i >= 0; i--) {
            int step = rest % 10;
            rest = rest / 10;
            patternDigits.set(pattern, i, step);
            eats += stepFact(STEP_EATS, step);
            makes += stepFact(STEP_MAKES, step);
            yarn += stepFact(STEP_YARN, step);
        }
        patterns.set(pattern, PATTERN_STEPS, steps);
        patterns.set(pattern, PATTERN_LENGTH, length);
        patterns.set(pattern, PATTERN_EATS, eats);
        patterns.set(pattern, PATTERN_MAKES, makes);
        patterns.set(pattern, PATTERN_YARN, yarn);
    }

    private int stepAt(int pattern, int done) {
        int length = patterns.get(pattern, PATTERN_LENGTH);
        return length < 1 ? 0 : patternDigits.get(pattern, done % length);
    }

    /** How FOLLOWING goes depends on counts alone, so the trial needs no copy of the work. */
    private void tryOut(int pattern) {
        trial.start(now.leftNeedle.count, now.onBoth(), balls.ofJoined());
        for (int i = 0; i < MOST_STEPS_DONE; i++) {
            if (!trial.takesStep(stepAt(pattern, i))) {
                break;
            }
        }
    }

    private boolean endsWhole(int pattern) {
        int length = patterns.get(pattern, PATTERN_LENGTH);
        return length > 0 && trial.onLeft == 0 && trial.done % length == 0;
    }

    private int bestPattern() {
        if (now.leftNeedle.count < 1) {
            return NONE;
        }
        int best = NONE;
        int least = 0;
        for (int pattern = 0; pattern < patternCount; pattern++) {
            tryOut(pattern);
            if (endsWhole(pattern) && (best == NONE || trial.spent < least)) {
                best = pattern;
                least = trial.spent;
            }
        }
        return best;
    }

    // ---- what is read off

    private Needle needle(boolean isRight) {
        return isRight ? now.rightNeedle : now.leftNeedle;
    }

    private int loopFact(int loop, int what) {
        return what == LOOP_WHERE ? whereIs(loop) : loops.get(loop, what);
    }

    private int whereIs(int loop) {
        if (now.leftNeedle.holds(loop)) {
            return ON_LEFT;
        }
        if (now.rightNeedle.holds(loop)) {
            return ON_RIGHT;
        }
        if (now.hasInOpenRun(loop)) {
            return OF_AN_OPEN_RUN;
        }
        // Only a LOOP that went for good is looked up: undo never brings one back whose going it keeps.
        return loops.get(loop, LOOP_WHERE);
    }

    private boolean isAsMade(int loop) {
        return ((loops.get(loop, LOOP_ROW) ^ now.row) & 1) == 0;
    }

    private boolean isSmooth(int loop) {
        int kind = loops.get(loop, LOOP_KIND);
        boolean wasSmooth = kind != CAST && kind != PURL;
        return wasSmooth == isAsMade(loop);
    }

    private char signOf(int loop) {
        int kind = loops.get(loop, LOOP_KIND);
        if (kind == OVER) {
            return 'o';
        }
        if (kind == LEANS_LEFT || kind == LEANS_RIGHT) {
            return (kind == LEANS_LEFT) == isAsMade(loop) ? '<' : '>';
        }
        return isSmooth(loop) ? 'v' : '-';
    }

    private float widthOf(Needle needle) {
        float width = 0.5f * needle.count;
        for (int place = 1; place < needle.count; place++) {
            if (isSmooth(needle.at(place - 1)) != isSmooth(needle.at(place))) {
                width -= 0.125f;
            }
        }
        return width;
    }

    private int number(int what) {
        switch (what) {
            case 0:
                return balls.count;
            case 1:
                return balls.ofAll();
            case 2:
                return balls.joined;
            case 3:
                return now.leftNeedle.count;
            case 4:
                return now.rightNeedle.count;
            case 5:
                return now.row & 1;
            case 6:
                return now.row;
            case 7:
                return now.made;
            case 8:
                return now.holes;
            case 9:
                return now.cables;
            case 10:
                return now.gaps;
            case 11:
                return now.bound;
            case 12:
                return now.runCount;
            case 13:
                return now.openRuns();
            case 14:
                return patternCount;
            default:
                return history.count;
        }
    }

    private static long mixed(long d, long v) {
        return d * 31 + v;
    }

    private static long mixedRow(long d, Table table, int row, int facts) {
        long result = d;
        for (int what = 0; what < facts; what++) {
            result = mixed(result, table.get(row, what));
        }
        return result;
    }

    private long mixedLoops(long d, Needle needle) {
        long result = d;
        for (int place = 0; place < needle.count; place++) {
            int loop = needle.at(place);
            result = mixed(result, loop);
            for (int what = 0; what < LOOP_FACTS; what++) {
                result = mixed(result, loopFact(loop, what));
            }
        }
        return result;
    }

    private long mixedPatterns(long d) {
        long result = d;
        for (int pattern = 0; pattern < patternCount; pattern++) {
            result = mixedRow(result, patterns, pattern, PATTERN_FACTS);
            tryOut(pattern);
            result = mixed(result, trial.onBoth);
            result = mixed(result, trial.spent);
        }
        return result;
    }

    /** The BALLS and which of them is JOINED. */
    private static final class Balls {
        private final int[] yarn = new int[MOST_BALLS];
        private int count;
        private int joined = NONE;

        boolean has(int ball) {
            return ball >= 0 && ball < count && ball < yarn.length;
        }

        int add(int length) {
            int ball = count;
            if (ball < 0 || ball >= yarn.length) {
                return NONE;
            }
            yarn[ball] = length;
            count++;
            return ball;
        }

        int of(int ball) {
            return has(ball) ? yarn[ball] : 0;
        }

        void set(int ball, int length) {
            if (has(ball)) {
                yarn[ball] = length;
            }
        }

        /** With no BALL JOINED this is 0, less than anything takes that takes yarn at all. */
        int ofJoined() {
            return of(joined);
        }

        void spend(int much) {
            set(joined, of(joined) - much);
        }

        int ofAll() {
            int all = 0;
            for (int ball = 0; ball < count; ball++) {
                all += of(ball);
            }
            return all;
        }
    }

    /** Rows of numbers. It grows as rows are written, so that a small work takes little room. */
    private static final class Table {
        private final int facts;
        private final int mostRows;
        private int[] cells;

        Table(int facts, int rowsAtFirst, int mostRows) {
            this.facts = Math.max(1, facts);
            this.mostRows = Math.max(0, mostRows);
            this.cells = new int[Math.max(0, this.facts * rowsAtFirst)];
        }

        private int cellOf(int row, int what) {
            boolean isCell = row >= 0 && row < mostRows && what >= 0 && what < facts;
            return isCell ? row * facts + what : NONE;
        }

        int get(int row, int what) {
            int cell = cellOf(row, what);
            return cell >= 0 && cell < cells.length ? cells[cell] : 0;
        }

        void set(int row, int what, int value) {
            int cell = cellOf(row, what);
            growTo(cell + 1);
            if (cell >= 0 && cell < cells.length) {
                cells[cell] = value;
            }
        }

        private void growTo(int size) {
            if (size <= cells.length) {
                return;
            }
            int roomy = Math.min(Math.max(size, cells.length * 2), mostRows * facts);
            if (roomy > cells.length) {
                cells = Arrays.copyOf(cells, roomy);
            }
        }

        void copyFrom(Table other) {
            int size = Math.min(cells.length, other.cells.length);
            System.arraycopy(other.cells, 0, cells, 0, size);
        }
    }

    /** A needle's row of LOOPS; the one next to the tip stands last, where it is put and taken. */
    private static final class Needle {
        private final int[] row = new int[MOST_LOOPS];
        private int count;

        int at(int place) {
            int index = count - 1 - place;
            return place >= 0 && index >= 0 && index < row.length ? row[index] : NONE;
        }

        private void replace(int place, int loop) {
            int index = count - 1 - place;
            if (place >= 0 && index >= 0 && index < row.length) {
                row[index] = loop;
            }
        }

        boolean holds(int loop) {
            for (int place = 0; place < count; place++) {
                if (at(place) == loop) {
                    return true;
                }
            }
            return false;
        }

        void put(int loop) {
            if (count >= 0 && count < row.length) {
                row[count] = loop;
                count++;
            }
        }

        int takeAt(int place) {
            int loop = at(place);
            if (loop == NONE) {
                return NONE;
            }
            for (int i = place; i > 0; i--) {
                replace(i, at(i - 1));
            }
            count--;
            return loop;
        }

        void moveTipBehind(int place) {
            int tip = at(0);
            for (int i = 0; i < place; i++) {
                replace(i, at(i + 1));
            }
            replace(place, tip);
        }

        void swapWith(Needle other) {
            int ownCount = count;
            count = other.count;
            other.count = ownCount;
            for (int i = 0; i < row.length && i < other.row.length; i++) {
                int own = row[i];
                row[i] = other.row[i];
                other.row[i] = own;
            }
        }

        void copyFrom(Needle other) {
            count = other.count;
            System.arraycopy(other.row, 0, row, 0, Math.min(row.length, other.row.length));
        }
    }

    /** All that undo takes back, but for the yarn. */
    private static final class Work {
        private final Needle leftNeedle = new Needle();
        private final Needle rightNeedle = new Needle();
        private final Table runs = new Table(RUN_FACTS, MOST_RUNS, MOST_RUNS);
        private int runCount;
        private int made;
        private int row;
        private int holes;
        private int cables;
        private int gaps;
        private int bound;

        int onBoth() {
            return leftNeedle.count + rightNeedle.count;
        }

        int openRun(int loop, int depth) {
            int run = runCount;
            runCount++;
            runs.set(run, RUN_LOOP, loop);
            runs.set(run, RUN_DEPTH, depth);
            runs.set(run, RUN_FALLEN, 0);
            runs.set(run, RUN_OPEN, 1);
            return run;
        }

        boolean isOpen(int run) {
            return runs.get(run, RUN_OPEN) == 1;
        }

        int openRuns() {
            int open = 0;
            for (int run = 0; run < runCount; run++) {
                if (isOpen(run)) {
                    open++;
                }
            }
            return open;
        }

        boolean hasInOpenRun(int loop) {
            for (int run = 0; run < runCount; run++) {
                if (isOpen(run) && runs.get(run, RUN_LOOP) == loop) {
                    return true;
                }
            }
            return false;
        }

        void letRunsFall() {
            for (int run = 0; run < runCount; run++) {
                if (isOpen(run)) {
                    int fallen = runs.get(run, RUN_FALLEN) + 1;
                    runs.set(run, RUN_FALLEN, Math.min(fallen, runs.get(run, RUN_DEPTH)));
                }
            }
        }

        void copyFrom(Work other) {
            leftNeedle.copyFrom(other.leftNeedle);
            rightNeedle.copyFrom(other.rightNeedle);
            runs.copyFrom(other.runs);
            runCount = other.runCount;
            made = other.made;
            row = other.row;
            holes = other.holes;
            cables = other.cables;
            gaps = other.gaps;
            bound = other.bound;
        }
    }

    /** The latest works, each as it was ahead of a call, in a ring where a new one covers the oldest. */
    private static final class History {
        private final Work[] works = new Work[MOST_KEPT];
        private final int[] ball = new int[MOST_KEPT];
        private final int[] yarn = new int[MOST_KEPT];
        private int next;
        private int count;

        History() {
            for (int i = 0; i < works.length; i++) {
                works[i] = new Work();
            }
        }

        private boolean isSlot(int slot) {
            return slot >= 0 && slot < works.length && slot < ball.length && slot < yarn.length;
        }

        void keep(Work now, Balls balls) {
            if (!isSlot(next) || works[next] == null) {
                return;
            }
            works[next].copyFrom(now);
            // A call takes yarn of the JOINED BALL alone, so its yarn is all that undo needs.
            ball[next] = balls.joined;
            yarn[next] = balls.ofJoined();
            next = next + 1 < MOST_KEPT ? next + 1 : 0;
            count = Math.min(count + 1, MOST_KEPT);
        }

        void bringBack(Work now, Balls balls) {
            int latest = next > 0 ? next - 1 : MOST_KEPT - 1;
            if (count < 1 || !isSlot(latest) || works[latest] == null) {
                return;
            }
            now.copyFrom(works[latest]);
            balls.set(ball[latest], yarn[latest]);
            next = latest;
            count--;
        }
    }

    /** What would be on the needles, in counts, as a PATTERN is FOLLOWED. */
    private static final class Trial {
        private int onLeft;
        private int onBoth;
        private int yarn;
        private int spent;
        private int done;

        void start(int onLeftFirst, int onBothFirst, int yarnFirst) {
            onLeft = onLeftFirst;
            onBoth = onBothFirst;
            yarn = yarnFirst;
            spent = 0;
            done = 0;
        }

        boolean takesStep(int step) {
            if (onLeft < 1 || !fits(step, onLeft, onBoth, yarn)) {
                return false;
            }
            int eats = stepFact(STEP_EATS, step);
            int takes = stepFact(STEP_YARN, step);
            onLeft -= eats;
            onBoth += stepFact(STEP_MAKES, step) - eats;
            yarn -= takes;
            spent += takes;
            done++;
            return true;
        }
    }
}
