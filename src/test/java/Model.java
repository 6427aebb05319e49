import java.util.ArrayDeque;
import java.util.ArrayList;
import java.util.Deque;
import java.util.List;

/**
 * A second program for the same document, in another build: it copies everything ahead of each call, and FOLLOWS by
 * trying each step in earnest. ModelTest lets both answer the same calls.
 */
final class Model {
    private static final class Loop {
        int kind;
        int ball;
        int row;
        int height;
        int worked;
        int where;

        Loop copy() {
            Loop c = new Loop();
            c.kind = kind;
            c.ball = ball;
            c.row = row;
            c.height = height;
            c.worked = worked;
            c.where = where;
            return c;
        }
    }

    private static final class State {
        List<Integer> yarn = new ArrayList<>();
        int joined = -1;
        List<Integer> left = new ArrayList<>();
        List<Integer> right = new ArrayList<>();
        List<Loop> loops = new ArrayList<>();
        List<int[]> runs = new ArrayList<>();
        int row;
        int holes;
        int cables;
        int gaps;
        int bound;

        State copy() {
            State c = new State();
            c.yarn.addAll(yarn);
            c.joined = joined;
            c.left.addAll(left);
            c.right.addAll(right);
            loops.forEach(l -> c.loops.add(l.copy()));
            runs.forEach(r -> c.runs.add(r.clone()));
            c.row = row;
            c.holes = holes;
            c.cables = cables;
            c.gaps = gaps;
            c.bound = bound;
            return c;
        }

        int total() {
            return left.size() + right.size();
        }

        void take(int yarnNeeded) {
            if (joined < 0 || yarn.get(joined) < yarnNeeded) {
                throw new IllegalStateException();
            }
            yarn.set(joined, yarn.get(joined) - yarnNeeded);
        }

        int made(int kind, int height, int worked, int yarnNeeded) {
            take(yarnNeeded);
            Loop l = new Loop();
            l.kind = kind;
            l.ball = joined;
            l.row = row;
            l.height = height;
            l.worked = worked;
            l.where = 1;
            loops.add(l);
            right.add(0, loops.size() - 1);
            for (int[] run : runs) {
                if (run[3] == 1 && run[2] < run[1]) {
                    run[2]++;
                }
            }
            return loops.size() - 1;
        }

        int offLeft(int where) {
            if (left.isEmpty()) {
                throw new IllegalStateException();
            }
            int loop = left.remove(0);
            loops.get(loop).where = where;
            return loop;
        }

        int work(boolean isPurl) {
            int loop = offLeft(2);
            return made(isPurl ? 2 : 1, loops.get(loop).height + 1, 1, 4);
        }

        int over() {
            if (total() >= 24) {
                throw new IllegalStateException();
            }
            holes++;
            return made(3, 1, 0, 3);
        }

        int together(int many, boolean isRight) {
            for (int i = 0; i < many; i++) {
                offLeft(2);
            }
            return made(isRight ? 5 : 4, 1, many, 5);
        }

        int slip() {
            int loop = offLeft(1);
            right.add(0, loop);
            return loop;
        }

        int cross(int a, int b) {
            if (left.size() < a + b) {
                throw new IllegalStateException();
            }
            List<Integer> crossed = new ArrayList<>(left.subList(a, a + b));
            crossed.addAll(left.subList(0, a));
            crossed.addAll(left.subList(a + b, left.size()));
            left = crossed;
            cables++;
            return left.get(0);
        }

        void step(char sign) {
            switch (sign) {
                case '1' -> work(false);
                case '2' -> work(true);
                case '3' -> over();
                case '4' -> together(2, false);
                case '5' -> together(2, true);
                case '6' -> slip();
                case '7' -> cross(1, 1);
                case '8' -> together(3, false);
                default -> {
                    work(false);
                    over();
                    work(false);
                }
            }
        }

        boolean looksSmooth(int loop) {
            Loop l = loops.get(loop);
            boolean smooth = l.kind == 1 || l.kind >= 3;
            return (l.row % 2 == row % 2) ? smooth : !smooth;
        }
    }

    private State now = new State();
    private final Deque<State> kept = new ArrayDeque<>();
    private final List<String> patterns = new ArrayList<>();
    private int followed;

    private interface Change {
        int on(State state);
    }

    private int change(Change change) {
        State next = now.copy();
        int answer = change.on(next);
        kept.addLast(now);
        if (kept.size() > 12) {
            kept.removeFirst();
        }
        now = next;
        return answer;
    }

    private static void argument(boolean isRight) {
        if (!isRight) {
            throw new IllegalArgumentException();
        }
    }

    private static void state(boolean isRight) {
        if (!isRight) {
            throw new IllegalStateException();
        }
    }

    private static void index(int index, int size) {
        if (index < 0 || index >= size) {
            throw new IndexOutOfBoundsException();
        }
    }

    public int buy(int length) {
        argument(length >= 1 && length <= 9999);
        state(now.yarn.size() < 4);
        now.yarn.add(length);
        return now.yarn.size() - 1;
    }

    public int join(int ball) {
        index(ball, now.yarn.size());
        int before = now.joined;
        now.joined = ball;
        return before;
    }

    public int cast(int many) {
        argument(many >= 1 && many <= 24);
        return change(s -> {
            for (int i = 0; i < many; i++) {
                state(s.total() < 24);
                s.made(0, 1, 0, 2);
            }
            return s.total();
        });
    }

    public int work(boolean isPurl) {
        return change(s -> s.work(isPurl));
    }

    public int over() {
        return change(State::over);
    }

    public int together(int many, boolean isRight) {
        argument(many == 2 || many == 3);
        return change(s -> s.together(many, isRight));
    }

    public int slip() {
        return change(State::slip);
    }

    public int cross(int first, int second) {
        argument(first >= 1 && first <= 3 && second >= 1 && second <= 3);
        return change(s -> s.cross(first, second));
    }

    public int turn() {
        return change(s -> {
            state(s.total() > 0);
            if (!s.left.isEmpty()) {
                s.gaps++;
            }
            List<Integer> was = s.left;
            s.left = s.right;
            s.right = was;
            s.left.forEach(l -> s.loops.get(l).where = 0);
            s.right.forEach(l -> s.loops.get(l).where = 1);
            s.row++;
            return s.left.size();
        });
    }

    public int bind(int many) {
        argument(many >= 1 && many <= 24);
        return change(s -> {
            for (int i = 0; i < many; i++) {
                state(s.right.size() > 1 || s.right.size() == 1 && s.left.isEmpty() && i == many - 1);
                if (s.right.size() == 1) {
                    s.take(6);
                }
                int loop = s.right.remove(s.right.size() == 1 ? 0 : 1);
                s.loops.get(loop).where = 3;
                s.bound++;
            }
            return s.total();
        });
    }

    public int drop() {
        return change(s -> {
            state(s.runs.size() < 9);
            int loop = s.offLeft(4);
            s.runs.add(new int[] {loop, s.loops.get(loop).height, 0, 1});
            return s.runs.size() - 1;
        });
    }

    public int latch(int run) {
        index(run, now.runs.size());
        return change(s -> {
            int[] r = s.runs.get(run);
            state(r[3] == 1 && s.total() < 24);
            r[3] = 0;
            s.left.add(0, r[0]);
            s.loops.get(r[0]).where = 0;
            return r[2];
        });
    }

    public int pattern(int steps) {
        argument(steps >= 1 && steps <= 999999999 && !Integer.toString(steps).contains("0"));
        state(patterns.size() < 6);
        patterns.add(Integer.toString(steps));
        return patterns.size() - 1;
    }

    private State after(State start, String steps) {
        State at = start.copy();
        followed = 0;
        while (!at.left.isEmpty() && followed < 99) {
            State next = at.copy();
            try {
                next.step(steps.charAt(followed % steps.length()));
            } catch (IllegalStateException e) {
                break;
            }
            at = next;
            followed++;
        }
        return at;
    }

    public int follow(int pattern) {
        index(pattern, patterns.size());
        state(!now.left.isEmpty());
        State next = after(now, patterns.get(pattern));
        kept.addLast(now);
        if (kept.size() > 12) {
            kept.removeFirst();
        }
        now = next;
        return followed;
    }

    public int undo() {
        state(!kept.isEmpty());
        State back = kept.removeLast();
        back.joined = now.joined;
        for (int ball = back.yarn.size(); ball < now.yarn.size(); ball++) {
            back.yarn.add(now.yarn.get(ball));
        }
        now = back.copy();
        return kept.size();
    }

    private List<Integer> needle(boolean isRight) {
        return isRight ? now.right : now.left;
    }

    public int on(boolean isRight, int place) {
        index(place, 24);
        return place < needle(isRight).size() ? needle(isRight).get(place) : -1;
    }

    public int ofLoop(int loop, int what) {
        index(loop, now.loops.size());
        argument(what >= 0 && what <= 5);
        Loop l = now.loops.get(loop);
        return new int[] {l.kind, l.ball, l.row, l.height, l.worked, l.where}[what];
    }

    public int ofRun(int run, int what) {
        index(run, now.runs.size());
        argument(what >= 0 && what <= 3);
        return now.runs.get(run)[what];
    }

    public String seen(boolean isRight) {
        String text = "";
        for (int loop : needle(isRight)) {
            Loop l = now.loops.get(loop);
            boolean sameSide = l.row % 2 == now.row % 2;
            text += switch (l.kind) {
                case 3 -> "o";
                case 4 -> sameSide ? "<" : ">";
                case 5 -> sameSide ? ">" : "<";
                default -> now.looksSmooth(loop) ? "v" : "-";
            };
        }
        return text;
    }

    public double width(boolean isRight) {
        List<Integer> row = needle(isRight);
        int eighths = 4 * row.size();
        for (int i = 0; i + 1 < row.size(); i++) {
            if (now.looksSmooth(row.get(i)) ^ now.looksSmooth(row.get(i + 1))) {
                eighths--;
            }
        }
        return eighths / 8.0;
    }

    public int many(int what) {
        argument(what >= 0 && what <= 15);
        int yarn = now.yarn.stream().mapToInt(y -> y).sum();
        int open = (int) now.runs.stream().filter(r -> r[3] == 1).count();
        return new int[] {
            now.yarn.size(), yarn, now.joined, now.left.size(), now.right.size(), now.row % 2, now.row,
            now.loops.size(), now.holes, now.cables, now.gaps, now.bound, now.runs.size(), open, patterns.size(),
            kept.size()
        }[what];
    }

    public int left(int ball) {
        index(ball, now.yarn.size());
        return now.yarn.get(ball);
    }

    public int ofPattern(int pattern, int what) {
        index(pattern, patterns.size());
        argument(what >= 0 && what <= 4);
        String steps = patterns.get(pattern);
        int eats = 0;
        int makes = 0;
        int yarn = 0;
        for (char sign : steps.toCharArray()) {
            State s = new State();
            s.yarn.add(100);
            s.joined = 0;
            for (int i = 0; i < 9; i++) {
                s.made(0, 1, 0, 2);
            }
            s.left = s.right;
            s.right = new ArrayList<>();
            s.step(sign);
            eats += 9 - s.left.size();
            makes += s.right.size();
            yarn += 82 - s.yarn.get(0);
        }
        return new int[] {Integer.parseInt(steps), steps.length(), eats, makes, yarn}[what];
    }

    public int would(int pattern) {
        index(pattern, patterns.size());
        return after(now, patterns.get(pattern)).total();
    }

    private static int sum(List<Integer> yarn) {
        return yarn.stream().mapToInt(y -> y).sum();
    }

    public int needs(int pattern) {
        index(pattern, patterns.size());
        return sum(now.yarn) - sum(after(now, patterns.get(pattern)).yarn);
    }

    public int best() {
        int best = -1;
        for (int p = patterns.size() - 1; p >= 0 && !now.left.isEmpty(); p--) {
            State end = after(now, patterns.get(p));
            boolean isWhole = end.left.isEmpty() && followed % patterns.get(p).length() == 0;
            if (isWhole && (best < 0 || needs(p) <= needs(best))) {
                best = p;
            }
        }
        return best;
    }

    public long digest() {
        List<Long> numbers = new ArrayList<>();
        for (int what = 0; what <= 15; what++) {
            numbers.add((long) many(what));
        }
        now.yarn.forEach(y -> numbers.add((long) y));
        for (List<Integer> row : List.of(now.left, now.right)) {
            for (int loop : row) {
                numbers.add((long) loop);
                for (int what = 0; what <= 5; what++) {
                    numbers.add((long) ofLoop(loop, what));
                }
            }
        }
        numbers.add((long) (8 * width(false)));
        numbers.add((long) (8 * width(true)));
        now.runs.forEach(r -> {
            for (int v : r) {
                numbers.add((long) v);
            }
        });
        for (int p = 0; p < patterns.size(); p++) {
            for (int what = 0; what <= 4; what++) {
                numbers.add((long) ofPattern(p, what));
            }
            numbers.add((long) would(p));
            numbers.add((long) needs(p));
        }
        numbers.add((long) best());
        long d = 58309;
        for (long v : numbers) {
            d = d * 31 + v;
        }
        return d;
    }
}
