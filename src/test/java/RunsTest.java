/** Promises 12, 13 and 19: drop, latch, ofRun. */
public final class RunsTest {
    private RunsTest() {
    }

    private static void dropping() {
        Knitstead x = Work.withYarn(9999);
        Check.badState("drop of nothing", x, k -> k.drop());
        x.cast(2);
        Check.badState("drop with all on right", x, k -> k.drop());
        x.turn();
        Check.due("drop", 0, x.drop());
        Check.due("a fresh run", "1 1 0 1", Work.run(x, 0));
        Check.due("the loop", "0 0 0 1 0 4", Work.loop(x, 1));
        Check.due("the rows", "0 | ", Work.rows(x));
        Check.due("runs, open ones", "1 1", x.many(12) + " " + x.many(13));
        x.drop();
        x.cast(7);
        x.turn();
        for (int run = 2; run < 9; run++) {
            Check.due("drop " + run, run, x.drop());
        }
        x.cast(1);
        x.turn();
        Check.badState("a tenth run", x, k -> k.drop());
        x.latch(8);
        Check.badState("a tenth run with one latched", x, k -> k.drop());
        x.undo();
        x.undo();
        x.undo();
        x.undo();
        Check.due("runs after undoing a drop", 8, x.many(12));
        Check.due("the ninth again", 8, x.drop());
    }

    private static void falling() {
        Knitstead x = Work.withLeft(6);
        for (int row = 0; row < 3; row++) {
            for (int i = 0; i < 6; i++) {
                x.work(false);
            }
            x.turn();
        }
        x.drop();
        Check.due("a deep run", "23 4 0 1", Work.run(x, 0));
        x.work(false);
        Check.due("fallen by a knit", 1, x.ofRun(0, 2));
        x.slip();
        x.cross(1, 1);
        Check.due("not by others", 1, x.ofRun(0, 2));
        x.over();
        Check.due("fallen by an over", 2, x.ofRun(0, 2));
        x.drop();
        Check.due("another starts at 0", "19 4 0 1", Work.run(x, 1));
        x.together(2, true);
        Check.due("fallen by together", "3 1", x.ofRun(0, 2) + " " + x.ofRun(1, 2));
        x.cast(2);
        Check.due("fallen by cast loops, to the depth", "4 3", x.ofRun(0, 2) + " " + x.ofRun(1, 2));
        x.latch(1);
        x.cast(1);
        Check.due("a latched one stays", "19 4 3 0", Work.run(x, 1));
    }

    private static void latching() {
        Knitstead x = Work.withLeft(4);
        Check.badIndex("latch of none", x, k -> k.latch(0));
        x.drop();
        x.work(true);
        Check.badIndex("latch(-1)", x, k -> k.latch(-1));
        Check.badIndex("latch(1)", x, k -> k.latch(1));
        Check.due("latch", 1, x.latch(0));
        Check.due("it is next on left", "3 1 0 | 4", Work.rows(x));
        Check.due("as it was", "0 0 0 1 0 0", Work.loop(x, 3));
        Check.due("no more open", "3 1 1 0", Work.run(x, 0));
        Check.due("runs, open ones", "1 0", x.many(12) + " " + x.many(13));
        Check.badState("latch again", x, k -> k.latch(0));
        Check.due("drop it again", 1, x.drop());
        Check.due("a run of its own", "3 1 0 1", Work.run(x, 1));
        Check.due("of an open run", 4, x.ofLoop(3, 5));
        Check.badState("the first stays latched", x, k -> k.latch(0));
        x.cast(21);
        Check.badState("latch with 24 loops", x, k -> k.latch(1));
        x.bind(1);
        Check.due("latch with 23 loops", 1, x.latch(1));
    }

    private static void asking() {
        Knitstead x = Work.withLeft(1);
        Check.badIndex("ofRun of none", x, k -> k.ofRun(0, 0));
        x.drop();
        Check.badArgument("ofRun(0, -1)", x, k -> k.ofRun(0, -1));
        Check.badArgument("ofRun(0, 4)", x, k -> k.ofRun(0, 4));
        Check.badIndex("ofRun(1, 0)", x, k -> k.ofRun(1, 0));
        Check.badIndex("ofRun(-1, 9)", x, k -> k.ofRun(-1, 9));
        x.undo();
        Check.badIndex("ofRun of an undone one", x, k -> k.ofRun(0, 0));
        Check.badIndex("latch of an undone one", x, k -> k.latch(0));
    }

    public static void main(String[] args) {
        dropping();
        falling();
        latching();
        asking();
        Check.end();
    }
}
