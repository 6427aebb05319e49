/** Promise 16: undo. */
public final class UndoTest {
    private UndoTest() {
    }

    private static void takenBack(String what, Knitstead x, Check.Call call) {
        String before = Check.brief(x);
        int could = x.many(15);
        call.on(x);
        Check.due("kept after " + what, could + 1, x.many(15));
        Check.due("undo of " + what, could, x.undo());
        Check.due("as before " + what, before, Check.brief(x));
    }

    private static void eachCall() {
        takenBack("a first cast", Work.withYarn(9), k -> k.cast(4));
        Knitstead x = Work.withLeft(8, 200);
        x.pattern(149);
        x.drop();
        x.drop();
        x.slip();
        x.work(true);
        takenBack("cast", x, k -> k.cast(3));
        takenBack("knit", x, k -> k.work(false));
        takenBack("purl", x, k -> k.work(true));
        takenBack("over", x, k -> k.over());
        takenBack("together", x, k -> k.together(3, true));
        takenBack("slip", x, k -> k.slip());
        takenBack("cross", x, k -> k.cross(1, 3));
        takenBack("turn", x, k -> k.turn());
        takenBack("bind", x, k -> k.bind(1));
        takenBack("drop", x, k -> k.drop());
        takenBack("latch", x, k -> k.latch(1));
        takenBack("follow", x, k -> k.follow(0));
        for (int i = 0; i < 4; i++) {
            x.slip();
        }
        takenBack("bind of all", x, k -> k.bind(6));
    }

    private static void aFollowOfNoStep() {
        Knitstead x = Work.withLeft(1);
        x.pattern(7);
        takenBack("a follow of no step", x, k -> k.follow(0));
        x.follow(0);
        Check.due("it is the latest", 2, x.undo());
        Check.due("the turn stands", 1, x.many(6));
    }

    private static void whatStays() {
        Knitstead x = Work.withYarn(100);
        x.cast(5);
        x.buy(50);
        x.join(1);
        x.pattern(12);
        x.cast(3);
        x.join(0);
        x.buy(7);
        Check.due("undo the second cast", 1, x.undo());
        Check.due("its ball's yarn", "90 50 7", x.left(0) + " " + x.left(1) + " " + x.left(2));
        Check.due("the ball joined since", 0, x.many(2));
        x.join(2);
        Check.due("undo the first cast", 0, x.undo());
        Check.due("that ball's yarn", "100 50 7", x.left(0) + " " + x.left(1) + " " + x.left(2));
        Check.due("balls, joined, patterns", "3 2 1", x.many(0) + " " + x.many(2) + " " + x.many(14));
        Check.badState("undo of buy, join, pattern", x, k -> k.undo());
    }

    private static void numbersAgain() {
        Knitstead x = Work.withLeft(3);
        x.work(false);
        x.undo();
        Check.badIndex("an undone loop", x, k -> k.ofLoop(3, 0));
        Check.due("its number again", 3, x.over());
        Check.due("another kind", "3 0 1 1 0 1", Work.loop(x, 3));
        x.slip();
        x.bind(1);
        Check.due("bound off", 3, x.ofLoop(3, 5));
        x.undo();
        x.undo();
        Check.due("on right again", 1, x.ofLoop(3, 5));
        x.turn();
        x.work(true);
        Check.due("in the work, once bound off", 2, x.ofLoop(3, 5));
    }

    private static void theLatestTwelve() {
        Knitstead x = new Knitstead();
        Check.badState("undo of nothing", x, k -> k.undo());
        x = Work.withYarn(100);
        for (int i = 0; i < 14; i++) {
            x.cast(1);
            Check.due("kept", Math.min(12, i + 1), x.many(15));
        }
        for (int more = 11; more >= 0; more--) {
            Check.due("how many more", more, x.undo());
        }
        Check.due("the first two stand", 2, x.many(4));
        Check.badState("undo of one that is not kept", x, k -> k.undo());
        x.cast(1);
        Check.due("one more call", 0, x.undo());
        Check.badState("never those", x, k -> k.undo());
        Check.due("the first two still stand", 2, x.many(4));
    }

    private static void refusedOnesAreNotKept() {
        Knitstead x = Work.withLeft(2);
        Check.badState("a refused cross", x, k -> k.cross(3, 3));
        Check.badState("a refused bind", x, k -> k.bind(1));
        Check.due("undo takes the turn", 1, x.undo());
        Check.due("undone", 0, x.many(6));
    }

    public static void main(String[] args) {
        eachCall();
        aFollowOfNoStep();
        whatStays();
        numbersAgain();
        theLatestTwelve();
        refusedOnesAreNotKept();
        Check.end();
    }
}
