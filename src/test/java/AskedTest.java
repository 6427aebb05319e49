/** Promises 17, 18, 20 to 22 and 28: on, ofLoop, seen, width, many, digest. */
public final class AskedTest {
    private AskedTest() {
    }

    private static void places() {
        Knitstead x = Work.withLeft(3);
        x.slip();
        Check.badIndex("on(true, -1)", x, k -> k.on(true, -1));
        Check.badIndex("on(false, 24)", x, k -> k.on(false, 24));
        Check.badIndex("on(false, greatest)", x, k -> k.on(false, Integer.MAX_VALUE));
        Check.due("on(false, 0)", 1, x.on(false, 0));
        Check.due("on(false, 1)", 0, x.on(false, 1));
        Check.due("on(false, 2)", -1, x.on(false, 2));
        Check.due("on(false, 23)", -1, x.on(false, 23));
        Check.due("on(true, 0)", 2, x.on(true, 0));
        Check.due("on(true, 1)", -1, x.on(true, 1));
        Knitstead full = Work.withLeft(24);
        Check.due("on(false, 23) of 24", 0, full.on(false, 23));
    }

    private static void loops() {
        Knitstead x = new Knitstead();
        Check.badIndex("ofLoop of none", x, k -> k.ofLoop(0, 0));
        x = Work.withLeft(7);
        Check.badIndex("ofLoop(7, 0)", x, k -> k.ofLoop(7, 0));
        Check.badIndex("ofLoop(-1, 0)", x, k -> k.ofLoop(-1, 0));
        Check.badIndex("ofLoop(7, 6)", x, k -> k.ofLoop(7, 6));
        Check.badArgument("ofLoop(0, 6)", x, k -> k.ofLoop(0, 6));
        Check.badArgument("ofLoop(0, -1)", x, k -> k.ofLoop(0, -1));
        x.work(false);
        x.drop();
        x.slip();
        x.slip();
        x.bind(1);
        Check.due("worked", 2, x.ofLoop(6, 5));
        Check.due("dropped", 4, x.ofLoop(5, 5));
        Check.due("bound off", 3, x.ofLoop(4, 5));
        Check.due("on right", 1, x.ofLoop(3, 5));
        Check.due("on left", 0, x.ofLoop(2, 5));
        x.turn();
        Check.due("on left by a turn", 0, x.ofLoop(3, 5));
        Check.due("on right by a turn", 1, x.ofLoop(2, 5));
        x.work(true);
        x.work(true);
        Check.due("a height of 2", 2, x.ofLoop(8, 3));
        Check.due("a height of 3", 3, x.ofLoop(9, 3));
        x.turn();
        x.together(2, false);
        x.turn();
        x.work(false);
        Check.due("a height of 2 over one that leans", "1 0 4 2 1 1", Work.loop(x, 11));
    }

    private static void seen() {
        Knitstead x = Work.withYarn(9999);
        Check.due("nothing", "", x.seen(false) + x.seen(true));
        x.cast(12);
        Check.due("cast ones from their side", "------------", x.seen(true));
        x.turn();
        Check.due("cast ones from the other", "vvvvvvvvvvvv", x.seen(false));
        x.work(false);
        x.work(true);
        x.over();
        x.together(2, false);
        x.together(2, true);
        x.together(3, false);
        x.together(3, true);
        Check.due("from their side", "><><o-v", x.seen(true));
        Check.due("what is left", "", x.seen(false));
        Check.due("its width", 3.5 - 2 * 0.125, x.width(true));
        x.turn();
        Check.due("from the other side", "<><>ov-", x.seen(false));
        Check.due("its width from the other side", 3.5 - 2 * 0.125, x.width(false));
        x.turn();
        Check.due("from their side again", "><><o-v", x.seen(true));
    }

    private static void widths() {
        Knitstead x = Work.withYarn(9999);
        Check.due("none", "0.0 0.0", x.width(false) + " " + x.width(true));
        x.cast(1);
        Check.due("one", 0.5, x.width(true));
        x.cast(23);
        Check.due("24 alike", 12.0, x.width(true));
        x.turn();
        x.pattern(12);
        x.follow(0);
        Check.due("24 by turns", 12 - 23 * 0.125, x.width(true));
        Check.due("the other needle", 0.0, x.width(false));
    }

    private static void widthOfOvers() {
        Knitstead x = Work.withLeft(2);
        x.work(true);
        x.over();
        Check.due("a purl and an over", 0.875, x.width(true));
        Check.due("the needles are apart", 0.5, x.width(false));
        x.turn();
        Check.due("from the other side", 0.875, x.width(false));
        Knitstead y = Work.withLeft(2);
        y.slip();
        y.over();
        Check.due("a cast one from behind and an over", 1.0, y.width(true));
        y.turn();
        Check.due("both from the other side", 1.0, y.width(false));
        y.slip();
        y.over();
        Check.due("overs of two rows", 1.375, y.width(true));
    }

    private static void numbers() {
        Knitstead x = Work.withLeft(10, 1000);
        Check.badArgument("many(-1)", x, k -> k.many(-1));
        Check.badArgument("many(16)", x, k -> k.many(16));
        x.buy(500);
        x.join(1);
        x.pattern(12);
        x.pattern(3);
        x.cross(1, 2);
        x.over();
        x.over();
        x.drop();
        x.drop();
        x.latch(0);
        x.work(false);
        x.bind(2);
        x.turn();
        int[] due = {2, 1470, 1, 1, 8, 0, 2, 13, 2, 1, 1, 2, 2, 1, 2, 11};
        for (int what = 0; what <= 15; what++) {
            Check.due("many(" + what + ")", due[what], x.many(what));
        }
        x.undo();
        x.undo();
        x.undo();
        x.undo();
        x.undo();
        x.undo();
        int[] then = {2, 1474, 1, 10, 2, 1, 1, 12, 2, 1, 0, 0, 0, 0, 2, 5};
        for (int what = 0; what <= 15; what++) {
            Check.due("many(" + what + ") then", then[what], x.many(what));
        }
    }

    private static void digests() {
        Knitstead x = new Knitstead();
        Check.due("digest of a new one", Check.digestOf(x), x.digest());
        x = Work.withLeft(9, 300);
        x.buy(20);
        x.pattern(12);
        x.pattern(893);
        x.pattern(6);
        Check.due("digest", Check.digestOf(x), x.digest());
        x.drop();
        x.work(true);
        x.over();
        x.together(2, false);
        x.drop();
        x.latch(0);
        long due = Check.digestOf(x);
        Check.due("digest of much", due, x.digest());
        Check.due("digest again", due, x.digest());
        x.bind(1);
        x.turn();
        Check.due("digest after a turn", Check.digestOf(x), x.digest());
    }

    public static void main(String[] args) {
        places();
        loops();
        seen();
        widths();
        widthOfOvers();
        numbers();
        digests();
        Check.end();
    }
}
