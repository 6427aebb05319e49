/** Promises 1 to 3 and 23: a new object, buy, join, left. */
public final class YarnTest {
    private YarnTest() {
    }

    private static void newObject() {
        Knitstead x = new Knitstead();
        for (int what = 0; what <= 15; what++) {
            Check.due("new, many(" + what + ")", what == 2 ? -1 : 0, x.many(what));
        }
        Check.due("new, the needles", " | ", Work.rows(x));
        Check.due("new, best", -1, x.best());
        Knitstead other = Work.withLeft(3);
        Check.due("another object's work", 3, other.many(3));
        Check.due("a new object after it", 0, new Knitstead().many(3));
    }

    private static void buying() {
        Knitstead x = new Knitstead();
        Check.badArgument("buy(0)", x, k -> k.buy(0));
        Check.badArgument("buy(-1)", x, k -> k.buy(-1));
        Check.badArgument("buy(10000)", x, k -> k.buy(10000));
        Check.badArgument("buy(least)", x, k -> k.buy(Integer.MIN_VALUE));
        Check.badIndex("left(0) of none", x, k -> k.left(0));
        Check.due("buy(1)", 0, x.buy(1));
        Check.due("buy(9999)", 1, x.buy(9999));
        Check.due("buy(9999) again", 2, x.buy(9999));
        Check.due("buy(7)", 3, x.buy(7));
        Check.due("how many balls", 4, x.many(0));
        Check.due("yarn of all", 20006, x.many(1));
        Check.due("left(0)", 1, x.left(0));
        Check.due("left(3)", 7, x.left(3));
        Check.due("none is joined by buying", -1, x.many(2));
        Check.badIndex("left(4)", x, k -> k.left(4));
        Check.badIndex("left(-1)", x, k -> k.left(-1));
        Check.badState("a fifth ball", x, k -> k.buy(5));
        Check.badArgument("a fifth ball that is no ball", x, k -> k.buy(0));
    }

    private static void joining() {
        Knitstead x = new Knitstead();
        Check.badIndex("join(0) of none", x, k -> k.join(0));
        x.buy(50);
        x.buy(60);
        Check.badIndex("join(-1)", x, k -> k.join(-1));
        Check.badIndex("join(2)", x, k -> k.join(2));
        Check.due("join(1)", -1, x.join(1));
        Check.due("join(1) again", 1, x.join(1));
        Check.due("join(0)", 1, x.join(0));
        Check.due("the joined ball", 0, x.many(2));
        x.cast(3);
        x.join(1);
        x.cast(2);
        Check.due("yarn of the first", 44, x.left(0));
        Check.due("yarn of the second", 56, x.left(1));
        Check.due("yarn of all", 100, x.many(1));
        Check.due("a loop's ball", 0, x.ofLoop(2, 1));
        Check.due("a later loop's ball", 1, x.ofLoop(3, 1));
    }

    public static void main(String[] args) {
        newObject();
        buying();
        joining();
        Check.end();
    }
}
