/** Promises 4 to 11: cast, work, over, together, slip, cross, turn, bind. */
public final class LoopsTest {
    private LoopsTest() {
    }

    private static void casting() {
        Knitstead bare = new Knitstead();
        Check.badArgument("cast(0)", bare, k -> k.cast(0));
        Check.badArgument("cast(25)", bare, k -> k.cast(25));
        Check.badArgument("cast(-1)", bare, k -> k.cast(-1));
        bare.buy(100);
        Check.badState("cast without a joined ball", bare, k -> k.cast(1));
        Knitstead x = Work.withYarn(50);
        Check.due("cast(3)", 3, x.cast(3));
        Check.due("cast on right", " | 2 1 0", Work.rows(x));
        Check.due("yarn of 3", 44, x.left(0));
        Check.due("a cast loop", "0 0 0 1 0 1", Work.loop(x, 0));
        Check.due("cast(21)", 24, x.cast(21));
        Check.due("yarn of 24", 2, x.left(0));
        Check.badState("a 25th loop", x, k -> k.cast(1));
        Check.badArgument("25 loops more", x, k -> k.cast(25));
        Knitstead poor = Work.withYarn(9);
        Check.badState("cast(5) of 9", poor, k -> k.cast(5));
        Check.due("cast(4) of 9", 4, poor.cast(4));
        Check.badState("cast(1) of 1", poor, k -> k.cast(1));
        Check.due("cast(4) of 8", 4, Work.withYarn(8).cast(4));
        Knitstead both = Work.withLeft(20);
        Check.badState("5 beside 20 on left", both, k -> k.cast(5));
        Check.due("4 beside 20 on left", 24, both.cast(4));
        Check.due("cast leaves left", 20, both.many(3));
        Check.due("cast in row 1", "0 0 1 1 0 1", Work.loop(both, 23));
    }

    private static void working() {
        Knitstead bare = Work.withYarn(8);
        Check.badState("work on nothing", bare, k -> k.work(false));
        bare.cast(1);
        Check.badState("knit with all on right", bare, k -> k.work(false));
        Check.badState("purl with all on right", bare, k -> k.work(true));
        bare.turn();
        Check.due("knit", 1, bare.work(false));
        Check.due("yarn of a knit", 2, bare.left(0));
        Check.due("a knit loop", "1 0 1 2 1 1", Work.loop(bare, 1));
        Check.due("the worked loop", "0 0 0 1 0 2", Work.loop(bare, 0));
        bare.turn();
        Check.badState("knit of 2", bare, k -> k.work(false));
        Check.badState("purl of 2", bare, k -> k.work(true));
        bare.buy(4);
        bare.join(1);
        Check.due("purl of 4", 2, bare.work(true));
        Check.due("a purl loop", "2 1 2 3 1 1", Work.loop(bare, 2));
        Check.due("yarn of a purl", 0, bare.left(1));
        Check.due("the other ball", 2, bare.left(0));
        Knitstead x = Work.withLeft(24);
        Check.due("work with 24 loops", 24, x.work(true));
        Check.due("first from the tip", 22, x.on(false, 0));
        Check.due("onto right", 24, x.on(true, 0));
    }

    private static void overs() {
        Knitstead bare = new Knitstead();
        Check.badState("over without a ball", bare, k -> k.over());
        Knitstead x = Work.withYarn(3);
        Check.due("over of 3, on bare needles", 0, x.over());
        Check.due("an over", "3 0 0 1 0 1", Work.loop(x, 0));
        Check.due("yarn of an over", 0, x.left(0));
        Check.due("holes", 1, x.many(8));
        x.buy(2);
        x.join(1);
        Check.badState("over of 2", x, k -> k.over());
        Knitstead many = Work.withLeft(20);
        many.cast(3);
        Check.due("over as the 24th", 23, many.over());
        Check.due("none is worked", "20 4", many.many(3) + " " + many.many(4));
        Check.badState("over as the 25th", many, k -> k.over());
        Check.due("holes still", 1, many.many(8));
    }

    private static void together() {
        Knitstead x = Work.withLeft(9, 38);
        Check.badArgument("together(1)", x, k -> k.together(1, true));
        Check.badArgument("together(4)", x, k -> k.together(4, false));
        Check.badArgument("together(-2)", x, k -> k.together(-2, false));
        Check.due("two to the left", 9, x.together(2, false));
        Check.due("it leans to the left", "4 0 1 1 2 1", Work.loop(x, 9));
        Check.due("yarn of two", 15, x.left(0));
        Check.due("three to the right", 10, x.together(3, true));
        Check.due("it leans to the right", "5 0 1 1 3 1", Work.loop(x, 10));
        Check.due("yarn of three", 10, x.left(0));
        Check.due("the rows", "3 2 1 0 | 10 9", Work.rows(x));
        Check.due("what was worked", "2 2 2 2 2", x.ofLoop(8, 5) + " " + x.ofLoop(7, 5) + " " + x.ofLoop(6, 5) + " "
            + x.ofLoop(5, 5) + " " + x.ofLoop(4, 5));
        x.slip();
        x.slip();
        Check.badState("three of two", x, k -> k.together(3, true));
        Check.badArgument("four of two", x, k -> k.together(4, true));
        Check.due("two of two, with yarn of 10", 11, x.together(2, true));
        Check.badState("two of none", x, k -> k.together(2, true));
        x.turn();
        Check.due("two with yarn of 5", 12, x.together(2, true));
        Check.badState("two with yarn of 0", x, k -> k.together(2, false));
        Knitstead poor = Work.withLeft(3, 10);
        Check.badState("three with yarn of 4", poor, k -> k.together(3, false));
    }

    private static void slipping() {
        Knitstead x = Work.withLeft(2, 4);
        Check.due("slip", 1, x.slip());
        Check.due("the rows", "0 | 1", Work.rows(x));
        Check.due("as it was", "0 0 0 1 0 1", Work.loop(x, 1));
        Check.due("slip without yarn", 0, x.slip());
        Check.due("the rows then", " | 0 1", Work.rows(x));
        Check.badState("slip with all on right", x, k -> k.slip());
        Check.badState("slip on a new one", new Knitstead(), k -> k.slip());
        Check.due("none was made", 2, x.many(7));
    }

    private static void crossing() {
        Knitstead x = Work.withLeft(7);
        Check.badArgument("cross(0, 1)", x, k -> k.cross(0, 1));
        Check.badArgument("cross(1, 0)", x, k -> k.cross(1, 0));
        Check.badArgument("cross(4, 1)", x, k -> k.cross(4, 1));
        Check.badArgument("cross(1, 4)", x, k -> k.cross(1, 4));
        Check.badArgument("cross(greatest)", x, k -> k.cross(Integer.MAX_VALUE, Integer.MAX_VALUE));
        Check.due("cross(1, 1)", 5, x.cross(1, 1));
        Check.due("1 and 1", "5 6 4 3 2 1 0 | ", Work.rows(x));
        Check.due("cross(1, 3)", 6, x.cross(1, 3));
        Check.due("1 and 3", "6 4 3 5 2 1 0 | ", Work.rows(x));
        Check.due("cross(3, 2)", 5, x.cross(3, 2));
        Check.due("3 and 2", "5 2 6 4 3 1 0 | ", Work.rows(x));
        Check.due("cross(3, 3)", 4, x.cross(3, 3));
        Check.due("3 and 3", "4 3 1 5 2 6 0 | ", Work.rows(x));
        Check.due("cables", 4, x.many(9));
        Check.due("none was worked", 7, x.many(7));
        x.slip();
        x.slip();
        Check.badState("3 and 3 of 5", x, k -> k.cross(3, 3));
        Check.badArgument("3 and 4 of 5", x, k -> k.cross(3, 4));
        Check.due("2 and 3 of 5", 2, x.cross(2, 3));
        Check.due("2 and 3", "2 6 0 1 5 | 3 4", Work.rows(x));
        Check.badState("1 and 1 of none", Work.withYarn(9), k -> k.cross(1, 1));
    }

    private static void turning() {
        Knitstead x = Work.withYarn(999);
        Check.badState("turn of nothing", x, k -> k.turn());
        x.cast(3);
        Check.due("turn", 3, x.turn());
        Check.due("the rows", "2 1 0 | ", Work.rows(x));
        Check.due("side, row, gaps", "1 1 0", x.many(5) + " " + x.many(6) + " " + x.many(10));
        x.work(false);
        Check.due("turn in the middle", 1, x.turn());
        Check.due("the rows then", "3 | 1 0", Work.rows(x));
        Check.due("where they are", "0 1", x.ofLoop(3, 5) + " " + x.ofLoop(1, 5));
        Check.due("side, row, gaps then", "0 2 1", x.many(5) + " " + x.many(6) + " " + x.many(10));
        x.slip();
        Check.due("turn at the end", 3, x.turn());
        Check.due("no gap", 1, x.many(10));
        x.slip();
        x.slip();
        Check.due("one before the end", 2, x.turn());
        Check.due("a gap by one loop", 2, x.many(10));
        x.undo();
        x.undo();
        x.undo();
        Check.due("turn at the start", 0, x.turn());
        Check.due("a gap", 2, x.many(10));
        Check.due("the rows at last", " | 3 1 0", Work.rows(x));
    }

    private static void binding() {
        Knitstead x = Work.withYarn(18);
        Check.badArgument("bind(0)", x, k -> k.bind(0));
        Check.badArgument("bind(25)", x, k -> k.bind(25));
        Check.badState("bind of nothing", x, k -> k.bind(1));
        x.cast(6);
        Check.due("bind(2)", 4, x.bind(2));
        Check.due("the second ones go", " | 5 2 1 0", Work.rows(x));
        Check.due("bound off", "0 0 0 1 0 3", Work.loop(x, 4));
        Check.due("how many", 2, x.many(11));
        Check.due("no yarn", 6, x.left(0));
        Check.badState("bind(5) of 4", x, k -> k.bind(5));
        Check.due("bind(4) of 4", 0, x.bind(4));
        Check.due("all of them", 6, x.many(11));
        Check.due("yarn of the last", 0, x.left(0));
        Check.due("the last", 3, x.ofLoop(5, 5));
        Check.badState("bind of no more", x, k -> k.bind(1));
        Knitstead poor = Work.withYarn(9);
        poor.cast(2);
        Check.badState("bind(2) of 2 with yarn of 5", poor, k -> k.bind(2));
        Check.due("bind(1) of 2 with yarn of 5", 1, poor.bind(1));
        Check.badState("bind(1) of 1 with yarn of 5", poor, k -> k.bind(1));
        poor.turn();
        Check.badState("bind with all on left", poor, k -> k.bind(1));
        Knitstead half = Work.withLeft(4);
        half.slip();
        half.slip();
        Check.badState("bind(2) of 2 with left", half, k -> k.bind(2));
        Check.due("bind(1) of 2 with left", 3, half.bind(1));
        Check.badState("bind(1) of 1 with left", half, k -> k.bind(1));
        Check.due("the rows", "1 0 | 2", Work.rows(half));
        Knitstead other = Work.withYarn(40);
        other.buy(6);
        other.cast(24 - 4);
        other.join(1);
        Check.due("bind(20) with another ball", 0, other.bind(20));
        Check.due("that one's yarn", 0, other.left(1));
        Knitstead full = Work.withYarn(54);
        full.cast(24);
        Check.due("bind(24) of 24", 0, full.bind(24));
    }

    private static void manyLoops() {
        Knitstead x = new Knitstead();
        for (int ball = 0; ball < 4; ball++) {
            x.buy(9999);
        }
        x.pattern(12);
        for (int round = 0; round < 90; round++) {
            x.join(round % 4);
            x.cast(24);
            x.turn();
            x.follow(0);
            x.bind(24);
        }
        Check.due("loops made", 90 * 48, x.many(7));
        Check.due("the first", "0 0 0 1 0 2", Work.loop(x, 0));
        Check.due("one of the middle", "2 2 43 2 1 3", Work.loop(x, 42 * 48 + 25));
        Check.due("the last", "2 1 90 2 1 3", Work.loop(x, 90 * 48 - 1));
        x.undo();
        x.undo();
        Check.due("the last cast one, again on left", "0 1 89 1 0 0", Work.loop(x, 89 * 48 + 23));
    }

    public static void main(String[] args) {
        casting();
        working();
        overs();
        together();
        slipping();
        crossing();
        turning();
        binding();
        manyLoops();
        Check.end();
    }
}
