/** Promises 14, 15 and 24 to 27: pattern, follow, ofPattern, would, needs, best. */
public final class PatternsTest {
    private PatternsTest() {
    }

    private static void telling() {
        Knitstead x = new Knitstead();
        Check.badArgument("pattern(0)", x, k -> k.pattern(0));
        Check.badArgument("pattern(-1)", x, k -> k.pattern(-1));
        Check.badArgument("pattern(-11)", x, k -> k.pattern(-11));
        Check.badArgument("pattern(10)", x, k -> k.pattern(10));
        Check.badArgument("pattern(105)", x, k -> k.pattern(105));
        Check.badArgument("pattern(100000001)", x, k -> k.pattern(100000001));
        Check.badArgument("pattern(1000000000)", x, k -> k.pattern(1000000000));
        Check.badArgument("pattern(1111111111)", x, k -> k.pattern(1111111111));
        Check.badIndex("ofPattern of none", x, k -> k.ofPattern(0, 0));
        int[] steps = {1, 999999999, 123456789, 7, 66, 3};
        for (int i = 0; i < steps.length; i++) {
            Check.due("pattern(" + steps[i] + ")", i, x.pattern(steps[i]));
        }
        Check.due("how many", 6, x.many(14));
        Check.badState("a seventh", x, k -> k.pattern(5));
        Check.badArgument("a seventh that is none", x, k -> k.pattern(50));
        Check.due("steps 1", "1 1 1 1 4", Work.facts(x, 0));
        Check.due("steps 999999999", "999999999 9 18 27 99", Work.facts(x, 1));
        Check.due("steps 123456789", "123456789 9 12 10 37", Work.facts(x, 2));
        Check.due("steps 7", "7 1 0 0 0", Work.facts(x, 3));
        Check.due("steps 66", "66 2 2 2 0", Work.facts(x, 4));
        Check.due("steps 3", "3 1 0 1 3", Work.facts(x, 5));
        Check.badIndex("ofPattern(6, 0)", x, k -> k.ofPattern(6, 0));
        Check.badIndex("ofPattern(-1, 7)", x, k -> k.ofPattern(-1, 7));
        Check.badArgument("ofPattern(0, 5)", x, k -> k.ofPattern(0, 5));
        Check.badArgument("ofPattern(0, -1)", x, k -> k.ofPattern(0, -1));
    }

    private static void eachStep() {
        int[] eats = {0, 1, 1, 0, 2, 2, 1, 0, 3, 2};
        int[] makes = {0, 1, 1, 1, 1, 1, 1, 0, 1, 3};
        int[] yarn = {0, 4, 4, 3, 5, 5, 0, 0, 5, 11};
        for (int step = 1; step <= 9; step++) {
            Knitstead x = Work.withLeft(20);
            x.pattern(step);
            Check.due("facts of " + step, step + " 1 " + eats[step] + " " + makes[step] + " " + yarn[step],
                Work.facts(x, 0));
        }
    }

    /** How many steps were done, the rows, and the yarn that is left; would, needs and undo must agree with them. */
    private static String followed(int loops, int yarn, int steps) {
        Knitstead x = Work.withLeft(loops, yarn + 2 * loops);
        x.pattern(steps);
        String before = Check.brief(x);
        int would = x.would(0);
        int needs = x.needs(0);
        Check.due("would and needs of " + steps + " change nothing", before, Check.brief(x));
        int done = x.follow(0);
        String text = done + ": " + Work.rows(x) + ", " + x.left(0);
        Check.due("would(" + steps + ")", x.many(3) + x.many(4), would);
        Check.due("needs(" + steps + ")", yarn - x.left(0), needs);
        Check.due("undone at once", 2, x.undo());
        Check.due("as before " + steps, before, Check.brief(x));
        return text;
    }

    private static void following() {
        Check.due("knits", "3:  | 5 4 3, 88", followed(3, 100, 1));
        Check.due("again and again, to the middle", "3:  | 5 4 3, 88", followed(3, 100, 12));
        Check.due("till the yarn ends", "2: 0 | 4 3, 1", followed(3, 9, 1));
        Check.due("with just enough yarn", "3:  | 5 4 3, 0", followed(3, 12, 1));
        Check.due("slips without yarn", "3:  | 0 1 2, 0", followed(3, 0, 6));
        Check.due("slips, till a knit can not be", "1: 1 0 | 2, 3", followed(3, 3, 61));
        Check.due("no over behind the last", "3:  | 4 3 2, 89", followed(2, 100, 13));
        Check.due("overs ahead", "4:  | 5 4 3 2, 86", followed(2, 100, 31));
        Check.due("two together", "2: 0 | 6 5, 90", followed(5, 100, 4));
        Check.due("two together to the right", "2: 0 | 6 5, 90", followed(5, 100, 5));
        Check.due("three together", "2: 0 | 8 7, 90", followed(7, 100, 8));
        Check.due("three together of two", "0: 1 0 | , 100", followed(2, 100, 8));
        Check.due("crosses, 99 times", "99: 1 2 0 | , 0", followed(3, 0, 7));
        Check.due("crosses of two, 99 times", "99: 0 1 | , 0", followed(2, 0, 7));
        Check.due("two of two together to the right", "1:  | 2, 5", followed(2, 10, 5));
        Check.due("a cross of one", "0: 0 | , 9", followed(1, 9, 7));
        Check.due("a knit, an over and a knit", "2:  | 9 8 7 6 5 4, 78", followed(4, 100, 9));
        Check.due("none of three for one loop", "1: 0 | 5 4 3, 89", followed(3, 100, 9));
        Check.due("none of three for little yarn", "1: 1 0 | 6 5 4, 10", followed(4, 21, 9));
        Check.due("none of three at once", "0: 3 2 1 0 | , 10", followed(4, 10, 9));
        Check.due("three of just enough", "1:  | 4 3 2, 0", followed(2, 11, 9));
    }

    private static void followingFar() {
        Knitstead x = Work.withLeft(24);
        x.pattern(9);
        x.pattern(3);
        x.pattern(777777771);
        Check.due("a 9 with 24 loops", 0, x.follow(0));
        Check.due("an over with 24 loops", 0, x.follow(1));
        Check.due("these are kept, too", 4, x.many(15));
        Check.due("99 steps", 99, x.follow(2));
        Check.due("the cables of it", 88, x.many(9));
        Check.due("the loops of it", "13 11", x.many(3) + " " + x.many(4));
    }

    private static void followingToTheBrim() {
        Knitstead x = Work.withLeft(22);
        x.pattern(93);
        x.pattern(3);
        x.pattern(9);
        Check.due("till 24 loops", 2, x.follow(0));
        Check.due("the holes", 2, x.many(8));
        x.undo();
        Check.due("overs till 24", 2, x.follow(1));
        x.undo();
        x.over();
        Check.due("a 9 with 23 loops", 1, x.follow(2));
    }

    private static void kinds() {
        Knitstead x = Work.withLeft(12);
        x.pattern(123456789);
        Check.due("a pattern of all", 9, x.follow(0));
        Check.due("the rows", " | 20 19 18 17 5 16 15 14 13 12", Work.rows(x));
        Check.due("as one sees it", "vov<v><o-v", x.seen(true));
        Check.due("a knit", "1 0 1 2 1 1", Work.loop(x, 12));
        Check.due("a purl", "2 0 1 2 1 1", Work.loop(x, 13));
        Check.due("an over", "3 0 1 1 0 1", Work.loop(x, 14));
        Check.due("two to the left", "4 0 1 1 2 1", Work.loop(x, 15));
        Check.due("two to the right", "5 0 1 1 2 1", Work.loop(x, 16));
        Check.due("three to the left", "4 0 1 1 3 1", Work.loop(x, 17));
        Check.due("a cable", 1, x.many(9));
        Check.due("holes", 2, x.many(8));
    }

    private static void followRefused() {
        Knitstead x = new Knitstead();
        Check.badIndex("follow of none", x, k -> k.follow(0));
        Check.badIndex("would of none", x, k -> k.would(0));
        Check.badIndex("needs of none", x, k -> k.needs(0));
        x.pattern(3);
        Check.badState("follow on bare needles", x, k -> k.follow(0));
        Check.badIndex("follow(1) on bare needles", x, k -> k.follow(1));
        Check.badIndex("follow(-1)", x, k -> k.follow(-1));
        Check.badIndex("would(-1)", x, k -> k.would(-1));
        Check.badIndex("would(1)", x, k -> k.would(1));
        Check.badIndex("needs(-1)", x, k -> k.needs(-1));
        Check.badIndex("needs(1)", x, k -> k.needs(1));
        Check.due("would on bare needles", 0, x.would(0));
        x.buy(99);
        x.join(0);
        x.cast(4);
        Check.badState("follow with all on right", x, k -> k.follow(0));
        Check.due("would with all on right", 4, x.would(0));
        Check.due("needs with all on right", 0, x.needs(0));
    }

    private static void eachItsOwn() {
        Knitstead x = Work.withLeft(6, 500);
        x.pattern(1);
        x.pattern(8);
        x.pattern(93);
        x.pattern(6);
        Check.due("would of each", "6 2 11 6", x.would(0) + " " + x.would(1) + " " + x.would(2) + " " + x.would(3));
        Check.due("needs of each", "24 10 39 0", x.needs(0) + " " + x.needs(1) + " " + x.needs(2) + " " + x.needs(3));
        x.drop();
        Check.due("would one less", 5, x.would(0));
        Check.due("needs one less", 20, x.needs(0));
    }

    private static void falling() {
        Knitstead x = Work.withLeft(5);
        x.pattern(1);
        x.follow(0);
        x.turn();
        x.follow(0);
        x.turn();
        x.drop();
        x.pattern(9);
        x.follow(1);
        Check.due("fallen by each of its loops, to the depth", "14 3 3 1", Work.run(x, 0));
    }

    private static void best() {
        Knitstead x = Work.withLeft(4);
        Check.due("best of none", -1, x.best());
        x.pattern(1);
        Check.due("best of one", 0, x.best());
        x.pattern(13);
        x.pattern(4);
        x.pattern(31);
        x.pattern(44);
        Check.due("the least yarn, the smallest number", 2, x.best());
        x.pattern(6);
        Check.due("no yarn at all", 5, x.best());
        Check.due("nothing was changed", "3 2 1 0 | ", Work.rows(x));
        x.slip();
        x.slip();
        x.slip();
        x.slip();
        Check.due("best with left empty", -1, x.best());

        Knitstead poor = Work.withLeft(3, 6 + 11);
        poor.pattern(4);
        poor.pattern(1);
        Check.due("one stops, one lacks yarn", -1, poor.best());
        Knitstead odd = Work.withLeft(3);
        odd.pattern(12);
        Check.due("one ends midway", -1, odd.best());
        odd.pattern(14);
        odd.pattern(8);
        odd.pattern(888);
        Check.due("the one of least yarn", 2, odd.best());
        odd.drop();
        Check.due("with two loops", 0, odd.best());
    }

    private static void bestAndTheBound() {
        Knitstead x = Work.withLeft(2);
        x.pattern(7);
        x.pattern(76);
        Check.due("99 steps with loops on left", -1, x.best());
        x.pattern(1);
        x.pattern(11);
        x.pattern(2);
        Check.due("the first of the same yarn", 2, x.best());
        x.drop();
        Check.due("of one loop", 2, x.best());
    }

    public static void main(String[] args) {
        telling();
        eachStep();
        following();
        followingFar();
        followingToTheBrim();
        kinds();
        followRefused();
        eachItsOwn();
        falling();
        best();
        bestAndTheBound();
        Check.end();
    }
}
