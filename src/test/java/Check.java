import java.util.Objects;

/** Counts the answers that are not as due. */
final class Check {
    interface Call {
        Object on(Knitstead x);
    }

    private static int wrong = 0;
    private static int asked = 0;

    private Check() {
    }

    static void due(String what, Object due, Object got) {
        asked++;
        if (!Objects.equals(due, got)) {
            wrong++;
            System.out.println(what + " answered " + got + ", due is " + due);
        }
    }

    /** For a refused call between others. */
    static boolean isRefused(Knitstead x, Call call) {
        try {
            call.on(x);
            return false;
        } catch (RuntimeException e) {
            return true;
        }
    }

    /**
     * The call throws exactly that, and the work is no other afterwards. It asks little, as an object is good for 512
     * calls alone; Edge asks for all, of objects of its own.
     */
    static void refused(String what, Class<? extends RuntimeException> due, Knitstead x, Call call) {
        String before = brief(x);
        Object got;
        try {
            got = call.on(x);
        } catch (RuntimeException e) {
            got = e.getClass();
        }
        due(what, due, got);
        due(what + " changes nothing", before, brief(x));
    }

    static void badArgument(String what, Knitstead x, Call call) {
        refused(what, IllegalArgumentException.class, x, call);
    }

    static void badState(String what, Knitstead x, Call call) {
        refused(what, IllegalStateException.class, x, call);
    }

    static void badIndex(String what, Knitstead x, Call call) {
        refused(what, IndexOutOfBoundsException.class, x, call);
    }

    /** What tells most of the work in few calls. */
    static String brief(Knitstead x) {
        return x.digest() + " " + x.seen(false) + "/" + x.seen(true);
    }

    /** All that the questions answer, in words. */
    static String all(Knitstead x) {
        StringBuilder text = new StringBuilder();
        for (int what = 0; what <= 15; what++) {
            text.append(x.many(what)).append(' ');
        }
        for (int ball = 0; ball < x.many(0); ball++) {
            text.append("ball ").append(x.left(ball)).append(' ');
        }
        for (int place = 0; place < 24; place++) {
            text.append(x.on(false, place)).append('/').append(x.on(true, place)).append(' ');
        }
        rows(text, x.many(7), 6, x::ofLoop);
        rows(text, x.many(12), 4, x::ofRun);
        rows(text, x.many(14), 5, x::ofPattern);
        rows(text, x.many(14), 1, (pattern, none) -> x.would(pattern));
        rows(text, x.many(14), 1, (pattern, none) -> x.needs(pattern));
        text.append(x.seen(false)).append('/').append(x.seen(true)).append(' ');
        text.append(x.width(false)).append('/').append(x.width(true)).append(' ');
        return text.append(x.best()).append(' ').append(x.digest()).toString();
    }

    private interface Fact {
        int of(int row, int what);
    }

    private static void rows(StringBuilder text, int rows, int facts, Fact fact) {
        for (int row = 0; row < rows; row++) {
            for (int what = 0; what < facts; what++) {
                text.append(fact.of(row, what)).append(' ');
            }
        }
    }

    /** The document's rule, over the answers of the other calls. */
    static long digestOf(Knitstead x) {
        long d = 58309;
        for (int what = 0; what <= 15; what++) {
            d = d * 31 + x.many(what);
        }
        for (int ball = 0; ball < x.many(0); ball++) {
            d = d * 31 + x.left(ball);
        }
        for (int needle = 0; needle < 2; needle++) {
            for (int place = 0; place < x.many(3 + needle); place++) {
                int loop = x.on(needle == 1, place);
                d = d * 31 + loop;
                for (int what = 0; what <= 5; what++) {
                    d = d * 31 + x.ofLoop(loop, what);
                }
            }
        }
        d = d * 31 + (long) (8 * x.width(false));
        d = d * 31 + (long) (8 * x.width(true));
        for (int run = 0; run < x.many(12); run++) {
            for (int what = 0; what <= 3; what++) {
                d = d * 31 + x.ofRun(run, what);
            }
        }
        for (int pattern = 0; pattern < x.many(14); pattern++) {
            for (int what = 0; what <= 4; what++) {
                d = d * 31 + x.ofPattern(pattern, what);
            }
            d = d * 31 + x.would(pattern);
            d = d * 31 + x.needs(pattern);
        }
        return d * 31 + x.best();
    }

    static void end() {
        System.out.println(wrong == 0
            ? "all " + asked + " answers are as due"
            : wrong + " of " + asked + " answers are not as due");
        if (wrong != 0) {
            System.exit(1);
        }
    }
}
