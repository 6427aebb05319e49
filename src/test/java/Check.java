import java.util.Objects;

/** Counts the answers that are not as due. */
final class Check {
    interface Call {
        Object on(Knitstead x);
    }

    private static int wrong = 0;
    private static int asked = 0;

    private Check() {
    }

    static void due(String what, Object due, Object got) {
        asked++;
        if (!Objects.equals(due, got)) {
            wrong++;
            System.out.println(what + " answered " + got + ", due is " + due);
        }
    }

    /** The call throws exactly that, and nothing that can be asked is another afterwards. */
    static void refused(String what, Class<? extends RuntimeException> due, Knitstead x, Call call) {
        String before = all(x);
        Object got;
        try {
            got = call.on(x);
        } catch (RuntimeException e) {
            got = e.getClass();
        }
        due(what, due, got);
        due(what + " changes nothing", before, all(x));
    }

    static void badArgument(String what, Knitstead x, Call call) {
        refused(what, IllegalArgumentException.class, x, call);
    }

    static void badState(String what, Knitstead x, Call call) {
        refused(what, IllegalStateException.class, x, call);
    }

    static void badIndex(String what, Knitstead x, Call call) {
        refused(what, IndexOutOfBoundsException.class, x, call);
    }

    /** All that the questions answer, in words. */
    static String all(Knitstead x) {
        StringBuilder text = new StringBuilder();
        for (int what = 0; what <= 15; what++) {
            text.append(x.many(what)).append(' ');
        }
        for (int ball = 0; ball < x.many(0); ball++) {
            text.append("ball ").append(x.left(ball)).append(' ');
        }
        for (int place = 0; place < 24; place++) {
            text.append(x.on(false, place)).append('/').append(x.on(true, place)).append(' ');
        }
        rows(text, x.many(7), 6, x::ofLoop);
        rows(text, x.many(12), 4, x::ofRun);
        rows(text, x.many(14), 5, x::ofPattern);
        rows(text, x.many(14), 1, (pattern, none) -> x.would(pattern));
        rows(text, x.many(14), 1, (pattern, none) -> x.needs(pattern));
        text.append(x.seen(false)).append('/').append(x.seen(true)).append(' ');
        text.append(x.width(false)).append('/').append(x.width(true)).append(' ');
        return text.append(x.best()).append(' ').append(x.digest()).toString();
    }

    private interface Fact {
        int of(int row, int what);
    }

    private static void rows(StringBuilder text, int rows, int facts, Fact fact) {
        for (int row = 0; row < rows; row++) {
            for (int what = 0; what < facts; what++) {
                text.append(fact.of(row, what)).append(' ');
            }
        }
    }

    static void end() {
        System.out.println(wrong == 0
            ? "all " + asked + " answers are as due"
            : wrong + " of " + asked + " answers are not as due");
        if (wrong != 0) {
            System.exit(1);
        }
    }
}
