/**
 * One sentence of the document about a bound: what a call answers just inside it, or that it is refused just outside.
 * Each row makes its objects anew, so that none of them comes to its 512th call.
 */
final class Edge {
    interface Begin {
        Knitstead make();
    }

    private Edge() {
    }

    private static Object answer(Knitstead x, Check.Call call) {
        try {
            return call.on(x);
        } catch (RuntimeException e) {
            return e.getClass();
        }
    }

    static void answers(String sentence, Object due, Begin begin, Check.Call call) {
        Check.due(sentence, due, answer(begin.make(), call));
    }

    /** What a question answers behind a call that changes something. */
    static void after(String sentence, Object due, Begin begin, Check.Call change, Check.Call question) {
        Knitstead x = begin.make();
        Object changed = answer(x, change);
        Check.due(sentence + ": done", true, !(changed instanceof Class));
        Check.due(sentence, due, answer(x, question));
    }

    /** One call, then another one, which answers. */
    static Check.Call both(Check.Call first, Check.Call second) {
        return x -> {
            first.on(x);
            return second.on(x);
        };
    }

    /** The call changes nothing that can be asked, and nothing that can be undone: an untouched twin tells. */
    static void changesNothing(String sentence, Object due, Begin begin, Check.Call call) {
        Knitstead x = begin.make();
        Knitstead twin = begin.make();
        Check.due(sentence, due, answer(x, call));
        Check.due(sentence + ": nothing is another", Check.all(twin), Check.all(x));
        Check.due(sentence + ": undo is not another", undone(twin), undone(x));
    }

    static void argument(String sentence, Begin begin, Check.Call call) {
        changesNothing(sentence, IllegalArgumentException.class, begin, call);
    }

    static void state(String sentence, Begin begin, Check.Call call) {
        changesNothing(sentence, IllegalStateException.class, begin, call);
    }

    static void index(String sentence, Begin begin, Check.Call call) {
        changesNothing(sentence, IndexOutOfBoundsException.class, begin, call);
    }

    /** What it answers as all is undone, one call after the other, and once more. */
    private static String undone(Knitstead x) {
        StringBuilder text = new StringBuilder();
        for (int i = 0; i <= 12; i++) {
            text.append(answer(x, k -> k.undo())).append(' ').append(x.digest()).append(' ');
        }
        return text.toString();
    }
}
