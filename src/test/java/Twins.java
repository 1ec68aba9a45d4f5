import java.util.function.Supplier;

/** Two objects made alike, of which one gets a call more: whether that can be told from them ever after. */
final class Twins {
    interface Call {
        long on(SlackMarket x);
    }

    // Undo from 0 to 7 times, either slot, and the orders of the pad: what a call could have changed unseen.
    private static final int WAYS = 11;

    private Twins() {
    }

    /** The call gives the answer that is due, and nothing is different behind it. */
    static void leavesAll(String told, Supplier<SlackMarket> recipe, Call call, long due) {
        for (int way = 0; way < WAYS; way++) {
            SlackMarket with = recipe.get();
            SlackMarket without = recipe.get();
            Check.is(told, call.on(with), due);
            String what = told + ", looked at in way " + way;
            Check.is(what, goOn(with, way), goOn(without, way));
            Check.same(what, Dump.of(with), Dump.of(without));
        }
    }

    private static long goOn(SlackMarket x, int way) {
        if (way >= 8) {
            return way == 10 ? x.carryOut() : x.restore(way - 8);
        }
        long answers = 0;
        for (int i = 0; i < way; i++) {
            answers = answers * 10 + x.undo();
        }
        return answers;
    }
}
