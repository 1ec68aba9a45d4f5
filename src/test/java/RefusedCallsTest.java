import java.util.function.Supplier;

/**
 * CONVENTIONS: errors are named in the order in which they are checked, and a call that returns an error changes
 * nothing: neither what there is, nor the history, the slots or the pad. Questions change nothing either.
 */
final class RefusedCallsTest {
    private static final int NO_SUCH = -1, BAD_VALUE = -2, BAD_TEXT = -3, TOO_MANY = -4, NOT_POSSIBLE = -5, NONE = -6;
    private static final int MIN = Integer.MIN_VALUE, MAX = Integer.MAX_VALUE;
    private static final int[] NO_TASK = {-1, 4, 24, 31, 32, MIN, MAX, NONE};

    public static void main(String[] args) {
        set();
        task();
        duration();
        move();
        offer();
        refund();
        give();
        put();
        carryOut();
        undo();
        save();
        restore();
        questionsThatAreRefused();
        questions();
        firstErrorOfSeveral();
        Check.end();
    }

    /** Six states in the history, other ones in the slots, a contract of 4 hours, a late task, and orders in the pad. */
    private static SlackMarket busy() {
        SlackMarket x = new SlackMarket();
        x.task(0, 10, 100, 50, NONE);
        x.task(0, 10, 15, 50, NONE);
        x.task(1, 5, 40, 0, 0);
        x.offer(0, 7, 2);
        x.save(0);
        x.trade();
        x.duration(1, 8);
        x.save(1);
        x.move(1, 0);
        x.set(SlackMarket.REFUND, 70);
        x.give(0, 1, 3);
        x.refund(0, 1);
        x.offer(2, 9, 4);
        x.task(3, 2, 1, 5, 2);
        Texts.put(x, "d0=11;x;o1*5@3");
        return x;
    }

    private static SlackMarket withFullRow() {
        SlackMarket x = new SlackMarket();
        for (int i = 0; i < 24; i++) {
            x.task(i / 6, i + 1, 10 * i, i, NONE);
        }
        return x;
    }

    private static void refused(String told, Supplier<SlackMarket> recipe, Twins.Call call, long error) {
        Check.holds(told + " has an error that is one", error >= NOT_POSSIBLE && error <= NO_SUCH);
        Twins.leavesAll(told, recipe, call, error);
    }

    private static void set() {
        int[][] wrong = {{-1, 5}, {2, 5}, {MIN, 5}, {MAX, 5}, {0, -1}, {0, 101}, {0, MIN}, {0, MAX}, {1, 0}, {1, 10},
            {1, -1}, {1, MIN}, {1, MAX}};
        for (int[] a : wrong) {
            refused("set " + a[0] + " " + a[1], RefusedCallsTest::busy, x -> x.set(a[0], a[1]), BAD_VALUE);
        }
    }

    private static void task() {
        int[][] noSuch = {{-1, 5, 5, 5, NONE}, {4, 5, 5, 5, NONE}, {MIN, 5, 5, 5, NONE}, {MAX, 5, 5, 5, NONE},
            {0, 5, 5, 5, -1}, {0, 5, 5, 5, -2}, {0, 5, 5, 5, -5}, {0, 5, 5, 5, -7}, {0, 5, 5, 5, 4}, {0, 5, 5, 5, 24},
            {0, 5, 5, 5, MIN}, {0, 5, 5, 5, MAX}};
        for (int[] a : noSuch) {
            refused("task of what is not there", RefusedCallsTest::busy, x -> x.task(a[0], a[1], a[2], a[3], a[4]), NO_SUCH);
        }
        int[][] badValue = {{0, 0, 5, 5, NONE}, {0, 101, 5, 5, NONE}, {0, MIN, 5, 5, NONE}, {0, MAX, 5, 5, NONE},
            {0, 5, -1, 5, NONE}, {0, 5, 3001, 5, NONE}, {0, 5, MIN, 5, NONE}, {0, 5, MAX, 5, NONE},
            {0, 5, 5, -1, 0}, {0, 5, 5, 100001, 0}, {0, 5, 5, MIN, 0}, {0, 5, 5, MAX, 0}};
        for (int[] a : badValue) {
            refused("task out of range", RefusedCallsTest::busy, x -> x.task(a[0], a[1], a[2], a[3], a[4]), BAD_VALUE);
        }
        Supplier<SlackMarket> full = () -> {
            SlackMarket x = new SlackMarket();
            for (int i = 0; i < 24; i++) {
                x.task(i % 4, 1, i, 1, NONE);
            }
            return x;
        };
        SlackMarket one = full.get();
        SlackMarket other = full.get();
        Check.is("task 24", one.task(0, 1, 1, 1, NONE), TOO_MANY);
        Check.same("task 24", Dump.of(one), Dump.of(other));
        Check.is("undo", one.undo(), 5);
        Check.is("tasks", one.count(0), 23);
    }

    private static void duration() {
        for (int task : NO_TASK) {
            refused("duration of " + task, RefusedCallsTest::busy, x -> x.duration(task, 5), NO_SUCH);
        }
        for (int hours : new int[] {0, -1, 101, MIN, MAX}) {
            refused("duration " + hours, RefusedCallsTest::busy, x -> x.duration(1, hours), BAD_VALUE);
        }
    }

    private static SlackMarket waiting() {
        SlackMarket x = new SlackMarket();
        x.task(0, 3, 50, 9, NONE);
        x.task(0, 4, 50, 9, 0);
        x.task(1, 5, 50, 9, 1);
        x.task(0, 6, 50, 9, 2);
        x.save(0);
        x.task(1, 2, 50, 9, NONE);
        x.save(1);
        Texts.put(x, "m4:0");
        return x;
    }

    private static void move() {
        for (int task : NO_TASK) {
            refused("move of " + task, RefusedCallsTest::busy, x -> x.move(task, 0), NO_SUCH);
        }
        for (int place : new int[] {-1, 2, 3, 24, MIN, MAX}) {
            refused("move to " + place + " of two", RefusedCallsTest::busy, x -> x.move(1, place), NO_SUCH);
        }
        refused("move to 1 of one", RefusedCallsTest::busy, x -> x.move(2, 1), NO_SUCH);
        int[][] never = {{0, 1}, {0, 2}, {1, 0}, {1, 2}, {3, 0}, {3, 1}};
        for (int[] a : never) {
            refused("move " + a[0] + " to " + a[1], RefusedCallsTest::waiting, x -> x.move(a[0], a[1]), NOT_POSSIBLE);
        }
    }

    private static void offer() {
        for (int task : NO_TASK) {
            refused("offer of " + task, RefusedCallsTest::busy, x -> x.offer(task, 5, 5), NO_SUCH);
        }
        int[][] wrong = {{-1, 5}, {501, 5}, {MIN, 5}, {MAX, 5}, {5, -1}, {5, 1001}, {5, MIN}, {5, MAX}, {0, -1}, {0, 1001}};
        for (int[] a : wrong) {
            refused("offer " + a[0] + " at " + a[1], RefusedCallsTest::busy, x -> x.offer(2, a[0], a[1]), BAD_VALUE);
        }
    }

    private static void refund() {
        for (int contract : new int[] {-1, 1, 39, 40, MIN, MAX, NONE}) {
            refused("refund of " + contract, RefusedCallsTest::busy, x -> x.refund(contract, 1), NO_SUCH);
        }
        for (int hours : new int[] {0, -1, 5, 500, 501, MIN, MAX}) {
            refused("refund of hours " + hours, RefusedCallsTest::busy, x -> x.refund(0, hours), BAD_VALUE);
        }
        Supplier<SlackMarket> tight = () -> {
            SlackMarket x = busy();
            x.duration(1, 17);
            return x;
        };
        refused("refund late by 1", tight, x -> x.refund(0, 3), NOT_POSSIBLE);
        Supplier<SlackMarket> poor = () -> {
            SlackMarket x = busy();
            x.give(0, 1, x.money(0));
            return x;
        };
        refused("refund without money", poor, x -> x.refund(0, 1), NOT_POSSIBLE);
    }

    private static void give() {
        for (int task : NO_TASK) {
            refused("give from " + task, RefusedCallsTest::busy, x -> x.give(task, 0, 1), NO_SUCH);
            refused("give to " + task, RefusedCallsTest::busy, x -> x.give(0, task, 1), NO_SUCH);
        }
        refused("give to itself", RefusedCallsTest::busy, x -> x.give(1, 1, 1), NO_SUCH);
        for (int amount : new int[] {0, -1, 100001, MIN, MAX}) {
            refused("give " + amount, RefusedCallsTest::busy, x -> x.give(0, 1, amount), BAD_VALUE);
        }
        refused("give 1 of nothing", RefusedCallsTest::busy, x -> x.give(2, 1, 1), NOT_POSSIBLE);
        refused("give 6 of 5", RefusedCallsTest::busy, x -> x.give(3, 0, 6), NOT_POSSIBLE);
        refused("give 100000 of little", RefusedCallsTest::busy, x -> x.give(0, 1, 100000), NOT_POSSIBLE);
    }

    private static void put() {
        long[] wrong = {0, ' ', 127, 128, 255, -1, Long.MIN_VALUE, Long.MAX_VALUE, ';' << 8, ';' << 16 | 'x', ' ' << 8 | 'x',
            'x' << 8 | ' ', 1L << 56 | ';'};
        for (long characters : wrong) {
            refused("put " + characters, RefusedCallsTest::busy, x -> x.put(characters), BAD_VALUE);
        }
        Supplier<SlackMarket> full = () -> {
            SlackMarket x = busy();
            Texts.put(x, ";x".repeat(33));
            return x;
        };
        Check.is("full", full.get().count(8), 80);
        refused("put one more", full, x -> x.put(';'), TOO_MANY);
        refused("put eight more", full, x -> x.put(Texts.packed(";x;x;x;x")), TOO_MANY);
        Supplier<SlackMarket> nearlyFull = () -> {
            SlackMarket x = busy();
            Texts.put(x, ";x".repeat(32) + ";");
            return x;
        };
        Check.is("nearly full", nearlyFull.get().count(8), 79);
        refused("put two more", nearlyFull, x -> x.put(Texts.packed("x;")), TOO_MANY);
    }

    private static void carryOut() {
        Supplier<SlackMarket> empty = () -> {
            SlackMarket x = busy();
            x.wipe();
            return x;
        };
        refused("carryOut of nothing", empty, x -> x.carryOut(), BAD_TEXT);
        for (String end : new String[] {";", ";y", "^", ";d0", ";d0=100000", ";x;"}) {
            Supplier<SlackMarket> faulty = () -> {
                SlackMarket x = busy();
                Texts.put(x, end);
                return x;
            };
            refused("carryOut of a text that ends in " + end, faulty, x -> x.carryOut(), BAD_TEXT);
        }
    }

    private static void undo() {
        Supplier<SlackMarket> atTheBeginning = () -> {
            SlackMarket x = busy();
            while (x.undo() > 0) {
                continue;
            }
            return x;
        };
        refused("undo without history", atTheBeginning, x -> x.undo(), NOT_POSSIBLE);
        refused("undo of a new one", SlackMarket::new, x -> x.undo(), NOT_POSSIBLE);
    }

    private static void save() {
        for (int slot : new int[] {-1, 2, MIN, MAX, NONE}) {
            refused("save " + slot, RefusedCallsTest::busy, x -> x.save(slot), BAD_VALUE);
        }
    }

    private static void restore() {
        for (int slot : new int[] {-1, 2, MIN, MAX, NONE}) {
            refused("restore " + slot, RefusedCallsTest::busy, x -> x.restore(slot), BAD_VALUE);
        }
        for (int slot = 0; slot < 2; slot++) {
            int empty = slot;
            Supplier<SlackMarket> half = () -> {
                SlackMarket x = new SlackMarket();
                x.task(0, 5, 5, 5, NONE);
                x.save(1 - empty);
                x.duration(0, 9);
                return x;
            };
            refused("restore of nothing", half, x -> x.restore(empty), NOT_POSSIBLE);
        }
    }

    private static void questionsThatAreRefused() {
        for (int task : NO_TASK) {
            for (int what : new int[] {-1, 0, 2, 8, 13, 14}) {
                refused("ofTask", RefusedCallsTest::busy, x -> x.ofTask(task, what), NO_SUCH);
                refused("wouldBuy", RefusedCallsTest::busy, x -> x.wouldBuy(task, what), NO_SUCH);
            }
            refused("due", RefusedCallsTest::busy, x -> x.due(task), NO_SUCH);
            refused("money", RefusedCallsTest::busy, x -> x.money(task), NO_SUCH);
            refused("distance from", RefusedCallsTest::busy, x -> x.distance(task, 0), NO_SUCH);
            refused("distance to", RefusedCallsTest::busy, x -> x.distance(0, task), NO_SUCH);
            refused("distance of none to itself", RefusedCallsTest::busy, x -> x.distance(task, task), NO_SUCH);
            refused("leastMoney", RefusedCallsTest::busy, x -> x.leastMoney(task), NO_SUCH);
            refused("endIf of", RefusedCallsTest::busy, x -> x.endIf(task, 0, 5), NO_SUCH);
            refused("endIf by", RefusedCallsTest::busy, x -> x.endIf(0, task, 5), NO_SUCH);
            refused("bestPlace", RefusedCallsTest::busy, x -> x.bestPlace(task), NO_SUCH);
        }
        for (int what : new int[] {-1, 14, 15, 16, MIN, MAX}) {
            refused("ofTask what " + what, RefusedCallsTest::busy, x -> x.ofTask(0, what), BAD_VALUE);
            refused("wouldBuy what " + what, RefusedCallsTest::busy, x -> x.wouldBuy(3, what), BAD_VALUE);
            refused("ofContract what " + what, RefusedCallsTest::busy, x -> x.ofContract(0, what), BAD_VALUE);
        }
        refused("wouldBuy what 3", RefusedCallsTest::busy, x -> x.wouldBuy(3, 3), BAD_VALUE);
        refused("ofContract what 4", RefusedCallsTest::busy, x -> x.ofContract(0, 4), BAD_VALUE);
        for (int what : new int[] {-1, 16, 17, MIN, MAX}) {
            refused("count what " + what, RefusedCallsTest::busy, x -> x.count(what), BAD_VALUE);
        }
        for (int hours : new int[] {0, -1, 101, MIN, MAX}) {
            refused("endIf hours " + hours, RefusedCallsTest::busy, x -> x.endIf(1, 0, hours), BAD_VALUE);
        }
        for (int none : new int[] {-1, 4, MIN, MAX, NONE}) {
            refused("at machine " + none, RefusedCallsTest::busy, x -> x.at(none, 0), NO_SUCH);
            refused("ofContract " + none, RefusedCallsTest::busy, x -> x.ofContract(none, 0), NO_SUCH);
        }
    }

    /** Questions that are answered; what ifs most of all try out what must not be seen behind them. */
    private static void questions() {
        Supplier<SlackMarket> busy = RefusedCallsTest::busy;
        for (int what = 0; what < 14; what++) {
            int number = what;
            Twins.leavesAll("ofTask " + what, busy, x -> x.ofTask(1, number), busy.get().ofTask(1, what));
        }
        for (int what = 0; what < 3; what++) {
            int number = what;
            Twins.leavesAll("wouldBuy " + what, busy, x -> x.wouldBuy(3, number), new int[] {2, 4, 1}[what]);
        }
        Twins.leavesAll("due", busy, x -> x.due(1), 19);
        Twins.leavesAll("money", busy, x -> x.money(1), 44);
        Twins.leavesAll("at", busy, x -> x.at(0, 0), 1);
        Twins.leavesAll("at nothing", busy, x -> x.at(0, 2), NONE);
        Twins.leavesAll("distance", busy, x -> x.distance(1, 3), 3);
        Twins.leavesAll("leastMoney", busy, x -> x.leastMoney(3), NONE);
        Twins.leavesAll("leastMoney of one that is not late", busy, x -> x.leastMoney(1), 0);
        Twins.leavesAll("endIf", busy, x -> x.endIf(3, 1, 100), 117);
        Twins.leavesAll("bestPlace", busy, x -> x.bestPlace(0), 0);
        Twins.leavesAll("critical", busy, x -> x.critical(), 15);
        Twins.leavesAll("lateBehind", busy, x -> x.lateBehind(), 22);
        Twins.leavesAll("fault", busy, x -> x.fault(), NONE);
    }

    /** "it names its errors in the order in which they are checked, and the first one that applies is returned" */
    private static void firstErrorOfSeveral() {
        SlackMarket full = withFullRow();
        Check.is("task: machine, value, 24 tasks", full.task(4, 0, -1, -1, NONE), NO_SUCH);
        Check.is("task: ahead, value, 24 tasks", full.task(0, 101, 3001, 100001, 24), NO_SUCH);
        Check.is("task: machine, 24 tasks", full.task(-1, 1, 1, 1, NONE), NO_SUCH);
        Check.is("task: ahead, 24 tasks", full.task(0, 1, 1, 1, -1), NO_SUCH);
        Check.is("task: duration, 24 tasks", full.task(0, 0, 1, 1, NONE), BAD_VALUE);
        Check.is("task: due, 24 tasks", full.task(0, 1, 3001, 1, NONE), BAD_VALUE);
        Check.is("task: money, 24 tasks", full.task(0, 1, 1, -1, 23), BAD_VALUE);
        Check.is("task: 24 tasks", full.task(0, 1, 1, 1, 23), TOO_MANY);
        SlackMarket x = busy();
        Check.is("task: machine, value", x.task(4, 0, 1, 1, NONE), NO_SUCH);
        Check.is("task: ahead, value", x.task(0, 1, -1, 1, 4), NO_SUCH);
        Check.is("duration: task, hours", x.duration(4, 0), NO_SUCH);
        Check.is("move: task, place", x.move(4, -1), NO_SUCH);
        Check.is("offer: task, hours, price", x.offer(-1, 501, 1001), NO_SUCH);
        Check.is("refund: contract, hours", x.refund(1, 501), NO_SUCH);
        x.duration(1, 60);
        Check.is("refund: hours, late", x.refund(0, 5), BAD_VALUE);
        x.give(0, 2, x.money(0));
        Check.is("refund: hours, late, money", x.refund(0, 0), BAD_VALUE);
        Check.is("refund: late, money", x.refund(0, 1), NOT_POSSIBLE);
        Check.is("give: giver, amount", x.give(4, 0, 0), NO_SUCH);
        Check.is("give: taker, amount, money", x.give(0, 4, 100001), NO_SUCH);
        Check.is("give: same, amount", x.give(1, 1, 0), NO_SUCH);
        Check.is("give: same, money", x.give(0, 0, 1), NO_SUCH);
        Check.is("give: amount, money", x.give(0, 1, 100001), BAD_VALUE);
        Check.is("ofTask: task, what", x.ofTask(4, 14), NO_SUCH);
        Check.is("ofContract: contract, what", x.ofContract(1, 4), NO_SUCH);
        Check.is("wouldBuy: task, what", x.wouldBuy(4, 3), NO_SUCH);
        Check.is("endIf: task, hours", x.endIf(4, 0, 0), NO_SUCH);
        Check.is("endIf: changed, hours", x.endIf(0, 4, 101), NO_SUCH);
        Check.is("at: machine, no place", x.at(4, -1), NO_SUCH);
        Texts.put(x, ";x".repeat(33));
        Check.is("put: code, length", x.put(Texts.packed("x x")), BAD_VALUE);
        Check.is("put: no character, length", x.put(0), BAD_VALUE);
        Check.is("put: length", x.put('x'), TOO_MANY);
        Check.is("restore: slot, nothing saved", new SlackMarket().restore(2), BAD_VALUE);
    }
}
