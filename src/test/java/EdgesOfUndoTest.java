import java.util.function.Supplier;

/** The edges of promises 27 to 29: undo, save, restore. */
final class EdgesOfUndoTest {
    private static final int BAD_VALUE = -2, NOT_POSSIBLE = -5, NONE = -6;
    private static final int MIN = Integer.MIN_VALUE, MAX = Integer.MAX_VALUE;

    private static final String ORDERS = "t0/10<100$50;t0/10<15$50;t1/5<40$0^0;o0*7@2;x;d1=8;o2*9@4;t3/2<1$50^2";

    private interface Change {
        long of(SlackMarket x);
    }

    public static void main(String[] args) {
        noChange();
        sixAndNoMore();
        overAndOver();
        undoIsNoChange();
        alsoIfNothingIsDifferent();
        eachChangeIsTakenBack();
        padSlotsAndHistoryStay();
        ordersRecordNothing();
        callsThatAreNoChange();
        slots();
        savedLast();
        nothingSaved();
        restoreKeepsTheSlot();
        restoreIsAChange();
        restoreOfNothing();
        restoreOfAFullMarket();
        padAndHistoryAreNotSaved();
        Check.end();
    }

    private static void noChange() {
        SlackMarket x = new SlackMarket();
        Check.is("new", x.undo(), NOT_POSSIBLE);
        Check.is("new", x.count(9), 0);
        x.task(0, 1, 1, 1, NONE);
        Check.is("of one", x.undo(), 0);
        Check.is("of none", x.undo(), NOT_POSSIBLE);
        Check.is("of none", x.undo(), NOT_POSSIBLE);
        Check.is("nothing there", x.count(0), 0);
    }

    /** "A history of at most 6 states is kept"; "when one more is recorded, the oldest one is dropped" */
    private static void sixAndNoMore() {
        for (int changes = 1; changes <= 9; changes++) {
            SlackMarket x = new SlackMarket();
            x.task(0, 100, 0, 0, NONE);
            for (int i = 1; i < changes; i++) {
                x.duration(0, i);
            }
            int kept = Math.min(changes, 6);
            Check.is("changes that can be undone", x.count(9), kept);
            for (int left = kept - 1; left >= 0; left--) {
                Check.is("undo", x.undo(), left);
                Check.is("changes that can be undone", x.count(9), left);
                int before = changes - kept + left;
                Check.is("state", x.ofTask(0, 1), before == 0 ? -1 : before == 1 ? 100 : before - 1);
            }
            Check.is("no more", x.undo(), NOT_POSSIBLE);
            Check.is("tasks", x.count(0), changes <= 6 ? 0 : 1);
        }
    }

    /** The states of many changes and undos, in all their turns. */
    private static void overAndOver() {
        SlackMarket x = new SlackMarket();
        x.task(0, 1, 0, 0, NONE);
        int[] states = new int[512];
        int latest = 0;
        int kept = 1;
        states[0] = 1;
        for (int turn = 0; turn < 60; turn++) {
            for (int i = 0; i < turn % 9; i++) {
                latest++;
                states[latest] = 1 + (turn * 7 + i) % 100;
                Check.is("duration", x.duration(0, states[latest]), states[latest - 1]);
                kept = Math.min(kept + 1, 6);
            }
            for (int i = 0; i < turn % 5 && kept > 1 && latest > 0; i++) {
                latest--;
                kept--;
                Check.is("undo", x.undo(), kept);
                Check.is("state", x.ofTask(0, 1), states[latest]);
            }
            if (latest > 400) {
                break;
            }
        }
    }

    private static void undoIsNoChange() {
        SlackMarket x = new SlackMarket();
        x.task(0, 1, 0, 0, NONE);
        x.duration(0, 2);
        x.duration(0, 3);
        Check.is("undo", x.undo(), 2);
        Check.is("duration", x.ofTask(0, 1), 2);
        Check.is("undo of the one before, not of undo", x.undo(), 1);
        Check.is("duration", x.ofTask(0, 1), 1);
        x.duration(0, 9);
        Check.is("a change behind undo", x.count(9), 2);
        Check.is("undo", x.undo(), 1);
        Check.is("duration", x.ofTask(0, 1), 1);
        Check.is("undo", x.undo(), 0);
        Check.is("no task", x.count(0), 0);
    }

    private static SlackMarket sample() {
        SlackMarket x = new SlackMarket();
        Texts.put(x, ORDERS);
        x.carryOut();
        x.save(1);
        return x;
    }

    /** "records the state before it (also if nothing is different then)" */
    private static void alsoIfNothingIsDifferent() {
        Change[] changes = {x -> x.set(0, 50), x -> x.set(1, 2), x -> x.duration(0, 10), x -> x.move(1, 1),
            x -> x.offer(2, 9, 4), x -> x.offer(1, 0, 0), x -> x.offer(1, 0, 1000), x -> x.restore(1)};
        for (Change change : changes) {
            SlackMarket x = sample();
            String before = Dump.of(x).split("\n", 2)[1];
            for (int i = 0; i < 6; i++) {
                Check.holds("no error", change.of(x) >= 0);
                Check.is("changes", x.count(9), Math.min(i + 2, 6));
                x.wouldBuy(0, 0);
            }
            Check.same("nothing is different", Dump.of(x).split("\n", 2)[1], before);
            Check.is("the first one is out of reach", x.undo(), 5);
            for (int left = 4; left >= 0; left--) {
                x.undo();
            }
            Check.is("tasks", x.count(0), 4);
        }
        SlackMarket x = new SlackMarket();
        for (int i = 1; i <= 7; i++) {
            Check.is("a trade of nothing", x.trade(), 0);
            Check.is("changes", x.count(9), Math.min(i, 6));
        }
        Texts.put(x, "d0=1");
        Check.is("an order that fails", x.carryOut(), 0);
        Check.is("changes", x.count(9), 6);
    }

    /** "everything except the pad, the slots and the history is as it was before it" */
    private static void eachChangeIsTakenBack() {
        Change[] changes = {x -> x.set(0, 99), x -> x.set(1, 9), x -> x.task(2, 7, 7, 7, 3), x -> x.duration(0, 99),
            x -> x.move(0, 1), x -> x.move(1, 0), x -> x.offer(0, 500, 1000), x -> x.offer(2, 0, 0), x -> x.trade(),
            x -> x.refund(0, 1), x -> x.refund(0, 2), x -> x.give(0, 3, 17), x -> x.restore(0), x -> x.restore(1), x -> {
                Texts.put(x, "d0=9;o1*5@5;x;m0:1;t3/3<3$3;r0*1");
                return x.carryOut();
            }};
        for (Change change : changes) {
            Supplier<SlackMarket> recipe = () -> {
                SlackMarket x = new SlackMarket();
                x.task(3, 3, 3, 3, NONE);
                x.save(0);
                x.undo();
                Texts.put(x, ORDERS);
                x.carryOut();
                x.save(1);
                x.duration(1, 7);
                return x;
            };
            Twins.leavesAll("undone", recipe, x -> {
                String before = Dump.of(x);
                Check.holds("no error", change.of(x) >= 0);
                Check.is("changes", x.count(9), 3);
                Check.holds("something is different", !Dump.of(x).equals(before));
                return x.undo();
            }, 2);
        }
    }

    private static void padSlotsAndHistoryStay() {
        SlackMarket x = new SlackMarket();
        x.task(0, 1, 0, 0, NONE);
        x.duration(0, 2);
        x.save(0);
        Texts.put(x, "d0=77");
        Check.is("undo", x.undo(), 1);
        Check.is("the pad stays", x.count(8), 5);
        Check.is("undo", x.undo(), 0);
        Check.is("the pad stays", x.fault(), NONE);
        Check.is("the slot stays", x.restore(0), 1);
        Check.is("what was saved", x.ofTask(0, 1), 2);
        Check.is("carryOut", x.carryOut(), 1);
        Check.is("the orders", x.ofTask(0, 1), 77);
        Check.is("undo of carryOut", x.undo(), 1);
        Check.is("the pad is not filled again", x.count(8), 0);
        Check.is("undo of restore", x.undo(), 0);
        Check.is("no task", x.count(0), 0);
        Check.is("the slot stays", x.restore(0), 1);
    }

    /** "An order of a text records nothing by itself." */
    private static void ordersRecordNothing() {
        SlackMarket x = new SlackMarket();
        for (int i = 1; i <= 5; i++) {
            x.task(0, i, 0, 0, NONE);
        }
        Texts.put(x, "d0=2;d0=3;d0=4;d0=5;d0=6;d0=7;d0=8;d0=9");
        Check.is("eight orders", x.carryOut(), 8);
        Check.is("one change", x.count(9), 6);
        Check.is("undo", x.undo(), 5);
        Check.is("the duration before all of them", x.ofTask(0, 1), 1);
        for (int left = 4; left >= 0; left--) {
            Check.is("undo", x.undo(), left);
            Check.is("tasks", x.count(0), left);
        }
    }

    private static void callsThatAreNoChange() {
        SlackMarket x = sample();
        Check.is("save", x.save(0), 4);
        x.put('x');
        x.fault();
        x.wipe();
        x.wouldBuy(3, 0);
        x.leastMoney(3);
        x.endIf(0, 0, 1);
        x.bestPlace(0);
        x.critical();
        x.lateBehind();
        x.distance(0, 3);
        Check.is("changes", x.count(9), 1);
        Check.is("undo", x.undo(), 0);
        Check.is("tasks", x.count(0), 0);
    }

    /** "0 or 1 .. BAD_VALUE if there is no such slot" */
    private static void slots() {
        SlackMarket x = sample();
        for (int slot : new int[] {MIN, MIN + 1, NONE, -1, 2, 3, 32, MAX}) {
            Check.is("save " + slot, x.save(slot), BAD_VALUE);
            Check.is("restore " + slot, x.restore(slot), BAD_VALUE);
        }
        Check.is("save 0", x.save(0), 4);
        Check.is("save 1", x.save(1), 4);
        Check.is("restore 0", x.restore(0), 4);
        Check.is("restore 1", x.restore(1), 4);
    }

    /** "overwrites what was saved there"; "what was saved last" */
    private static void savedLast() {
        SlackMarket x = new SlackMarket();
        Check.is("no task", x.save(0), 0);
        x.task(0, 1, 0, 0, NONE);
        Check.is("one", x.save(1), 1);
        x.task(0, 2, 0, 0, NONE);
        Check.is("two", x.save(0), 2);
        x.task(0, 3, 0, 0, NONE);
        Check.is("the other slot", x.restore(1), 1);
        Check.is("the later one", x.restore(0), 2);
        Check.is("saved again", x.save(0), 2);
        x.undo();
        Check.is("less than before", x.save(0), 1);
        x.task(0, 4, 0, 0, NONE);
        Check.is("one task", x.restore(0), 1);
        Check.is("its duration", x.ofTask(0, 1), 1);
        Check.is("no task 1", x.ofTask(1, 0), -1);
    }

    private static void nothingSaved() {
        SlackMarket x = sample();
        Check.is("slot 0", x.restore(0), NOT_POSSIBLE);
        Check.is("slot 2", x.save(2), BAD_VALUE);
        Check.is("slot 0 still", x.restore(0), NOT_POSSIBLE);
        Check.is("slot 1", x.restore(1), 4);
        Check.is("slot 0 still", x.restore(0), NOT_POSSIBLE);
        x.undo();
        Check.is("undo fills no slot", x.restore(0), NOT_POSSIBLE);
        Check.is("save", x.save(0), 4);
        Check.is("slot 0", x.restore(0), 4);
    }

    /** "Restores what was saved last in a slot, which keeps it." */
    private static void restoreKeepsTheSlot() {
        SlackMarket x = sample();
        String[] lines = Dump.of(x).split("\n", 2);
        for (int i = 0; i < 2; i++) {
            x.set(0, 1);
            x.set(1, 1);
            x.task(0, 1, 0, 0, NONE);
            x.duration(0, 99);
            x.offer(1, 3, 0);
            x.trade();
            x.give(0, 1, 9);
            x.move(1, 0);
            Check.is("restore", x.restore(1), 4);
            Check.same("as it was saved", Dump.of(x).split("\n", 2)[1], lines[1]);
            Check.is("REFUND", x.count(10), 50);
            Check.is("REACH", x.count(11), 2);
        }
    }

    private static void restoreIsAChange() {
        SlackMarket x = new SlackMarket();
        x.save(0);
        x.task(0, 1, 0, 0, NONE);
        Check.is("restore", x.restore(0), 0);
        Check.is("changes", x.count(9), 2);
        Check.is("undo", x.undo(), 1);
        Check.is("the task is back", x.count(0), 1);
        for (int i = 0; i < 6; i++) {
            Check.is("restore", x.restore(0), 0);
        }
        Check.is("changes", x.count(9), 6);
        for (int left = 5; left >= 0; left--) {
            Check.is("undo", x.undo(), left);
            Check.is("tasks", x.count(0), left == 0 ? 1 : 0);
        }
        Check.is("undo", x.undo(), NOT_POSSIBLE);
    }

    private static void restoreOfNothing() {
        SlackMarket x = new SlackMarket();
        x.save(1);
        Texts.put(x, "t0/10<100$50;t0/10<15$50;o0*7@2;x");
        x.carryOut();
        Check.is("restore", x.restore(1), 0);
        for (int what = 0; what < 16; what++) {
            Check.is("count " + what, x.count(what), what == 9 ? 2 : what == 10 ? 50 : what == 11 ? 2 : 0);
        }
        Check.is("no row", x.at(0, 0), NONE);
        Check.is("a first task", x.task(0, 1, 5, 0, NONE), 0);
        Check.is("without an offer", x.ofTask(0, 9) + x.ofTask(0, 10), 0);
        Check.is("sold nothing", x.ofTask(0, 11), 0);
        Check.is("nothing behind it", x.ofTask(0, 13), 0);
    }

    private static void restoreOfAFullMarket() {
        SlackMarket x = new SlackMarket();
        x.save(0);
        for (int task = 0; task < 24; task++) {
            x.task(3, 1 + task, task == 23 ? 0 : 3000, task, NONE);
        }
        for (int i = 0; i < 40; i++) {
            x.offer(i % 23, 1, 0);
            x.trade();
        }
        Check.is("contracts", x.count(1), 40);
        Check.is("save", x.save(1), 24);
        Check.is("restore of nothing", x.restore(0), 0);
        Check.is("no contract", x.count(1), 0);
        Check.is("restore", x.restore(1), 24);
        Check.is("contracts", x.count(1), 40);
        for (int i = 0; i < 40; i++) {
            Check.is("seller", x.ofContract(i, 0), i % 23);
            Check.is("buyer", x.ofContract(i, 1), 23);
            Check.is("hours", x.ofContract(i, 2), 1);
        }
        for (int task = 0; task < 24; task++) {
            Check.is("end", x.ofTask(task, 5), (task + 1) * (task + 2) / 2);
            Check.is("money", x.money(task), task);
            Check.is("row", x.at(3, task), task);
        }
        Check.is("full", x.task(0, 1, 0, 0, NONE), -4);
        x.offer(0, 1, 0);
        Check.is("full", x.trade(), 0);
        x.undo();
        x.undo();
        x.undo();
        Check.is("undo of restore", x.count(0), 0);
        x.undo();
        Check.is("undo of restore", x.count(1), 40);
    }

    /** "Saves everything except the pad, the history and the slots" */
    private static void padAndHistoryAreNotSaved() {
        SlackMarket x = new SlackMarket();
        x.task(0, 1, 0, 0, NONE);
        Texts.put(x, "x;x");
        x.save(0);
        x.wipe();
        Texts.put(x, "d0=5");
        x.duration(0, 2);
        x.duration(0, 3);
        Check.is("restore", x.restore(0), 1);
        Check.is("the pad is as it is", x.count(8), 4);
        Check.is("the history is as it is, and one more", x.count(9), 4);
        x.save(1);
        x.duration(0, 9);
        Check.is("restore", x.restore(1), 1);
        Check.is("slot 0 stays", x.restore(0), 1);
        Check.is("carryOut", x.carryOut(), 1);
        Check.is("duration", x.ofTask(0, 1), 5);
    }
}
