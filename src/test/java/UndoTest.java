/** Promises 27 to 29: undo, save, restore. */
final class UndoTest {
    private static final int BAD_VALUE = -2, NOT_POSSIBLE = -5, NONE = -6;

    public static void main(String[] args) {
        undoes();
        sixStates();
        undoOfEachChange();
        changesInTwos();
        undoOfContracts();
        chainsBehindUndo();
        errorsRecordNothing();
        saves();
        restores();
        undoOfRestore();
        settingsAreSaved();
        Check.end();
    }

    private static void undoes() {
        SlackMarket x = new SlackMarket();
        Check.is("none", x.undo(), NOT_POSSIBLE);
        x.task(0, 5, 9, 1, NONE);
        Check.is("one", x.undo(), 0);
        Check.is("no task", x.count(0), 0);
        Check.is("row", x.at(0, 0), NONE);
        Check.is("none", x.undo(), NOT_POSSIBLE);
        x.task(1, 6, 9, 1, NONE);
        Check.is("another one", x.ofTask(0, 5), 6);
        Check.is("changes", x.count(9), 1);
    }

    private static void sixStates() {
        SlackMarket x = new SlackMarket();
        for (int i = 0; i < 20; i++) {
            x.task(i % 4, i + 1, 0, 0, NONE);
            Check.is("changes", x.count(9), Math.min(i + 1, 6));
        }
        for (int left = 5; left >= 0; left--) {
            Check.is("undo", x.undo(), left);
            Check.is("tasks", x.count(0), 14 + left);
        }
        Check.is("no more", x.undo(), NOT_POSSIBLE);
        Check.is("tasks", x.count(0), 14);
        x.duration(0, 9);
        x.duration(0, 10);
        Check.is("undo", x.undo(), 1);
        Check.is("duration", x.ofTask(0, 1), 9);
        x.duration(0, 11);
        Check.is("undo", x.undo(), 1);
        Check.is("undo", x.undo(), 0);
        Check.is("duration", x.ofTask(0, 1), 1);
    }

    /** Each kind of change, with what it changes before and behind it and behind undo. */
    private static void undoOfEachChange() {
        SlackMarket x = new SlackMarket();
        x.task(0, 10, 100, 50, NONE);
        x.task(0, 10, 15, 50, NONE);
        x.set(0, 77);
        x.set(1, 7);
        Check.is("undo set", x.undo(), 3);
        Check.is("reach", x.count(11), 2);
        Check.is("refund", x.count(10), 77);
        x.duration(0, 20);
        x.undo();
        Check.is("duration", x.ofTask(0, 1), 10);
        Check.is("end", x.ofTask(1, 5), 20);
        x.move(0, 1);
        x.undo();
        Check.is("row", x.at(0, 0), 0);
        Check.is("end", x.ofTask(1, 5), 20);
        x.offer(0, 50, 3);
        x.offer(0, 60, 4);
        x.undo();
        Check.is("hours", x.ofTask(0, 9), 50);
        Check.is("price", x.ofTask(0, 10), 3);
        x.give(0, 1, 9);
        x.undo();
        Check.is("money", x.money(0), 50);
        Check.is("money", x.money(1), 50);
        x.trade();
        x.undo();
        Check.is("contracts", x.count(1), 0);
        Check.is("due", x.due(0), 100);
        Check.is("due", x.due(1), 15);
        Check.is("money", x.money(1), 50);
        Check.is("hours", x.ofTask(0, 9), 50);
        x.trade();
        x.duration(1, 1);
        x.refund(0, 5);
        x.undo();
        Check.is("hours of the contract", x.ofContract(0, 2), 5);
        Check.is("due", x.due(1), 20);
        Check.is("money", x.money(0), 65);
    }

    /** Each change is made twice and undone once, so that what is told belongs to the first of them. */
    private static void changesInTwos() {
        SlackMarket x = new SlackMarket();
        x.task(0, 10, 100, 50, NONE);
        x.task(0, 10, 0, 50, NONE);
        x.duration(0, 20);
        x.duration(0, 30);
        x.undo();
        Check.is("duration", x.ofTask(0, 1), 20);
        x.move(0, 1);
        x.move(0, 0);
        x.undo();
        Check.is("row", x.at(0, 0), 1);
        x.offer(0, 1, 0);
        x.offer(0, 2, 0);
        x.undo();
        Check.is("offer", x.ofTask(0, 9), 1);
        x.give(0, 1, 1);
        x.give(0, 1, 2);
        x.undo();
        Check.is("money", x.money(0), 49);
        x.set(0, 1);
        x.set(0, 2);
        x.undo();
        Check.is("setting", x.count(10), 1);
        x.offer(0, 4, 0);
        x.trade();
        x.offer(0, 1, 0);
        x.trade();
        x.undo();
        Check.is("contracts", x.count(1), 1);
        x.duration(1, 1);
        x.refund(0, 2);
        x.refund(0, 1);
        x.undo();
        Check.is("hours of the contract", x.ofContract(0, 2), 2);
        x.save(0);
        x.save(1);
        x.restore(0);
        x.duration(0, 5);
        x.restore(1);
        x.undo();
        Check.is("duration", x.ofTask(0, 1), 5);
        Texts.put(x, "d0=6");
        x.carryOut();
        Texts.put(x, "d0=7");
        x.carryOut();
        x.undo();
        Check.is("duration", x.ofTask(0, 1), 6);
    }

    private static void undoOfContracts() {
        SlackMarket x = new SlackMarket();
        x.task(0, 1, 0, 50, NONE);
        x.task(0, 1, 0, 50, NONE);
        x.task(0, 1, 100, 50, NONE);
        x.task(0, 1, 100, 50, NONE);
        x.offer(2, 1, 3);
        x.offer(3, 5, 4);
        Check.is("contracts", x.trade(), 3);
        x.undo();
        x.move(0, 1);
        x.offer(2, 2, 9);
        x.offer(3, 1, 8);
        Check.is("other contracts", x.trade(), 3);
        x.save(0);
        for (int i = 0; i < 4; i++) {
            x.undo();
        }
        x.trade();
        Check.is("seller", x.ofContract(0, 0), 2);
        Check.is("buyer", x.ofContract(2, 1), 0);
        x.restore(0);
        int[][] due = {{3, 0, 1, 8}, {2, 0, 1, 9}, {2, 1, 1, 9}};
        for (int contract = 0; contract < 3; contract++) {
            for (int what = 0; what < 4; what++) {
                Check.is("contract " + contract + " what " + what, x.ofContract(contract, what), due[contract][what]);
            }
        }
        x.undo();
        int[][] first = {{2, 1, 1, 3}, {3, 1, 1, 4}, {3, 0, 1, 4}};
        for (int contract = 0; contract < 3; contract++) {
            for (int what = 0; what < 4; what++) {
                Check.is("contract " + contract + " what " + what, x.ofContract(contract, what), first[contract][what]);
            }
        }
    }

    /** Slack and the longest chain go along the tasks in an order that undo has to bring back. */
    private static void chainsBehindUndo() {
        SlackMarket x = new SlackMarket();
        x.task(0, 1, 30, 0, NONE);
        x.task(0, 2, 20, 0, NONE);
        x.task(0, 3, 100, 0, NONE);
        x.move(2, 0);
        x.move(1, 0);
        Check.is("slack of 0", x.ofTask(0, 8), 24);
        Check.is("slack of 1", x.ofTask(1, 8), 18);
        Check.is("slack of 2", x.ofTask(2, 8), 24);
        x.undo();
        Check.is("slack of 0", x.ofTask(0, 8), 14);
        Check.is("slack of 1", x.ofTask(1, 8), 14);
        Check.is("slack of 2", x.ofTask(2, 8), 14);
        Check.is("chain", x.critical(), 7);
        x.undo();
        Check.is("slack of 0", x.ofTask(0, 8), 17);
        Check.is("slack of 1", x.ofTask(1, 8), 17);
        Check.is("slack of 2", x.ofTask(2, 8), 94);
        Check.is("chain", x.critical(), 7);
    }

    private static void errorsRecordNothing() {
        SlackMarket x = new SlackMarket();
        for (int i = 0; i < 8; i++) {
            x.task(0, i + 1, 0, 0, NONE);
        }
        x.set(5, 5);
        x.task(9, 1, 1, 1, NONE);
        x.duration(0, 0);
        x.move(0, 9);
        x.offer(0, -1, 0);
        x.refund(0, 1);
        x.give(0, 0, 1);
        x.carryOut();
        x.restore(0);
        x.restore(2);
        Check.is("changes", x.count(9), 6);
        for (int left = 5; left >= 0; left--) {
            Check.is("undo", x.undo(), left);
            Check.is("tasks", x.count(0), 2 + left);
        }
    }

    private static void saves() {
        SlackMarket x = new SlackMarket();
        Check.is("slot 2", x.save(2), BAD_VALUE);
        Check.is("slot -1", x.save(-1), BAD_VALUE);
        Check.is("slot MAX", x.save(Integer.MAX_VALUE), BAD_VALUE);
        Check.is("without tasks", x.save(0), 0);
        x.task(0, 1, 1, 1, NONE);
        Check.is("with one", x.save(1), 1);
        Check.is("no change", x.count(9), 1);
        Check.is("slot 0", x.restore(0), 0);
        Check.is("slot 1", x.restore(1), 1);
        x.task(0, 1, 1, 1, NONE);
        Check.is("overwritten", x.save(0), 2);
        x.undo();
        Check.is("slot 0", x.restore(0), 2);
    }

    private static void restores() {
        SlackMarket x = new SlackMarket();
        Check.is("slot 2", x.restore(2), BAD_VALUE);
        Check.is("slot -1", x.restore(-1), BAD_VALUE);
        Check.is("slot 0", x.restore(0), NOT_POSSIBLE);
        Check.is("slot 1", x.restore(1), NOT_POSSIBLE);
        x.task(0, 10, 100, 50, NONE);
        x.task(0, 10, 15, 50, NONE);
        x.offer(0, 7, 2);
        x.save(1);
        x.trade();
        x.move(0, 1);
        x.task(2, 1, 1, 1, 1);
        Texts.put(x, "x;");
        Check.is("slot 0 still", x.restore(0), NOT_POSSIBLE);
        for (int i = 0; i < 2; i++) {
            Check.is("restore", x.restore(1), 2);
            Check.is("contracts", x.count(1), 0);
            Check.is("due", x.due(1), 15);
            Check.is("money", x.money(0), 50);
            Check.is("offer", x.ofTask(0, 9), 7);
            Check.is("row", x.at(0, 0), 0);
            Check.is("end", x.ofTask(1, 5), 20);
            Check.is("machine 2", x.count(14), 0);
            Check.is("the pad stays", x.count(8), 2);
            x.duration(0, 99);
            x.give(0, 1, 3);
        }
    }

    private static void undoOfRestore() {
        SlackMarket x = new SlackMarket();
        x.save(0);
        x.task(0, 10, 100, 50, NONE);
        x.task(1, 10, 100, 50, NONE);
        x.restore(0);
        Check.is("changes", x.count(9), 3);
        Check.is("undo", x.undo(), 2);
        Check.is("tasks", x.count(0), 2);
        Check.is("the slot is kept", x.restore(0), 0);
        x.undo();
        x.undo();
        x.undo();
        Check.is("a slot outlasts undo", x.restore(0), 0);
    }

    private static void settingsAreSaved() {
        SlackMarket x = new SlackMarket();
        x.set(0, 10);
        x.set(1, 9);
        x.save(0);
        x.set(0, 20);
        x.set(1, 8);
        x.restore(0);
        Check.is("refund", x.count(10), 10);
        Check.is("reach", x.count(11), 9);
        x.undo();
        Check.is("refund", x.count(10), 20);
        Check.is("reach", x.count(11), 8);
    }
}
