/** Promises 10 to 15: ofTask, due, money, at, ofContract, count. */
final class WhatThereIsTest {
    private static final int NO_SUCH = -1, BAD_VALUE = -2, NONE = -6;
    private static final int MIN = Integer.MIN_VALUE, MAX = Integer.MAX_VALUE;

    public static void main(String[] args) {
        everyNumberOfATask();
        ofTaskErrors();
        slack();
        slackIsAtMost5000();
        followers();
        dueAndMoney();
        rows();
        contracts();
        counts();
        Check.end();
    }

    private static SlackMarket sample() {
        SlackMarket x = new SlackMarket();
        x.task(1, 5, 40, 7, NONE);
        x.task(1, 10, 12, 90, NONE);
        x.task(2, 4, 30, 0, 0);
        x.offer(0, 2, 9);
        x.offer(2, 9, 30);
        x.trade();
        return x;
    }

    private static void everyNumberOfATask() {
        SlackMarket x = sample();
        int[][] due = {
            {1, 5, NONE, 0, 0, 5, 0, 33, 0, 0, 0, 2, 0, 6},
            {1, 10, NONE, 1, 5, 15, 0, 0, 0, 0, 0, 0, 3, 0},
            {2, 4, 0, 0, 5, 9, 0, 20, 20, 8, 30, 1, 0, 0},
        };
        for (int task = 0; task < due.length; task++) {
            for (int what = 0; what < due[task].length; what++) {
                Check.is("ofTask(" + task + ", " + what + ")", x.ofTask(task, what), due[task][what]);
            }
        }
    }

    private static void ofTaskErrors() {
        SlackMarket x = sample();
        Check.is("what 14", x.ofTask(0, 14), BAD_VALUE);
        Check.is("what -1", x.ofTask(0, -1), BAD_VALUE);
        Check.is("what MIN", x.ofTask(0, MIN), BAD_VALUE);
        Check.is("task 3", x.ofTask(3, 14), NO_SUCH);
        Check.is("task -1", x.ofTask(-1, 0), NO_SUCH);
        Check.is("task NONE", x.ofTask(NONE, 0), NO_SUCH);
        Check.is("task MAX", x.ofTask(MAX, 0), NO_SUCH);
    }

    private static void slack() {
        SlackMarket x = new SlackMarket();
        x.task(0, 5, 100, 0, NONE);
        Check.is("of one", x.ofTask(0, 8), 95);
        x.task(0, 5, 30, 0, NONE);
        Check.is("of the first of two", x.ofTask(0, 8), 20);
        Check.is("of the last of two", x.ofTask(1, 8), 20);
        x = new SlackMarket();
        x.task(0, 5, 100, 0, NONE);
        x.task(0, 5, 30, 0, NONE);
        x.task(1, 8, 8, 0, NONE);
        x.task(1, 6, 22, 0, 0);
        x.task(2, 1, 17, 0, NONE);
        x.task(3, 2, 40, 0, 3);
        Check.is("by the row to 1, or by what is ahead to 3", x.ofTask(0, 8), 11);
        Check.is("of the last of a row", x.ofTask(1, 8), 20);
        Check.is("on its due time", x.ofTask(2, 8), 0);
        Check.is("of 3", x.ofTask(3, 8), 8);
        Check.is("nobody waits for it", x.ofTask(4, 8), 16);
        Check.is("of 5", x.ofTask(5, 8), 24);
        x.duration(3, 14);
        Check.is("by 3 just at its due time", x.ofTask(0, 8), 3);
        x.duration(3, 15);
        Check.is("a task is late", x.ofTask(4, 8), 0);
        Check.is("the others too", x.ofTask(0, 8), 0);
    }

    /** Task 0 sells early and buys late, twice; with all that it gets back it is due behind hour 5000. */
    private static void slackIsAtMost5000() {
        SlackMarket x = new SlackMarket();
        for (int task = 0; task < 24; task++) {
            x.task(0, 100, task == 1 || task == 2 ? 0 : 3000, 0, NONE);
        }
        sellEarlyAndBuyLate(x, 1, 3);
        sellEarlyAndBuyLate(x, 2, 9);
        Check.is("due", x.due(0), 2400);
        for (int task = 0; task < 24; task++) {
            x.duration(task, 1);
        }
        for (int contract = x.count(1) - 1; contract >= 0; contract--) {
            if (x.ofContract(contract, 0) == 0) {
                Check.is("refund", x.refund(contract, x.ofContract(contract, 2) - 30), 30);
                Check.is("slack", x.ofTask(0, 8), Math.min(x.due(0) - 24, 5000));
            }
        }
        Check.holds("due behind 5024", x.due(0) > 5024);
        Check.is("slack", x.ofTask(0, 8), 5000);
    }

    private static void sellEarlyAndBuyLate(SlackMarket x, int buyer, int firstSeller) {
        x.move(0, 0);
        x.move(buyer, 23);
        for (int i = 0; i < 5; i++) {
            x.offer(0, 500, 0);
            x.trade();
        }
        x.offer(0, 0, 0);
        x.move(0, 23);
        for (int i = 0; i < 5; i++) {
            x.offer(firstSeller + i, 500, 0);
        }
        x.trade();
        Check.is("as late as it can be", x.due(0), 2400);
    }

    private static void followers() {
        SlackMarket x = new SlackMarket();
        x.task(0, 1, 100, 0, NONE);
        x.task(0, 1, 100, 0, 0);
        x.task(1, 1, 100, 0, 0);
        x.task(2, 1, 100, 0, 0);
        x.task(0, 1, 100, 0, 2);
        Check.is("row and ahead", x.ofTask(0, 13), 2 + 4 + 8);
        Check.is("row alone", x.ofTask(1, 13), 16);
        Check.is("ahead alone", x.ofTask(2, 13), 16);
        Check.is("none", x.ofTask(4, 13), 0);
        x.move(4, 1);
        Check.is("another row", x.ofTask(0, 13), 2 + 4 + 8 + 16);
        Check.is("last now", x.ofTask(1, 13), 0);
    }

    private static void dueAndMoney() {
        SlackMarket x = sample();
        Check.is("due 0", x.due(0), 38);
        Check.is("due 1", x.due(1), 15);
        Check.is("due 2", x.due(2), 29);
        Check.is("due 3", x.due(3), NO_SUCH);
        Check.is("due -1", x.due(-1), NO_SUCH);
        Check.is("due MIN", x.due(MIN), NO_SUCH);
        Check.is("money 0", x.money(0), 25);
        Check.is("money 1", x.money(1), 42);
        Check.is("money 2", x.money(2), 30);
        Check.is("money 3", x.money(3), NO_SUCH);
        Check.is("money -1", x.money(-1), NO_SUCH);
        Check.is("money MAX", x.money(MAX), NO_SUCH);
    }

    private static void rows() {
        SlackMarket x = sample();
        Check.is("at(1, 0)", x.at(1, 0), 0);
        Check.is("at(1, 1)", x.at(1, 1), 1);
        Check.is("at(1, 2)", x.at(1, 2), NONE);
        Check.is("at(1, -1)", x.at(1, -1), NONE);
        Check.is("at(1, MAX)", x.at(1, MAX), NONE);
        Check.is("at(3, 24)", x.at(3, 24), NONE);
        Check.is("at(0, 0)", x.at(0, 0), NONE);
        Check.is("at(0, 24)", x.at(0, 24), NONE);
        Check.is("at(4, 0)", x.at(4, 0), NO_SUCH);
        Check.is("at(-1, 0)", x.at(-1, 0), NO_SUCH);
        Check.is("at(MIN, MIN)", x.at(MIN, MIN), NO_SUCH);
    }

    private static void contracts() {
        SlackMarket x = sample();
        int[][] due = {{0, 1, 2, 9}, {2, 1, 1, 30}};
        for (int contract = 0; contract < 2; contract++) {
            for (int what = 0; what < 4; what++) {
                Check.is("ofContract(" + contract + ", " + what + ")", x.ofContract(contract, what), due[contract][what]);
            }
        }
        Check.is("what 4", x.ofContract(0, 4), BAD_VALUE);
        Check.is("what -1", x.ofContract(0, -1), BAD_VALUE);
        Check.is("contract 2", x.ofContract(2, 9), NO_SUCH);
        Check.is("contract -1", x.ofContract(-1, 0), NO_SUCH);
        Check.is("contract MAX", x.ofContract(MAX, 0), NO_SUCH);
    }

    private static void counts() {
        SlackMarket x = sample();
        x.task(3, 50, 20, 1000, NONE);
        x.task(3, 50, 20, 1000, NONE);
        x.put(Texts.packed("hello"));
        int[] due = {5, 2, 1, 24, 110, 100, 2097, 3, 5, 6, 50, 2, 0, 2, 1, 2};
        for (int what = 0; what < due.length; what++) {
            Check.is("count(" + what + ")", x.count(what), due[what]);
        }
        Check.is("count(16)", x.count(16), BAD_VALUE);
        Check.is("count(-1)", x.count(-1), BAD_VALUE);
        Check.is("count(MIN)", x.count(MIN), BAD_VALUE);
        Check.is("count(MAX)", x.count(MAX), BAD_VALUE);
    }
}
