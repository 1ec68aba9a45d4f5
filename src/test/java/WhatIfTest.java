/** Promises 16 to 22: distance, wouldBuy, leastMoney, endIf, bestPlace, critical, lateBehind. */
final class WhatIfTest {
    private static final int NO_SUCH = -1, BAD_VALUE = -2, NONE = -6;
    private static final int MIN = Integer.MIN_VALUE, MAX = Integer.MAX_VALUE;

    public static void main(String[] args) {
        distances();
        wouldBuys();
        wouldBuyAlone();
        leastMoneys();
        leastMoneyAndContracts();
        endsIf();
        bestPlaces();
        bestPlaceIsPossible();
        criticals();
        lateBehinds();
        nothingChanges();
        Check.end();
    }

    private static void distances() {
        SlackMarket x = new SlackMarket();
        x.task(0, 1, 100, 0, NONE);
        x.task(1, 1, 100, 0, 0);
        x.task(2, 1, 100, 0, 1);
        x.task(2, 1, 100, 0, NONE);
        x.task(3, 1, 100, 0, NONE);
        Check.is("itself", x.distance(0, 0), 0);
        Check.is("ahead", x.distance(0, 1), 1);
        Check.is("behind", x.distance(1, 0), 1);
        Check.is("two links", x.distance(0, 2), 2);
        Check.is("three links", x.distance(3, 0), 3);
        Check.is("no way", x.distance(0, 4), NONE);
        Check.is("no way back", x.distance(4, 2), NONE);
        Check.is("no task 5", x.distance(0, 5), NO_SUCH);
        Check.is("no task -1", x.distance(-1, 0), NO_SUCH);
        Check.is("no tasks", x.distance(MAX, MIN), NO_SUCH);
        Check.is("not even itself", x.distance(5, 5), NO_SUCH);
        x.task(3, 1, 100, 0, 0);
        Check.is("a way now", x.distance(4, 3), 5);
        x.task(0, 1, 100, 0, NONE);
        Check.is("any two of a machine", x.distance(0, 6), 1);
    }

    private static void wouldBuys() {
        SlackMarket x = new SlackMarket();
        x.task(0, 10, 100, 0, NONE);
        x.task(0, 10, 0, 35, NONE);
        x.task(0, 10, 100, 0, NONE);
        x.offer(0, 5, 4);
        x.offer(2, 500, 2);
        Check.is("hours", x.wouldBuy(1, 0), 17);
        Check.is("cost", x.wouldBuy(1, 1), 34);
        Check.is("sellers", x.wouldBuy(1, 2), 4);
        x.offer(2, 10, 2);
        Check.is("hours of two", x.wouldBuy(1, 0), 13);
        Check.is("cost of two", x.wouldBuy(1, 1), 32);
        Check.is("two sellers", x.wouldBuy(1, 2), 5);
        Check.is("not late", x.wouldBuy(0, 0) + x.wouldBuy(0, 1) + x.wouldBuy(0, 2), 0);
        Check.is("what 3", x.wouldBuy(1, 3), BAD_VALUE);
        Check.is("what -1", x.wouldBuy(1, -1), BAD_VALUE);
        Check.is("task 3", x.wouldBuy(3, 3), NO_SUCH);
        Check.is("task -1", x.wouldBuy(-1, 0), NO_SUCH);
        x.trade();
        Check.is("contracts of before do not count", x.wouldBuy(1, 2), 0);
    }

    /** In a trade the task that is later takes the hours; alone each could have them. */
    private static void wouldBuyAlone() {
        SlackMarket x = new SlackMarket();
        x.task(0, 10, 14, 0, NONE);
        x.task(0, 10, 10, 100, NONE);
        x.task(0, 10, 25, 100, NONE);
        x.offer(0, 4, 1);
        Check.is("of the later one", x.wouldBuy(1, 0), 4);
        Check.is("of the other one", x.wouldBuy(2, 0), 4);
        Check.is("least money of the other one", x.leastMoney(2), NONE);
        Check.is("late behind", x.lateBehind(), 11);
        x.duration(2, 8);
        Check.is("least money of the other one", x.leastMoney(2), 3);
        Check.is("one trades", x.trade(), 1);
        Check.is("the later one", x.ofContract(0, 1), 1);
    }

    private static void leastMoneys() {
        SlackMarket x = new SlackMarket();
        x.task(0, 10, 100, 0, NONE);
        x.task(0, 10, 0, 100000, NONE);
        x.task(0, 10, 100, 0, NONE);
        Check.is("not late", x.leastMoney(0), 0);
        Check.is("no offer", x.leastMoney(1), NONE);
        x.offer(0, 19, 1000);
        Check.is("an hour too few", x.leastMoney(1), NONE);
        x.offer(0, 20, 1000);
        Check.is("all of it", x.leastMoney(1), 20000);
        x.offer(2, 500, 999);
        Check.is("cheaper", x.leastMoney(1), 19980);
        x.offer(2, 5, 0);
        Check.is("some for nothing", x.leastMoney(1), 15000);
        x.offer(0, 500, 0);
        Check.is("for nothing", x.leastMoney(1), 0);
        Check.is("task 3", x.leastMoney(3), NO_SUCH);
        Check.is("task -1", x.leastMoney(-1), NO_SUCH);
        x.offer(0, 20, 1000);
        x.offer(2, 0, 0);
        x.give(1, 0, 100000);
        Check.is("more than it has", x.leastMoney(1), 20000);
        Check.is("buys nothing", x.wouldBuy(1, 0), 0);
        x.give(0, 1, 20000);
        Check.is("buys all", x.wouldBuy(1, 0), 20);
        x.give(1, 0, 1);
        Check.is("buys all but one", x.wouldBuy(1, 0), 19);
    }

    private static void leastMoneyAndContracts() {
        SlackMarket x = new SlackMarket();
        x.task(0, 10, 3000, 0, NONE);
        x.task(0, 100, 0, 0, NONE);
        x.task(0, 10, 3000, 0, NONE);
        for (int i = 0; i < 39; i++) {
            x.offer(0, 1, 0);
            x.trade();
        }
        Check.is("late yet", x.ofTask(1, 6), 71);
        x.offer(0, 71, 9);
        Check.is("one contract does", x.leastMoney(1), 639);
        x.offer(2, 1, 8);
        Check.is("two would be needed", x.leastMoney(1), NONE);
        x.offer(2, 1, 10);
        Check.is("one does again", x.leastMoney(1), 639);
    }

    private static void endsIf() {
        SlackMarket x = new SlackMarket();
        x.task(0, 5, 100, 0, NONE);
        x.task(0, 6, 100, 0, NONE);
        x.task(1, 7, 100, 0, 0);
        Check.is("of the row", x.endIf(1, 0, 100), 106);
        Check.is("of what is behind", x.endIf(2, 0, 1), 8);
        Check.is("of itself", x.endIf(2, 2, 9), 14);
        Check.is("of another one", x.endIf(0, 1, 50), 5);
        Check.is("as it is", x.ofTask(1, 5), 11);
        Check.is("hours 0", x.endIf(0, 0, 0), BAD_VALUE);
        Check.is("hours 101", x.endIf(0, 0, 101), BAD_VALUE);
        Check.is("task 3", x.endIf(3, 0, 0), NO_SUCH);
        Check.is("changed 3", x.endIf(0, 3, 0), NO_SUCH);
        Check.is("task -1", x.endIf(-1, 0, 5), NO_SUCH);
        Check.is("changed -1", x.endIf(0, NONE, 5), NO_SUCH);
    }

    private static void bestPlaces() {
        SlackMarket x = new SlackMarket();
        x.task(0, 10, 40, 0, NONE);
        x.task(0, 20, 20, 0, NONE);
        x.task(0, 10, 30, 0, NONE);
        Check.is("behind the others", x.bestPlace(0), 2);
        Check.is("ahead of the others", x.bestPlace(1), 0);
        Check.is("the lowest of several", x.bestPlace(2), 0);
        x.duration(1, 1);
        Check.is("its own place", x.bestPlace(0), 0);
        Check.is("its own place", x.bestPlace(2), 2);
        Check.is("the row is as it was", x.at(0, 1), 1);
        Check.is("task 3", x.bestPlace(3), NO_SUCH);
        Check.is("task -1", x.bestPlace(-1), NO_SUCH);
        x.task(1, 1, 0, 0, NONE);
        Check.is("alone", x.bestPlace(3), 0);
    }

    /** Task 2 waits for task 0 by task 1, so place 0 is none for it, though it would be the best. */
    private static void bestPlaceIsPossible() {
        SlackMarket x = new SlackMarket();
        x.task(0, 10, 1000, 0, NONE);
        x.task(1, 10, 1000, 0, 0);
        x.task(0, 10, 0, 0, 1);
        x.task(0, 1, 1000, 0, NONE);
        Check.is("not ahead of what it waits for", x.bestPlace(2), 1);
        Check.is("not behind what waits for it", x.bestPlace(0), 0);
        x.duration(3, 30);
        Check.is("anywhere", x.bestPlace(3), 2);
    }

    private static void criticals() {
        SlackMarket x = new SlackMarket();
        x.task(3, 7, 9, 0, NONE);
        Check.is("one task", x.critical(), 1);
        Check.is("its end", x.count(5), 7);
        x.undo();
        x.task(0, 5, 100, 0, NONE);
        x.task(1, 5, 100, 0, NONE);
        x.task(0, 4, 100, 0, 1);
        Check.is("both are waited for", x.critical(), 7);
        x.task(2, 9, 100, 0, NONE);
        Check.is("two chains", x.critical(), 15);
        x.duration(1, 4);
        Check.is("just the one of the row", x.critical(), 1 + 4 + 8);
        x.duration(1, 6);
        Check.is("just the one ahead", x.critical(), 2 + 4);
        x.task(3, 1, 100, 0, 2);
        Check.is("one more behind", x.critical(), 2 + 4 + 16);
        x.duration(3, 100);
        Check.is("one alone", x.critical(), 8);
    }

    private static void lateBehinds() {
        SlackMarket x = new SlackMarket();
        x.task(0, 10, 14, 0, NONE);
        x.task(0, 10, 10, 3, NONE);
        x.task(0, 10, 25, 100, NONE);
        Check.is("without offers", x.lateBehind(), 15);
        x.offer(0, 500, 1);
        Check.is("with offers", x.lateBehind(), 11);
        int changes = x.count(9);
        Check.is("nothing is traded", x.count(1), 0);
        Check.is("nothing is recorded", x.count(9), changes);
        x.trade();
        Check.is("as told", x.count(4), 11);
        Check.is("again", x.lateBehind(), 11);
    }

    private static void nothingChanges() {
        SlackMarket x = new SlackMarket();
        x.task(0, 10, 14, 50, NONE);
        x.task(0, 10, 10, 30, NONE);
        x.task(1, 10, 25, 100, 0);
        x.offer(0, 500, 1);
        x.lateBehind();
        x.wouldBuy(1, 0);
        x.leastMoney(1);
        x.endIf(1, 0, 90);
        x.bestPlace(0);
        x.critical();
        x.distance(0, 2);
        Check.is("money", x.money(1), 30);
        Check.is("due", x.due(1), 10);
        Check.is("end", x.ofTask(1, 5), 20);
        Check.is("row", x.at(0, 0), 0);
        Check.is("offer", x.ofTask(0, 9), 500);
        Check.is("contracts", x.count(1), 0);
        Check.is("changes", x.count(9), 4);
    }
}
