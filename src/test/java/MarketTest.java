/** Promises 6 to 9: offer, trade, refund, give. */
final class MarketTest {
    private static final int NO_SUCH = -1, BAD_VALUE = -2, NOT_POSSIBLE = -5, NONE = -6;
    private static final int MIN = Integer.MIN_VALUE, MAX = Integer.MAX_VALUE;

    public static void main(String[] args) {
        offers();
        latestBuysFirst();
        lowestNumberBuysFirst();
        cheapestThenNearestThenLowest();
        hoursAreLimited();
        moneyLimits();
        moneyOfOthersHelps();
        noMoreThanFortyContracts();
        tradeWithoutLate();
        refunds();
        refundErrors();
        refundRemoves();
        refundRemovesOfMany();
        refundOf500();
        lateByOneHour();
        gives();
        Check.end();
    }

    private static void offers() {
        SlackMarket x = new SlackMarket();
        x.task(0, 5, 100, 0, NONE);
        Check.is("offer", x.offer(0, 500, 1000), 0);
        Check.is("hours", x.ofTask(0, 9), 500);
        Check.is("price", x.ofTask(0, 10), 1000);
        Check.is("offers", x.count(2), 1);
        Check.is("in its place", x.offer(0, 1, 0), 500);
        Check.is("price", x.ofTask(0, 10), 0);
        Check.is("withdrawn", x.offer(0, 0, 77), 1);
        Check.is("hours", x.ofTask(0, 9), 0);
        Check.is("price of no offer", x.ofTask(0, 10), 0);
        Check.is("offers", x.count(2), 0);
        Check.is("hours 501", x.offer(0, 501, 1), BAD_VALUE);
        Check.is("hours -1", x.offer(0, -1, 1), BAD_VALUE);
        Check.is("price 1001", x.offer(0, 1, 1001), BAD_VALUE);
        Check.is("price 1001 of none", x.offer(0, 0, 1001), BAD_VALUE);
        Check.is("price -1", x.offer(0, 1, -1), BAD_VALUE);
        Check.is("task 1", x.offer(1, -1, -1), NO_SUCH);
        Check.is("task -1", x.offer(MIN, MAX, MAX), NO_SUCH);
        Check.is("changes", x.count(9), 4);
    }

    /** Task 2 is later than task 1, so that it gets the only cheap hours. */
    private static void latestBuysFirst() {
        SlackMarket x = new SlackMarket();
        x.task(0, 10, 100, 0, NONE);
        x.task(0, 10, 18, 1000, NONE);
        x.task(0, 10, 27, 1000, NONE);
        x.offer(0, 4, 1);
        Check.is("trade", x.trade(), 2);
        contract(x, 0, 0, 2, 3, 1);
        contract(x, 1, 0, 1, 1, 1);
        Check.is("late together", x.count(4), 1);
        Check.is("hours of contracts", x.count(7), 4);
        Check.is("offer is gone", x.ofTask(0, 10), 0);
        Check.is("offers", x.count(2), 0);
        Check.is("due of the seller", x.due(0), 96);
        Check.is("due of the buyer", x.due(2), 30);
        Check.is("money of the seller", x.money(0), 4);
        Check.is("money of the buyer", x.money(2), 997);
        Check.is("all money", x.count(6), 2000);
        Check.is("ends stay", x.ofTask(2, 5), 30);
        Check.is("again", x.trade(), 0);
    }

    private static void lowestNumberBuysFirst() {
        SlackMarket x = new SlackMarket();
        x.task(0, 10, 100, 0, NONE);
        x.task(0, 10, 17, 1000, NONE);
        x.task(0, 10, 27, 1000, NONE);
        x.offer(0, 4, 1);
        Check.is("trade", x.trade(), 2);
        contract(x, 0, 0, 1, 3, 1);
        contract(x, 1, 0, 2, 1, 1);
    }

    private static void cheapestThenNearestThenLowest() {
        SlackMarket x = new SlackMarket();
        x.task(0, 5, 100, 0, NONE);
        x.task(1, 10, 0, 1000, 0);
        x.task(2, 5, 100, 0, 1);
        x.task(3, 5, 100, 0, 1);
        x.task(0, 5, 100, 0, NONE);
        Check.is("far", x.distance(1, 4), 2);
        x.offer(0, 2, 5);
        x.offer(2, 2, 4);
        x.offer(3, 2, 4);
        x.offer(4, 2, 4);
        Check.is("trade", x.trade(), 4);
        contract(x, 0, 2, 1, 2, 4);
        contract(x, 1, 3, 1, 2, 4);
        contract(x, 2, 4, 1, 2, 4);
        contract(x, 3, 0, 1, 2, 5);
        Check.is("money of the buyer", x.money(1), 1000 - 34);
        Check.is("late yet", x.ofTask(1, 6), 7);
    }

    private static void hoursAreLimited() {
        SlackMarket x = new SlackMarket();
        x.task(0, 10, 13, 0, NONE);
        x.task(0, 10, 0, 1000, NONE);
        x.task(0, 10, 100, 0, NONE);
        x.offer(0, 500, 0);
        x.offer(1, 500, 0);
        x.offer(2, 2, 1);
        Check.is("trade", x.trade(), 2);
        contract(x, 0, 0, 1, 3, 0);
        contract(x, 1, 2, 1, 2, 1);
        Check.is("the offer has less", x.ofTask(0, 9), 497);
        Check.is("nothing to spare", x.ofTask(0, 7), 0);
        x.offer(2, 500, 2);
        Check.is("only what it is late by", x.trade(), 1);
        contract(x, 2, 2, 1, 15, 2);
        Check.is("not late", x.ofTask(1, 6), 0);
        Check.is("nothing to spare for the buyer", x.ofTask(1, 7), 0);
        Check.is("the offer keeps its price", x.ofTask(2, 10), 2);
    }

    private static void moneyLimits() {
        SlackMarket x = new SlackMarket();
        x.task(0, 10, 100, 0, NONE);
        x.task(0, 10, 0, 20, NONE);
        x.task(0, 10, 100, 0, NONE);
        x.offer(0, 500, 3);
        Check.is("trade", x.trade(), 1);
        contract(x, 0, 0, 1, 6, 3);
        Check.is("rest of the money", x.money(1), 2);
        Check.is("too dear", x.trade(), 0);
        x.offer(2, 4, 0);
        Check.is("for nothing", x.trade(), 1);
        contract(x, 1, 2, 1, 4, 0);
    }

    /** The seller of the first purchase is no buyer, so what it gets does not help it; a give does. */
    private static void moneyOfOthersHelps() {
        SlackMarket x = new SlackMarket();
        x.task(0, 10, 100, 50, NONE);
        x.task(0, 10, 15, 0, NONE);
        x.offer(0, 500, 10);
        Check.is("without money", x.trade(), 0);
        x.give(0, 1, 50);
        Check.is("with money", x.trade(), 1);
        contract(x, 0, 0, 1, 5, 10);
        Check.is("money is back", x.money(0), 50);
    }

    private static void noMoreThanFortyContracts() {
        SlackMarket x = new SlackMarket();
        x.task(0, 10, 3000, 0, NONE);
        x.task(0, 100, 0, 100000, NONE);
        for (int i = 0; i < 40; i++) {
            x.offer(0, 1, 1);
            Check.is("contract " + i, x.trade(), 1);
        }
        x.offer(0, 1, 0);
        Check.is("late yet", x.ofTask(1, 6), 70);
        Check.is("full", x.trade(), 0);
        Check.is("contracts", x.count(1), 40);
        Check.is("would buy", x.wouldBuy(1, 0), 0);
        Check.is("least money", x.leastMoney(1), NONE);
        Check.is("late behind", x.lateBehind(), 70);
        Check.is("the offer stays", x.ofTask(0, 9), 1);
        Check.is("sold", x.ofTask(0, 11), 40);
        Check.is("bought", x.ofTask(1, 12), 40);
        x.duration(1, 1);
        Check.is("refund", x.refund(39, 1), 0);
        x.duration(1, 100);
        x.task(0, 10, 3000, 0, NONE);
        x.offer(2, 500, 0);
        Check.is("one of two", x.trade(), 1);
        contract(x, 39, 0, 1, 1, 0);
        Check.is("full again", x.count(1), 40);
        Check.is("hours", x.count(7), 40);
    }

    private static void tradeWithoutLate() {
        SlackMarket x = new SlackMarket();
        x.task(0, 10, 10, 5, NONE);
        x.task(0, 10, 100, 5, NONE);
        x.offer(1, 5, 0);
        Check.is("nobody is late", x.trade(), 0);
        Check.is("a change all the same", x.count(9), 4);
    }

    private static SlackMarket withContract() {
        SlackMarket x = new SlackMarket();
        x.task(0, 10, 100, 0, NONE);
        x.task(0, 20, 0, 1000, NONE);
        x.offer(0, 11, 7);
        x.trade();
        return x;
    }

    private static void refunds() {
        SlackMarket x = withContract();
        contract(x, 0, 0, 1, 11, 7);
        Check.is("late", x.refund(0, 1), NOT_POSSIBLE);
        x.duration(0, 1);
        x.duration(1, 1);
        Check.is("refund", x.refund(0, 3), 8);
        Check.is("due of the buyer", x.due(1), 8);
        Check.is("due of the seller", x.due(0), 92);
        Check.is("half of 21, rounded down", x.money(0), 67);
        Check.is("money of the buyer", x.money(1), 933);
        Check.is("late by one hour behind that", x.refund(0, 7), NOT_POSSIBLE);
        Check.is("just not late", x.refund(0, 6), 2);
        Check.is("due is the end", x.due(1), 2);
        Check.is("bought", x.ofTask(1, 12), 2);
        Check.is("sold", x.ofTask(0, 11), 2);
        Check.is("offer is as it was", x.ofTask(0, 9), 0);
    }

    private static void refundErrors() {
        SlackMarket x = withContract();
        Check.is("contract 1", x.refund(1, 0), NO_SUCH);
        Check.is("contract -1", x.refund(-1, 1), NO_SUCH);
        Check.is("hours 0", x.refund(0, 0), BAD_VALUE);
        Check.is("hours -1", x.refund(0, -1), BAD_VALUE);
        Check.is("hours 501", x.refund(0, 501), BAD_VALUE);
        Check.is("hours of a huge number", x.refund(0, MIN), BAD_VALUE);
        Check.is("more than it has", x.refund(0, 12), BAD_VALUE);
        x.duration(0, 1);
        x.duration(1, 1);
        x.give(0, 1, 71);
        Check.is("seller has 6", x.money(0), 6);
        Check.is("seller has not 7", x.refund(0, 2), NOT_POSSIBLE);
        Check.is("seller has 3", x.refund(0, 1), 10);
        x.set(SlackMarket.REFUND, 0);
        Check.is("for nothing", x.refund(0, 8), 2);
        Check.is("seller keeps its money", x.money(0), 3);
        x.set(SlackMarket.REFUND, 100);
        x.duration(1, 1);
        Check.is("seller has not 7", x.refund(0, 1), NOT_POSSIBLE);
    }

    private static void refundRemoves() {
        SlackMarket x = new SlackMarket();
        x.task(0, 10, 100, 1000, NONE);
        x.task(0, 20, 0, 1000, NONE);
        for (int hours = 1; hours <= 4; hours++) {
            x.offer(0, hours, hours * 10);
            x.trade();
        }
        Check.is("contracts", x.count(1), 4);
        x.duration(0, 1);
        x.duration(1, 1);
        Check.is("all hours of one", x.refund(1, 2), 0);
        Check.is("contracts", x.count(1), 3);
        contract(x, 0, 0, 1, 1, 10);
        contract(x, 1, 0, 1, 3, 30);
        contract(x, 2, 0, 1, 4, 40);
        Check.is("no contract 3", x.ofContract(3, 0), NO_SUCH);
        Check.is("hours together", x.count(7), 8);
        Check.is("the last one", x.refund(2, 4), 0);
        contract(x, 1, 0, 1, 3, 30);
        Check.is("contracts", x.count(1), 2);
        Check.is("no contract 2", x.refund(2, 1), NO_SUCH);
    }

    private static void refundRemovesOfMany() {
        SlackMarket x = new SlackMarket();
        x.task(0, 1, 0, 50, NONE);
        x.task(0, 1, 0, 50, NONE);
        x.task(0, 1, 0, 50, NONE);
        x.task(1, 1, 100, 50, 0);
        x.task(1, 1, 100, 50, 0);
        x.offer(3, 1, 3);
        x.offer(4, 5, 4);
        Check.is("contracts", x.trade(), 4);
        contract(x, 0, 3, 2, 1, 3);
        contract(x, 1, 4, 2, 2, 4);
        contract(x, 2, 4, 1, 2, 4);
        contract(x, 3, 4, 0, 1, 4);
        x.move(2, 0);
        Check.is("refund", x.refund(0, 1), 0);
        contract(x, 0, 4, 2, 2, 4);
        contract(x, 1, 4, 1, 2, 4);
        contract(x, 2, 4, 0, 1, 4);
        Check.is("contracts", x.count(1), 3);
        Check.is("refund", x.refund(0, 1), 1);
        contract(x, 0, 4, 2, 1, 4);
        Check.is("contracts", x.count(1), 3);
    }

    private static void refundOf500() {
        SlackMarket x = new SlackMarket();
        x.task(0, 1, 3000, 0, NONE);
        for (int i = 1; i < 7; i++) {
            x.task(0, 100, i == 6 ? 0 : 3000, 100000, NONE);
        }
        x.offer(0, 500, 100);
        x.trade();
        contract(x, 0, 0, 6, 500, 100);
        x.offer(0, 101, 0);
        x.trade();
        x.move(6, 0);
        Check.is("501", x.refund(0, 501), BAD_VALUE);
        Check.is("500", x.refund(0, 500), 0);
        Check.is("half of 50000", x.money(0), 25000);
        Check.is("due", x.due(6), 101);
        contract(x, 0, 0, 6, 101, 0);
    }

    private static void lateByOneHour() {
        SlackMarket x = new SlackMarket();
        x.task(0, 10, 9, 1, NONE);
        x.task(0, 10, 100, 0, NONE);
        Check.is("late", x.count(3), 1);
        Check.is("late together", x.count(4), 1);
        x.offer(1, 1, 1);
        Check.is("offers", x.count(2), 1);
        Check.is("trade", x.trade(), 1);
        contract(x, 0, 1, 0, 1, 1);
        Check.is("money", x.money(0), 0);
        x.duration(0, 15);
        x.offer(1, 9, 1);
        Check.is("no money for an hour at 1", x.trade(), 0);
        x.give(1, 0, 1);
        Check.is("money for one at 1", x.trade(), 1);
        Check.is("late yet", x.count(4), 4);
    }

    private static void gives() {
        SlackMarket x = new SlackMarket();
        x.task(0, 1, 10, 100000, NONE);
        x.task(1, 1, 10, 100000, NONE);
        Check.is("give", x.give(0, 1, 1), 99999);
        Check.is("has", x.money(1), 100001);
        Check.is("give 100000", x.give(1, 0, 100000), 1);
        Check.is("has more than a new one can", x.money(0), 199999);
        Check.is("all money", x.count(6), 200000);
        Check.is("not so much", x.give(1, 0, 2), NOT_POSSIBLE);
        Check.is("just so much", x.give(1, 0, 1), 0);
        Check.is("amount 0", x.give(0, 1, 0), BAD_VALUE);
        Check.is("amount 100001", x.give(0, 1, 100001), BAD_VALUE);
        Check.is("amount -1", x.give(1, 0, -1), BAD_VALUE);
        Check.is("itself", x.give(0, 0, 0), NO_SUCH);
        Check.is("no giver", x.give(2, 0, 0), NO_SUCH);
        Check.is("no taker", x.give(0, 2, 0), NO_SUCH);
        Check.is("no giver", x.give(-1, 0, 1), NO_SUCH);
        Check.is("no taker", x.give(0, NONE, 1), NO_SUCH);
        Check.is("changes", x.count(9), 5);
    }

    private static void contract(SlackMarket x, int number, int seller, int buyer, int hours, int price) {
        Check.is("seller of " + number, x.ofContract(number, 0), seller);
        Check.is("buyer of " + number, x.ofContract(number, 1), buyer);
        Check.is("hours of " + number, x.ofContract(number, 2), hours);
        Check.is("price of " + number, x.ofContract(number, 3), price);
    }
}
