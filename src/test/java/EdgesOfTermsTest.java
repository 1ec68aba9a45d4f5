/** The edges that the terms of the document name: tasks, slack, links, offers, trades, contracts, divisions. */
final class EdgesOfTermsTest {
    private static final int NO_SUCH = -1, NOT_POSSIBLE = -5, NONE = -6;
    private static final int ALL = (1 << 24) - 1;

    public static void main(String[] args) {
        divisionsAreRoundedDown();
        upTo24Tasks();
        dueIsNeverBelow0();
        dueBecomesGreater();
        startsAtTheLaterOfBoth();
        neverWaitsForItself();
        lateAndToSpare();
        slackIs0IfAnyIsLate();
        slackAlongBothWays();
        slackAtMost5000();
        linkedByOneLink();
        longestDistance();
        offerIsGoneWithoutHours();
        lateByMostFirst();
        theNextOneBuysToo();
        theNextOneSellsToo();
        asLongAsItIsLate();
        reachIsTheLastDistance();
        cheapestNearestLowest();
        asManyHoursAs();
        moneyToTheLastCoin();
        freeHoursNeedNoMoney();
        nobodySellsToItself();
        fortyContracts();
        theFortiethGoesToTheLatest();
        startsAndEndsDoNotChange();
        notLateBehindARefund();
        sellerPaysItsLastMoney();
        contractWithoutHoursIsGone();
        Check.end();
    }

    /** "Divisions are rounded down." */
    private static void divisionsAreRoundedDown() {
        int[][] rows = {{1, 1, 50, 0}, {3, 1, 50, 1}, {1, 3, 50, 1}, {1, 1, 99, 0}, {1, 100, 99, 99}, {1, 199, 1, 1},
            {1, 99, 1, 0}, {1, 101, 100, 101}, {5, 999, 0, 0}, {5, 999, 33, 1648}};
        for (int[] row : rows) {
            SlackMarket x = new SlackMarket();
            x.task(0, 5, 3000, 0, NONE);
            x.task(0, 100, 105 - row[0], 100000, NONE);
            x.offer(0, row[0], row[1]);
            x.trade();
            x.duration(1, 1);
            x.set(SlackMarket.REFUND, row[2]);
            int paid = row[0] * row[1];
            Check.is("refund", x.refund(0, row[0]), 0);
            Check.is("seller pays " + row[3], x.money(0), paid - row[3]);
            Check.is("buyer gets " + row[3], x.money(1), 100000 - paid + row[3]);
        }
        SlackMarket x = new SlackMarket();
        x.task(0, 5, 3000, 0, NONE);
        x.task(0, 100, 0, 11, NONE);
        x.offer(0, 500, 4);
        Check.is("11 / 4 hours", x.wouldBuy(1, 0), 2);
        x.give(1, 0, 8);
        Check.is("3 / 4 hours", x.wouldBuy(1, 0), 0);
    }

    /** "There are 4 machines and up to 24 tasks." */
    private static void upTo24Tasks() {
        for (int machine = 0; machine < 4; machine++) {
            SlackMarket x = new SlackMarket();
            for (int task = 0; task < 24; task++) {
                Check.is("task", x.task(machine, 100, 0, 100000, task - 1 < 0 ? NONE : task - 1), task);
                Check.is("at the end of the row", x.ofTask(task, 3), task);
                Check.is("at its place", x.at(machine, task), task);
                Check.is("tasks of the machine", x.count(12 + machine), task + 1);
            }
            Check.is("no 25th", x.task(machine, 100, 0, 100000, NONE), -4);
            Check.is("tasks", x.count(0), 24);
            Check.is("late", x.count(3), ALL);
            Check.is("late together", x.count(4), 100 * (24 * 25 / 2));
            Check.is("end of all", x.count(5), 2400);
            Check.is("all money", x.count(6), 2400000);
            Check.is("chain", x.critical(), ALL);
            Check.is("start of the last", x.ofTask(23, 4), 2300);
            Check.is("late by", x.ofTask(23, 6), 2400);
            Check.is("comes just behind 22", x.ofTask(22, 13), 1 << 23);
            Check.is("behind the last", x.ofTask(23, 13), 0);
            Check.is("behind the row", x.at(machine, 24), NONE);
        }
    }

    /** "it can become less or greater by contracts, never below 0" */
    private static void dueIsNeverBelow0() {
        SlackMarket x = new SlackMarket();
        x.task(0, 1, 10, 0, NONE);
        x.task(0, 100, 0, 0, NONE);
        x.offer(0, 500, 0);
        Check.is("trade", x.trade(), 1);
        Check.is("sold", x.ofContract(0, 2), 9);
        Check.is("due is the end", x.due(0), 1);
        Check.is("the offer has the others", x.ofTask(0, 9), 491);
        Check.is("no more to spare", x.trade(), 0);
        Check.is("would buy", x.wouldBuy(1, 0), 0);
        Check.is("due", x.due(0), 1);
        x.task(1, 1, 0, 0, NONE);
        Check.is("due 0", x.due(2), 0);
        x.offer(2, 1, 0);
        x.set(SlackMarket.REACH, 9);
        Check.is("late ones have nothing to spare", x.trade(), 0);
        Check.is("due 0", x.due(2), 0);
    }

    private static void dueBecomesGreater() {
        SlackMarket x = new SlackMarket();
        x.task(0, 100, 3000, 0, NONE);
        x.task(0, 100, 0, 0, NONE);
        x.offer(0, 500, 0);
        x.trade();
        Check.is("less", x.due(0), 2800);
        Check.is("greater", x.due(1), 200);
        Check.is("all of it", x.due(0) + x.due(1), 3000);
    }

    /** "starts when the task ahead in the row has ended and the task that comes ahead has ended (at 0 ..), whichever is later" */
    private static void startsAtTheLaterOfBoth() {
        SlackMarket x = new SlackMarket();
        x.task(0, 7, 100, 0, NONE);
        x.task(1, 7, 100, 0, NONE);
        x.task(1, 1, 100, 0, 0);
        Check.is("none of both", x.ofTask(1, 4), 0);
        Check.is("both at once", x.ofTask(2, 4), 7);
        Check.is("both on the chain", x.critical(), 7);
        x.duration(0, 8);
        Check.is("what comes ahead is later by 1", x.ofTask(2, 4), 8);
        Check.is("it alone on the chain", x.critical(), 5);
        x.duration(1, 9);
        Check.is("the row is later by 1", x.ofTask(2, 4), 9);
        Check.is("it alone on the chain", x.critical(), 6);
        x.move(2, 0);
        Check.is("what comes ahead alone", x.ofTask(2, 4), 8);
        Check.is("behind the one that came later", x.ofTask(1, 4), 9);
        x.task(1, 3, 100, 0, 1);
        Check.is("the same task ahead in both ways", x.ofTask(3, 4), 18);
        Check.is("it comes just behind once", x.ofTask(1, 13), 8);
    }

    /** "The rows never are such that a task would have to wait for itself." */
    private static void neverWaitsForItself() {
        SlackMarket x = new SlackMarket();
        x.task(0, 1, 100, 0, NONE);
        x.task(1, 1, 100, 0, 0);
        x.task(1, 1, 100, 0, NONE);
        x.task(2, 1, 100, 0, 2);
        x.task(2, 1, 100, 0, NONE);
        x.task(0, 1, 100, 0, 4);
        Check.is("a way of five tasks", x.move(5, 0), NOT_POSSIBLE);
        Check.is("a way of four tasks", x.move(0, 1), NOT_POSSIBLE);
        Check.is("end of all", x.ofTask(5, 5), 6);
        Check.is("the way is cut", x.move(1, 1), 0);
        Check.is("now it goes", x.move(5, 0), 1);
        Check.is("its end", x.ofTask(5, 5), 4);
        Check.is("end behind it", x.ofTask(0, 5), 5);
        Check.is("the way cannot be made again", x.move(1, 0), NOT_POSSIBLE);
        Check.is("end of all", x.count(5), 6);
    }

    /** "late by its end less its due time, if that is above 0"; "to spare its due time less its end, if that is above 0" */
    private static void lateAndToSpare() {
        int[][] rows = {{0, 50, 0}, {1, 49, 0}, {49, 1, 0}, {50, 0, 0}, {51, 0, 1}, {3000, 0, 2950}};
        for (int[] row : rows) {
            SlackMarket x = new SlackMarket();
            x.task(2, 50, row[0], 0, NONE);
            Check.is("late with due " + row[0], x.ofTask(0, 6), row[1]);
            Check.is("to spare with due " + row[0], x.ofTask(0, 7), row[2]);
            Check.is("set of late ones with due " + row[0], x.count(3), row[1] > 0 ? 1 : 0);
            Check.is("together with due " + row[0], x.count(4), row[1]);
            Check.is("slack with due " + row[0], x.ofTask(0, 8), row[2]);
        }
    }

    /** "0, if any task is late. (Also of tasks that nobody waits for.)" */
    private static void slackIs0IfAnyIsLate() {
        SlackMarket x = new SlackMarket();
        x.task(0, 10, 20, 0, NONE);
        x.task(1, 10, 3000, 0, NONE);
        x.task(0, 10, 20, 0, NONE);
        Check.is("on its due time, 0", x.ofTask(2, 8), 0);
        Check.is("ahead of it, 0", x.ofTask(0, 8), 0);
        Check.is("beside it", x.ofTask(1, 8), 2990);
        x.duration(2, 11);
        Check.is("another one is late by 1", x.ofTask(1, 8), 0);
        Check.is("it is late itself", x.ofTask(2, 8), 0);
        x.duration(2, 9);
        Check.is("beside it again", x.ofTask(1, 8), 2990);
        Check.is("one hour", x.ofTask(0, 8), 1);
        Check.is("one hour", x.ofTask(2, 8), 1);
    }

    /** "all others following from it": by the row, by what comes ahead, or by both, up to where none would be late. */
    private static void slackAlongBothWays() {
        SlackMarket x = new SlackMarket();
        x.task(0, 10, 100, 0, NONE);
        x.task(1, 30, 100, 0, NONE);
        x.task(1, 10, 100, 0, 0);
        x.task(0, 10, 100, 0, NONE);
        x.task(2, 10, 100, 0, 3);
        int[] byTheWayAhead = {70, 60, 60, 70, 70};
        for (int task = 0; task < 5; task++) {
            Check.is("slack", x.ofTask(task, 8), byTheWayAhead[task]);
        }
        x.duration(3, 60);
        int[] behind = {20, 60, 60, 20, 20};
        for (int task = 0; task < 5; task++) {
            Check.is("slack with a long one behind", x.ofTask(task, 8), behind[task]);
        }
        x.duration(3, 80);
        Check.is("the last one just at its due time", x.ofTask(4, 5), 100);
        Check.is("none for it", x.ofTask(4, 8), 0);
        Check.is("none for the first", x.ofTask(0, 8), 0);
        Check.is("that of the row beside it", x.ofTask(1, 8), 60);
        x.duration(2, 70);
        Check.is("none for what has a late follower nearly", x.ofTask(1, 8), 0);
        x.duration(1, 1);
        Check.is("it waits for what comes ahead", x.ofTask(2, 4), 10);
        Check.is("so there is slack for the row", x.ofTask(1, 8), 29);
    }

    /** "(.. 5000 at most.)": task 0 sells early and buys late, twice; what it gets back brings it behind hour 5000. */
    private static void slackAtMost5000() {
        SlackMarket x = new SlackMarket();
        for (int task = 0; task < 24; task++) {
            x.task(0, 100, task == 1 || task == 2 ? 0 : 3000, 0, NONE);
        }
        sellEarlyAndBuyLate(x, 1, 3);
        sellEarlyAndBuyLate(x, 2, 9);
        for (int task = 0; task < 24; task++) {
            x.duration(task, 1);
        }
        int contract = x.count(1);
        while (contract > 0 && x.due(0) < 24 + 4999) {
            contract--;
            if (x.ofContract(contract, 0) == 0) {
                long missing = 24 + 4999 - x.due(0);
                x.refund(contract, (int) Math.min(missing, x.ofContract(contract, 2) - 2));
            }
        }
        Check.is("due", x.due(0), 5023);
        Check.is("slack 4999", x.ofTask(0, 8), 4999);
        x.refund(contract, 1);
        Check.is("slack 5000", x.ofTask(0, 8), 5000);
        Check.is("to spare 5000", x.ofTask(0, 7), 5000);
        x.refund(contract, 1);
        Check.is("due", x.due(0), 5025);
        Check.is("slack of 5001", x.ofTask(0, 8), 5000);
        Check.is("to spare 5001", x.ofTask(0, 7), 5001);
    }

    private static void sellEarlyAndBuyLate(SlackMarket x, int buyer, int firstSeller) {
        x.move(0, 0);
        x.move(buyer, 23);
        for (int i = 0; i < 5; i++) {
            x.offer(0, 500, 0);
            x.trade();
        }
        x.offer(0, 0, 0);
        x.move(0, 23);
        for (int i = 0; i < 5; i++) {
            x.offer(firstSeller + i, 500, 0);
        }
        x.trade();
    }

    /** "Two tasks are linked by one link if they have the same machine, or one comes ahead of the other." */
    private static void linkedByOneLink() {
        SlackMarket x = new SlackMarket();
        for (int task = 0; task < 22; task++) {
            x.task(0, 1, 100, 0, NONE);
        }
        x.task(1, 1, 100, 0, 21);
        x.task(2, 1, 100, 0, NONE);
        Check.is("first and last of a row", x.distance(0, 21), 1);
        Check.is("ahead", x.distance(21, 22), 1);
        Check.is("behind", x.distance(22, 21), 1);
        Check.is("beside what is ahead", x.distance(0, 22), 2);
        Check.is("itself", x.distance(22, 22), 0);
        Check.is("alone with itself", x.distance(23, 23), 0);
        Check.is("alone", x.distance(23, 0), NONE);
        Check.is("alone", x.distance(22, 23), NONE);
    }

    /** A way over all four machines: no distance is longer. */
    private static SlackMarket chain() {
        SlackMarket x = new SlackMarket();
        for (int machine = 0; machine < 4; machine++) {
            x.task(machine, 1, 100, 0, 2 * machine - 1 < 0 ? NONE : 2 * machine - 1);
            x.task(machine, 1, 100, 0, NONE);
        }
        return x;
    }

    private static void longestDistance() {
        SlackMarket x = chain();
        for (int task = 0; task < 8; task++) {
            for (int other = 0; other < 8; other++) {
                Check.is("distance " + task + " " + other, x.distance(task, other), Math.abs(task - other));
            }
        }
    }

    /** "the offer has as many hours less, and is gone if it has none" */
    private static void offerIsGoneWithoutHours() {
        SlackMarket x = new SlackMarket();
        x.task(0, 10, 3000, 0, NONE);
        x.task(0, 10, 0, 0, NONE);
        x.give(0, 1, 1);
        x.offer(0, 20, 0);
        Check.is("all of it", x.trade(), 1);
        Check.is("no hours", x.ofTask(0, 9), 0);
        Check.is("no price", x.ofTask(0, 10), 0);
        Check.is("no offer", x.count(2), 0);
        x.duration(1, 30);
        x.offer(0, 21, 0);
        Check.is("all but one", x.trade(), 1);
        Check.is("an hour", x.ofTask(0, 9), 1);
        Check.is("an offer", x.count(2), 1);
        Check.is("all offered before", x.offer(0, 500, 1000), 1);
        Check.is("500 before", x.offer(0, 0, 1000), 500);
        Check.is("none before", x.offer(0, 0, 0), 0);
        Check.is("no price", x.ofTask(0, 10), 0);
    }

    /** "those that are late by most first, of several the one with the lowest number" */
    private static void lateByMostFirst() {
        SlackMarket x = new SlackMarket();
        x.task(0, 10, 3000, 0, NONE);
        x.task(0, 10, 15, 0, NONE);
        x.task(0, 10, 24, 0, NONE);
        x.task(0, 10, 35, 0, NONE);
        x.task(0, 10, 44, 0, NONE);
        x.task(0, 10, 60, 0, NONE);
        x.offer(0, 500, 0);
        Check.is("four are late", x.trade(), 4);
        int[] buyers = {2, 4, 1, 3};
        int[] hours = {6, 6, 5, 5};
        for (int contract = 0; contract < 4; contract++) {
            Check.is("buyer", x.ofContract(contract, 1), buyers[contract]);
            Check.is("hours", x.ofContract(contract, 2), hours[contract]);
        }
        Check.is("nobody is late", x.count(3), 0);
    }

    /** "A trade goes through the tasks that are late": one that cannot buy, or not all, keeps no other from it. */
    private static void theNextOneBuysToo() {
        SlackMarket x = new SlackMarket();
        x.task(0, 10, 3000, 0, NONE);
        x.task(0, 10, 0, 0, NONE);
        x.task(0, 10, 20, 5, NONE);
        x.task(0, 10, 35, 100, NONE);
        x.offer(0, 500, 2);
        Check.is("all but the one without money", x.trade(), 2);
        Check.is("the later one", x.ofContract(0, 1), 2);
        Check.is("as far as its money goes", x.ofContract(0, 2), 2);
        Check.is("the other one", x.ofContract(1, 1), 3);
        Check.is("all of it", x.ofContract(1, 2), 5);
        Check.is("late yet", x.count(3), 2 + 4);
        Check.is("late together", x.count(4), 20 + 8);
    }

    /** Offers with nothing to spare are passed by, however cheap they are. */
    private static void theNextOneSellsToo() {
        SlackMarket x = new SlackMarket();
        x.task(0, 10, 10, 0, NONE);
        x.task(0, 10, 19, 0, NONE);
        x.task(0, 10, 33, 0, NONE);
        x.task(0, 10, 0, 100, NONE);
        x.task(0, 10, 3000, 0, NONE);
        for (int task = 0; task < 5; task++) {
            x.offer(task, 4, task);
        }
        Check.is("hours", x.wouldBuy(3, 0), 7);
        Check.is("cost", x.wouldBuy(3, 1), 3 * 2 + 4 * 4);
        Check.is("sellers", x.wouldBuy(3, 2), 4 + 16);
        Check.is("one has no money", x.trade(), 2);
        Check.is("late", x.count(3), 2 + 8);
        Check.is("the offer is passed by", x.ofTask(0, 9), 4);
        Check.is("the offer of a late one", x.ofTask(1, 9), 4);
        Check.is("its own offer", x.ofTask(3, 9), 4);
        Check.is("the rest of an offer", x.ofTask(2, 9), 1);
    }

    /** "Each of them buys, as long as it is late": the second offer is not needed, or for one hour. */
    private static void asLongAsItIsLate() {
        SlackMarket x = new SlackMarket();
        x.task(0, 10, 3000, 0, NONE);
        x.task(0, 10, 3000, 0, NONE);
        x.task(0, 10, 0, 0, NONE);
        x.offer(0, 30, 0);
        x.offer(1, 30, 0);
        Check.is("one will do", x.trade(), 1);
        Check.is("the other offer", x.ofTask(1, 9), 30);
        x.undo();
        x.offer(0, 29, 0);
        Check.is("one more hour", x.trade(), 2);
        Check.is("the other offer", x.ofTask(1, 9), 29);
        Check.is("just not late", x.ofTask(2, 6) + x.ofTask(2, 7), 0);
    }

    /** "from the offers of other tasks whose distance is at most REACH" */
    private static void reachIsTheLastDistance() {
        for (int reach = 1; reach <= 7; reach++) {
            SlackMarket x = chain();
            x.set(SlackMarket.REACH, reach);
            for (int task = 0; task < 7; task++) {
                x.duration(task, 1);
            }
            x.duration(7, 100);
            x.offer(7 - reach, 5, 0);
            Check.is("at distance " + reach, x.wouldBuy(7, 0), 5);
            if (reach < 7) {
                x.offer(7 - reach, 0, 0);
                x.offer(7 - reach - 1, 5, 0);
                Check.is("at distance " + reach + " and 1", x.wouldBuy(7, 0), 0);
                Check.is("trade", x.trade(), 0);
            }
        }
        SlackMarket x = chain();
        x.task(3, 100, 0, 0, NONE);
        x.offer(0, 500, 0);
        x.set(SlackMarket.REACH, 9);
        Check.is("farther than any way", x.wouldBuy(8, 2), 1);
        x = new SlackMarket();
        x.task(0, 100, 0, 0, NONE);
        x.task(1, 1, 3000, 0, NONE);
        x.offer(1, 500, 0);
        x.set(SlackMarket.REACH, 9);
        Check.is("no way at all", x.wouldBuy(0, 0), 0);
        Check.is("no way at all", x.trade(), 0);
    }

    /** "the cheapest ones first, of several the one of the nearest task, then the one of the task with the lowest number" */
    private static void cheapestNearestLowest() {
        SlackMarket x = new SlackMarket();
        x.task(1, 1, 3000, 0, NONE);
        x.task(1, 1, 3000, 0, NONE);
        x.task(0, 100, 0, 100000, 1);
        x.task(2, 1, 3000, 0, 2);
        x.task(2, 1, 3000, 0, NONE);
        for (int task = 0; task < 5; task++) {
            x.offer(task, 1, 5);
        }
        x.duration(2, 1);
        x.duration(2, 100);
        Check.is("four sellers", x.wouldBuy(2, 2), 27);
        Check.is("trade", x.trade(), 4);
        sellers(x, 1, 3, 0, 4);
        x.undo();
        x.offer(4, 1, 4);
        Check.is("trade", x.trade(), 4);
        sellers(x, 4, 1, 3, 0);
        x.undo();
        x.offer(0, 1, 0);
        x.offer(4, 1, 1000);
        x.offer(1, 1, 999);
        Check.is("trade", x.trade(), 4);
        sellers(x, 0, 3, 1, 4);
    }

    private static void sellers(SlackMarket x, int... due) {
        for (int contract = 0; contract < due.length; contract++) {
            Check.is("seller of " + contract, x.ofContract(contract, 0), due[contract]);
        }
        Check.is("contracts", x.count(1), due.length);
    }

    /** "as many hours as it is late by, but at most those that are offered, that the seller has to spare, that it has the money for" */
    private static void asManyHoursAs() {
        // Late by, offered, to spare, money for: the hours are the least of them, and none if one is 0.
        int[][] rows = {{5, 9, 9, 9}, {9, 5, 9, 9}, {9, 9, 5, 9}, {9, 9, 9, 5}, {1, 500, 2000, 100}, {100, 1, 2000, 100},
            {100, 500, 1, 100}, {100, 500, 2000, 1}, {0, 500, 2000, 100}, {100, 0, 2000, 100}, {100, 500, 0, 100},
            {100, 500, 2000, 0}, {7, 7, 7, 7}, {100, 99, 98, 97}, {97, 98, 99, 100}};
        for (int[] row : rows) {
            SlackMarket x = new SlackMarket();
            x.task(0, 100, 100 + row[2], 0, NONE);
            x.task(0, 100, 200 - row[0], 3 * row[3] + 2, NONE);
            x.offer(0, row[1], 3);
            int hours = Math.min(Math.min(row[0], row[1]), Math.min(row[2], row[3]));
            Check.is("would buy", x.wouldBuy(1, 0), hours);
            Check.is("for", x.wouldBuy(1, 1), 3 * hours);
            Check.is("from", x.wouldBuy(1, 2), hours > 0 ? 1 : 0);
            Check.is("late behind", x.lateBehind(), row[0] - hours);
            Check.is("trade", x.trade(), hours > 0 ? 1 : 0);
            Check.is("hours", x.count(7), hours);
            Check.is("offered", x.ofTask(0, 9), row[1] - hours);
            Check.is("to spare", x.ofTask(0, 7), row[2] - hours);
            Check.is("late", x.ofTask(1, 6), row[0] - hours);
            Check.is("money of the buyer", x.money(1), 3 * (row[3] - hours) + 2);
            Check.is("money of the seller", x.money(0), 3 * hours);
        }
    }

    private static void moneyToTheLastCoin() {
        SlackMarket x = new SlackMarket();
        x.task(0, 10, 3000, 0, NONE);
        x.task(0, 100, 0, 99999, NONE);
        x.offer(0, 500, 1000);
        Check.is("99 hours of 100 nearly", x.wouldBuy(1, 0), 99);
        x.offer(0, 500, 999);
        Check.is("100 hours", x.wouldBuy(1, 0), 100);
        Check.is("trade", x.trade(), 1);
        Check.is("rest", x.money(1), 99);
        Check.is("price", x.money(0), 99900);
        Check.is("all money", x.count(6), 99999);
        x.offer(0, 500, 99);
        Check.is("the last coins", x.trade(), 1);
        Check.is("none", x.money(1), 0);
        x.offer(0, 500, 1);
        Check.is("no coin for 1", x.trade(), 0);
    }

    /** "(if the price is 0, this does not matter)" */
    private static void freeHoursNeedNoMoney() {
        SlackMarket x = new SlackMarket();
        x.task(0, 10, 3000, 0, NONE);
        x.task(0, 100, 0, 0, NONE);
        x.offer(0, 500, 1);
        Check.is("at 1", x.wouldBuy(1, 0), 0);
        Check.is("least money at 1", x.leastMoney(1), 110);
        x.offer(0, 500, 0);
        Check.is("at 0", x.wouldBuy(1, 0), 110);
        Check.is("cost at 0", x.wouldBuy(1, 1), 0);
        Check.is("least money at 0", x.leastMoney(1), 0);
        Check.is("trade", x.trade(), 1);
        Check.is("price of the contract", x.ofContract(0, 3), 0);
        x.duration(1, 50);
        Check.is("refund of nothing", x.refund(0, 50), 60);
        Check.is("money", x.money(0), 0);
    }

    /** "from the offers of other tasks": its own is none of them, nor that of another late one. */
    private static void nobodySellsToItself() {
        SlackMarket x = new SlackMarket();
        x.task(0, 10, 9, 100, NONE);
        x.task(0, 10, 19, 100, NONE);
        x.offer(0, 500, 0);
        x.offer(1, 500, 0);
        Check.is("would buy", x.wouldBuy(0, 0), 0);
        Check.is("would buy", x.wouldBuy(1, 2), 0);
        Check.is("least money", x.leastMoney(0), NONE);
        Check.is("trade", x.trade(), 0);
        Check.is("late behind", x.lateBehind(), 2);
    }

    private static SlackMarket withContracts(int contracts) {
        SlackMarket x = new SlackMarket();
        x.task(0, 10, 3000, 0, NONE);
        x.task(0, 100, 0, 1000, NONE);
        x.task(0, 10, 3000, 0, NONE);
        for (int i = 0; i < contracts; i++) {
            x.offer(0, 1, i % 7);
            x.trade();
        }
        return x;
    }

    /** "There are at most 40 contracts; when there are 40, nothing more is bought." */
    private static void fortyContracts() {
        for (int before = 37; before <= 40; before++) {
            SlackMarket x = withContracts(before);
            Check.is("contracts", x.count(1), before);
            for (int task : new int[] {0, 2}) {
                x.offer(task, 20, task);
            }
            int more = Math.min(2, 40 - before);
            Check.is("would buy with " + before, x.wouldBuy(1, 0), 20 * more);
            Check.is("would cost", x.wouldBuy(1, 1), more == 2 ? 40 : 0);
            Check.is("sellers", x.wouldBuy(1, 2), more == 2 ? 5 : more);
            Check.is("late behind", x.lateBehind(), x.ofTask(1, 6) - 20 * more);
            Check.is("trade", x.trade(), more);
            Check.is("contracts then", x.count(1), before + more);
            Check.is("offer of 2", x.ofTask(2, 9), more == 2 ? 0 : 20);
            Check.is("no contract behind", x.ofContract(before + more, 0), NO_SUCH);
            Check.is("hours of the last", x.ofContract(before + more - 1, 2), more > 0 ? 20 : 1);
            x.offer(0, 500, 0);
            int late = x.ofTask(1, 6);
            Check.is("least money", x.leastMoney(1), before + more < 40 ? 0 : NONE);
            Check.is("late", late, 110 - before - 20 * more);
        }
    }

    /** With room for one contract the task that is late by most has it, and all the others nothing. */
    private static void theFortiethGoesToTheLatest() {
        SlackMarket x = withContracts(39);
        x.task(1, 100, 28, 0, NONE);
        x.task(1, 100, 199, 0, NONE);
        x.task(1, 1, 3000, 0, NONE);
        Check.is("late", x.ofTask(1, 6), 71);
        Check.is("later", x.ofTask(3, 6), 72);
        x.offer(0, 500, 0);
        x.offer(5, 500, 0);
        Check.is("one", x.trade(), 1);
        Check.is("buyer", x.ofContract(39, 1), 3);
        Check.is("seller", x.ofContract(39, 0), 5);
        Check.is("late together", x.count(4), 71 + 1);
        Check.is("no more", x.trade(), 0);
        Check.is("late behind", x.lateBehind(), 72);
        x.duration(3, 1);
        Check.is("a refund makes room", x.refund(39, 72), 0);
        Check.is("for one", x.trade(), 1);
        Check.is("buyer", x.ofContract(39, 1), 1);
    }

    /** "(Starts and ends do not change by this.)" */
    private static void startsAndEndsDoNotChange() {
        SlackMarket x = new SlackMarket();
        x.task(0, 10, 3000, 0, NONE);
        x.task(0, 20, 0, 100, 0);
        x.task(1, 30, 0, 100, 1);
        x.offer(0, 500, 1);
        x.trade();
        int[] ends = {10, 30, 60};
        for (int task = 0; task < 3; task++) {
            Check.is("end", x.ofTask(task, 5), ends[task]);
            Check.is("start", x.ofTask(task, 4), task == 0 ? 0 : ends[task - 1]);
        }
        Check.is("chain", x.critical(), 7);
        Check.is("end of all", x.count(5), 60);
    }

    private static SlackMarket sold(int hours, int price) {
        SlackMarket x = new SlackMarket();
        x.task(0, 10, 3000, 0, NONE);
        x.task(0, 100, 110 - hours, 100000, NONE);
        x.offer(0, hours, price);
        x.trade();
        return x;
    }

    /** "The buyer can give hours back, if it is not late behind that" */
    private static void notLateBehindARefund() {
        SlackMarket x = sold(20, 0);
        Check.is("on its due time", x.refund(0, 1), NOT_POSSIBLE);
        x.duration(1, 99);
        Check.is("late by 1 behind it", x.refund(0, 2), NOT_POSSIBLE);
        Check.is("just not late", x.refund(0, 1), 19);
        Check.is("on its due time", x.ofTask(1, 6) + x.ofTask(1, 7), 0);
        x.duration(1, 100);
        Check.is("late already", x.refund(0, 1), NOT_POSSIBLE);
        x.duration(1, 80);
        Check.is("all of it, on its due time", x.refund(0, 19), 0);
        Check.is("due of the buyer", x.due(1), 90);
        Check.is("due of the seller", x.due(0), 3000);
        Check.is("no contract", x.count(1), 0);
    }

    /** "or the seller has not the money" */
    private static void sellerPaysItsLastMoney() {
        SlackMarket x = sold(10, 7);
        x.duration(1, 1);
        x.give(0, 1, 70 - 34);
        Check.is("35 of 34", x.refund(0, 10), NOT_POSSIBLE);
        x.give(1, 0, 1);
        Check.is("35 of 35", x.refund(0, 10), 0);
        Check.is("the last", x.money(0), 0);
        x = sold(1, 1);
        x.duration(1, 1);
        x.give(0, 1, 1);
        x.set(SlackMarket.REFUND, 99);
        Check.is("0 of 0", x.refund(0, 1), 0);
        x = sold(1, 1);
        x.duration(1, 1);
        x.give(0, 1, 1);
        x.set(SlackMarket.REFUND, 100);
        Check.is("1 of 0", x.refund(0, 1), NOT_POSSIBLE);
    }

    /** "A contract without hours is gone; the numbers of the later ones decrease by 1." */
    private static void contractWithoutHoursIsGone() {
        for (int gone : new int[] {0, 1, 20, 38, 39}) {
            SlackMarket x = withContracts(40);
            x.duration(1, 1);
            Check.is("refund", x.refund(gone, 1), 0);
            Check.is("contracts", x.count(1), 39);
            for (int contract = 0; contract < 39; contract++) {
                int before = contract < gone ? contract : contract + 1;
                Check.is("price of " + contract, x.ofContract(contract, 3), before % 7);
            }
            Check.is("no contract 39", x.ofContract(39, 3), NO_SUCH);
            Check.is("no refund of 39", x.refund(39, 1), NO_SUCH);
            Check.is("hours", x.count(7), 39);
        }
        SlackMarket x = sold(2, 1);
        x.duration(1, 1);
        Check.is("an hour is left", x.refund(0, 1), 1);
        Check.is("a contract", x.count(1), 1);
        Check.is("sold", x.ofTask(0, 11), 1);
        Check.is("bought", x.ofTask(1, 12), 1);
        Check.is("none is left", x.refund(0, 1), 0);
        Check.is("no contract", x.count(1), 0);
        Check.is("sold", x.ofTask(0, 11), 0);
        Check.is("bought", x.ofTask(1, 12), 0);
    }
}
