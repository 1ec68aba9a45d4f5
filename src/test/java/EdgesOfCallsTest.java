import java.util.function.Supplier;

/**
 * Promises 1 to 22, one after the other: the least and the greatest argument of each call are taken, those just beyond
 * and the ends of int are refused; empty, full.
 */
final class EdgesOfCallsTest {
    private static final int NO_SUCH = -1, BAD_VALUE = -2, TOO_MANY = -4, NOT_POSSIBLE = -5, NONE = -6;
    private static final int MIN = Integer.MIN_VALUE, MAX = Integer.MAX_VALUE;
    private static final int ALL = (1 << 24) - 1;

    private interface Asked {
        long with(SlackMarket x, int argument);
    }

    public static void main(String[] args) {
        newObject();
        changesOfNothing();
        set();
        task();
        taskAhead();
        duration();
        move();
        moveOfAFullRow();
        offer();
        trade();
        refund();
        give();
        giveAll();
        ofTask();
        ofTaskWithoutOffer();
        due();
        money();
        at();
        ofContract();
        count();
        countOfAFullMarket();
        distance();
        wouldBuy();
        leastMoney();
        endIf();
        bestPlace();
        critical();
        lateBehind();
        Check.end();
    }

    /** Asks with each argument on a new object of the same making: below and above the range it is refused. */
    private static void range(String told, Supplier<SlackMarket> recipe, Asked call, int[] range, int error) {
        for (int argument : new int[] {MIN, MIN + 1, -(1 << 20), range[0] - 1}) {
            Check.is(told + " of " + argument, call.with(recipe.get(), argument), error);
        }
        for (int argument : new int[] {range[0], range[0] + (range[1] - range[0]) / 2, range[1]}) {
            Check.holds(told + " of " + argument + " is taken", call.with(recipe.get(), argument) >= 0);
        }
        for (int argument : new int[] {range[1] + 1, 1 << 20, MAX - 1, MAX}) {
            Check.is(told + " of " + argument, call.with(recipe.get(), argument), error);
        }
    }

    /** Five tasks in a row and one beside it, and a contract of 500 hours. */
    private static SlackMarket five() {
        SlackMarket x = new SlackMarket();
        for (int task = 0; task < 5; task++) {
            x.task(1, 1, 2500, 100000, NONE);
        }
        x.task(0, 1, 0, 0, 0);
        for (int task = 6; task < 13; task++) {
            x.task(0, 100, task == 12 ? 0 : 2500, 0, NONE);
        }
        x.offer(0, 500, 0);
        x.set(SlackMarket.REACH, 3);
        x.trade();
        x.move(12, 0);
        return x;
    }

    // -- promise 1

    private static void newObject() {
        SlackMarket x = new SlackMarket();
        for (int what = 0; what < 16; what++) {
            Check.is("count " + what, x.count(what), what == 10 ? 50 : what == 11 ? 2 : 0);
        }
        for (int task : new int[] {MIN, -1, 0, 1, 23, 24, MAX}) {
            Check.is("ofTask", x.ofTask(task, 0), NO_SUCH);
            Check.is("due", x.due(task), NO_SUCH);
            Check.is("money", x.money(task), NO_SUCH);
            Check.is("distance", x.distance(task, task), NO_SUCH);
            Check.is("wouldBuy", x.wouldBuy(task, 0), NO_SUCH);
            Check.is("leastMoney", x.leastMoney(task), NO_SUCH);
            Check.is("endIf", x.endIf(task, task, 1), NO_SUCH);
            Check.is("bestPlace", x.bestPlace(task), NO_SUCH);
            Check.is("ofContract", x.ofContract(task, 0), NO_SUCH);
        }
        for (int machine = 0; machine < 4; machine++) {
            Check.is("at", x.at(machine, 0), NONE);
        }
        Check.is("critical", x.critical(), 0);
        Check.is("lateBehind", x.lateBehind(), 0);
        Check.is("fault", x.fault(), 0);
        Check.is("carryOut", x.carryOut(), -3);
        Check.is("wipe", x.wipe(), 0);
        Check.is("undo", x.undo(), NOT_POSSIBLE);
        Check.is("restore 0", x.restore(0), NOT_POSSIBLE);
        Check.is("restore 1", x.restore(1), NOT_POSSIBLE);
        Check.is("save", x.save(1), 0);
    }

    private static void changesOfNothing() {
        SlackMarket x = new SlackMarket();
        Check.is("duration", x.duration(0, 1), NO_SUCH);
        Check.is("move", x.move(0, 0), NO_SUCH);
        Check.is("offer", x.offer(0, 1, 1), NO_SUCH);
        Check.is("refund", x.refund(0, 1), NO_SUCH);
        Check.is("give", x.give(0, 1, 1), NO_SUCH);
        Check.is("task behind task 0", x.task(0, 1, 0, 0, 0), NO_SUCH);
        Check.is("no change", x.count(9), 0);
        Check.is("trade", x.trade(), 0);
        Check.is("a change", x.count(9), 1);
    }

    // -- promises 2 to 5

    private static void set() {
        range("set REFUND", SlackMarket::new, (x, value) -> x.set(SlackMarket.REFUND, value), new int[] {0, 100}, BAD_VALUE);
        range("set REACH", SlackMarket::new, (x, value) -> x.set(SlackMarket.REACH, value), new int[] {1, 9}, BAD_VALUE);
        range("set of a setting", SlackMarket::new, (x, setting) -> x.set(setting, 7), new int[] {0, 1}, BAD_VALUE);
        SlackMarket x = new SlackMarket();
        int[][] rows = {{0, 0, 50}, {0, 100, 0}, {0, 100, 100}, {1, 1, 2}, {1, 9, 1}, {1, 9, 9}, {0, 1, 100}};
        for (int[] row : rows) {
            Check.is("previous value", x.set(row[0], row[1]), row[2]);
            Check.is("value", x.count(10 + row[0]), row[1]);
        }
        Check.is("REFUND keeps its value", x.set(0, 101), BAD_VALUE);
        Check.is("REFUND", x.count(10), 1);
        Check.is("REACH keeps its value", x.set(1, 0), BAD_VALUE);
        Check.is("REACH", x.count(11), 9);
    }

    private static void task() {
        range("machine", SlackMarket::new, (x, value) -> x.task(value, 1, 0, 0, NONE), new int[] {0, 3}, NO_SUCH);
        range("duration", SlackMarket::new, (x, value) -> x.task(0, value, 0, 0, NONE), new int[] {1, 100}, BAD_VALUE);
        range("due", SlackMarket::new, (x, value) -> x.task(0, 1, value, 0, NONE), new int[] {0, 3000}, BAD_VALUE);
        range("money", SlackMarket::new, (x, value) -> x.task(0, 1, 0, value, NONE), new int[] {0, 100000}, BAD_VALUE);
        SlackMarket x = new SlackMarket();
        Check.is("all least", x.task(0, 1, 0, 0, NONE), 0);
        Check.is("all greatest", x.task(3, 100, 3000, 100000, 0), 1);
        int[] least = {0, 1, NONE, 0, 0, 1, 1, 0, 0, 0, 0, 0, 0, 2};
        int[] greatest = {3, 100, 0, 0, 1, 101, 0, 2899, 0, 0, 0, 0, 0, 0};
        for (int what = 0; what < 14; what++) {
            Check.is("least, what " + what, x.ofTask(0, what), least[what]);
            Check.is("greatest, what " + what, x.ofTask(1, what), greatest[what]);
        }
        Check.is("least due", x.due(0), 0);
        Check.is("greatest due", x.due(1), 3000);
        Check.is("least money", x.money(0), 0);
        Check.is("greatest money", x.money(1), 100000);
    }

    /** "NO_SUCH if .. ahead is neither NONE nor a task"; "a task with a lower number"; "TOO_MANY if there are 24 tasks" */
    private static void taskAhead() {
        SlackMarket x = new SlackMarket();
        for (int task = 0; task < 24; task++) {
            for (int ahead : new int[] {MIN, -24, -7, -5, -1, task, task + 1, 24, MAX}) {
                Check.is("behind " + ahead + " of " + task, x.task(0, 1, 0, 0, ahead), NO_SUCH);
            }
            Check.is("behind the last", x.task(task % 4, 1, 0, 0, task > 0 ? task - 1 : NONE), task);
            Check.is("what comes ahead", x.ofTask(task, 2), task > 0 ? task - 1 : NONE);
        }
        Check.is("the 25th", x.task(0, 1, 0, 0, 23), TOO_MANY);
        Check.is("the 25th, behind itself", x.task(0, 1, 0, 0, 24), NO_SUCH);
        Check.is("all in a chain", x.count(5), 24);
        Check.is("undo", x.undo(), 5);
        Check.is("the 24th again", x.task(3, 1, 0, 0, 0), 23);
        Check.is("the 25th", x.task(3, 1, 0, 0, 0), TOO_MANY);
    }

    private static void duration() {
        range("hours", EdgesOfCallsTest::five, (x, hours) -> x.duration(0, hours), new int[] {1, 100}, BAD_VALUE);
        range("task", EdgesOfCallsTest::five, (x, task) -> x.duration(task, 5), new int[] {0, 12}, NO_SUCH);
        SlackMarket x = five();
        Check.is("1 before", x.duration(0, 100), 1);
        Check.is("100 before", x.duration(0, 100), 100);
        Check.is("end", x.ofTask(0, 5), 100);
        Check.is("behind", x.ofTask(1, 4), 100);
        Check.is("to the least", x.duration(0, 1), 100);
        Check.is("end", x.ofTask(0, 5), 1);
    }

    private static void move() {
        range("task", EdgesOfCallsTest::five, (x, task) -> x.move(task, 0), new int[] {0, 12}, NO_SUCH);
        range("place", EdgesOfCallsTest::five, (x, place) -> x.move(2, place), new int[] {0, 4}, NO_SUCH);
        SlackMarket x = five();
        Check.is("to its own place", x.move(2, 2), 2);
        Check.is("to the last place", x.move(2, 4), 2);
        Check.is("from the last to the first", x.move(2, 0), 4);
        Check.is("from the first to the last", x.move(2, 4), 0);
        int[] row = {0, 1, 3, 4, 2};
        for (int place = 0; place < 5; place++) {
            Check.is("at " + place, x.at(1, place), row[place]);
            Check.is("place", x.ofTask(row[place], 3), place);
            Check.is("start", x.ofTask(row[place], 4), place);
        }
        x = new SlackMarket();
        x.task(3, 5, 5, 5, NONE);
        Check.is("alone", x.move(0, 0), 0);
        Check.is("place 1 of a row of one", x.move(0, 1), NO_SUCH);
        Check.is("place -1 of a row of one", x.move(0, -1), NO_SUCH);
    }

    private static void moveOfAFullRow() {
        for (int machine = 0; machine < 4; machine++) {
            SlackMarket x = new SlackMarket();
            for (int task = 0; task < 24; task++) {
                x.task(machine, 1, 0, 0, NONE);
            }
            Check.is("place 24", x.move(5, 24), NO_SUCH);
            Check.is("place 23", x.move(0, 23), 0);
            for (int place = 0; place < 24; place++) {
                Check.is("at " + place, x.at(machine, place), (place + 1) % 24);
            }
            Check.is("place 0", x.move(0, 0), 23);
            for (int place = 0; place < 24; place++) {
                Check.is("at " + place, x.at(machine, place), place);
                Check.is("start", x.ofTask(place, 4), place);
            }
            Check.is("behind the row", x.at(machine, 24), NONE);
            Check.is("best place", x.bestPlace(0), 0);
        }
    }

    // -- promises 6 to 9

    private static void offer() {
        range("task", EdgesOfCallsTest::five, (x, task) -> x.offer(task, 5, 5), new int[] {0, 12}, NO_SUCH);
        range("hours", EdgesOfCallsTest::five, (x, hours) -> x.offer(1, hours, 5), new int[] {0, 500}, BAD_VALUE);
        range("price", EdgesOfCallsTest::five, (x, price) -> x.offer(1, 5, price), new int[] {0, 1000}, BAD_VALUE);
        range("price of no offer", EdgesOfCallsTest::five, (x, price) -> x.offer(1, 0, price), new int[] {0, 1000}, BAD_VALUE);
        SlackMarket x = five();
        int[][] rows = {{1, 0, 0}, {500, 1000, 1}, {500, 0, 500}, {1, 1000, 500}, {0, 1000, 1}, {0, 0, 0}, {2, 1, 0}};
        for (int[] row : rows) {
            Check.is("hours before", x.offer(3, row[0], row[1]), row[2]);
            Check.is("hours", x.ofTask(3, 9), row[0]);
            Check.is("price", x.ofTask(3, 10), row[0] == 0 ? 0 : row[1]);
            Check.is("offers", x.count(2), row[0] == 0 ? 0 : 1);
        }
        x = new SlackMarket();
        for (int task = 0; task < 24; task++) {
            x.task(0, 1, 0, 0, NONE);
            Check.is("offer", x.offer(task, 500, 1000), 0);
            Check.is("offers", x.count(2), task + 1);
        }
    }

    private static void trade() {
        SlackMarket x = new SlackMarket();
        Check.is("without tasks", x.trade(), 0);
        x.task(0, 1, 0, 100, NONE);
        Check.is("with a late task alone", x.trade(), 0);
        x.task(0, 1, 100, 0, NONE);
        Check.is("without offers", x.trade(), 0);
        x.offer(1, 1, 100);
        Check.is("one hour", x.trade(), 1);
        Check.is("nobody is late", x.trade(), 0);
        Check.is("each is a change", x.count(9), 6);
        x = new SlackMarket();
        x.task(0, 1, 3000, 0, NONE);
        for (int task = 1; task < 24; task++) {
            x.task(0, 1, 0, 0, 0);
        }
        x.offer(0, 500, 0);
        Check.is("23 buyers", x.trade(), 23);
        Check.is("hours", x.count(7), 23 * 24 / 2 + 23);
        Check.is("the latest one first", x.ofContract(0, 1), 23);
        Check.is("its hours", x.ofContract(0, 2), 24);
        Check.is("nobody is late", x.count(3), 0);
        x.undo();
        x.task(0, 1, 0, 0, NONE);
        x.duration(0, 100);
        x.offer(0, 500, 0);
        Check.is("the offer is too small for all", x.trade(), 5);
        Check.is("all of it", x.count(7), 500);
    }

    /** The buyer of five() with another contract, so that it can give all hours of the first one back. */
    private static SlackMarket fiveAndMore() {
        SlackMarket x = five();
        x.move(12, 7);
        x.offer(1, 100, 0);
        x.trade();
        x.move(12, 0);
        return x;
    }

    private static void refund() {
        range("hours", EdgesOfCallsTest::fiveAndMore, (x, hours) -> x.refund(0, hours), new int[] {1, 500}, BAD_VALUE);
        range("contract", EdgesOfCallsTest::fiveAndMore, (x, contract) -> x.refund(contract, 1), new int[] {0, 1}, NO_SUCH);
        SlackMarket x = fiveAndMore();
        Check.is("hours of it", x.ofContract(0, 2), 500);
        Check.is("one hour", x.refund(0, 1), 499);
        Check.is("500 of 499", x.refund(0, 500), BAD_VALUE);
        Check.is("501 of 499", x.refund(0, 501), BAD_VALUE);
        Check.is("498 of 499", x.refund(0, 498), 1);
        Check.is("2 of 1", x.refund(0, 2), BAD_VALUE);
        Check.is("1 of 1", x.refund(0, 1), 0);
        Check.is("due of the seller", x.due(0), 2500);
        Check.is("the other contract is the first one", x.ofContract(0, 2), 100);
        Check.is("on its due time", x.refund(0, 1), NOT_POSSIBLE);
        Check.is("no second one", x.refund(1, 1), NO_SUCH);
    }

    private static SlackMarket rich() {
        SlackMarket x = new SlackMarket();
        for (int task = 0; task < 3; task++) {
            x.task(task, 1, 0, 100000, NONE);
        }
        return x;
    }

    private static void give() {
        range("giver", EdgesOfCallsTest::rich, (x, from) -> x.give(from, from == 1 ? 0 : 1, 1), new int[] {0, 2}, NO_SUCH);
        range("taker", EdgesOfCallsTest::rich, (x, to) -> x.give(to == 1 ? 0 : 1, to, 1), new int[] {0, 2}, NO_SUCH);
        range("amount", EdgesOfCallsTest::rich, (x, amount) -> x.give(0, 1, amount), new int[] {1, 100000}, BAD_VALUE);
        SlackMarket x = rich();
        for (int task = -1; task <= 3; task++) {
            Check.is("itself", x.give(task, task, 1), NO_SUCH);
        }
        Check.is("100000 of 100000", x.give(0, 2, 100000), 0);
        Check.is("1 of 0", x.give(0, 1, 1), NOT_POSSIBLE);
        Check.is("100000 of 0", x.give(0, 1, 100000), NOT_POSSIBLE);
        Check.is("100000 of 200000", x.give(2, 0, 100000), 100000);
        Check.is("99999 of 100000", x.give(2, 0, 99999), 1);
        Check.is("2 of 1", x.give(2, 0, 2), NOT_POSSIBLE);
        Check.is("1 of 1", x.give(2, 0, 1), 0);
        Check.is("all of both", x.money(0), 200000);
    }

    private static void giveAll() {
        SlackMarket x = new SlackMarket();
        for (int task = 0; task < 24; task++) {
            x.task(0, 1, 0, 100000, NONE);
        }
        for (int task = 1; task < 24; task++) {
            Check.is("give", x.give(task, 0, 100000), 0);
        }
        Check.is("all of it", x.money(0), 2400000);
        Check.is("all money", x.count(6), 2400000);
        Check.is("more than one call gives", x.give(0, 1, 100001), BAD_VALUE);
        Check.is("as much as one call gives", x.give(0, 1, 100000), 2300000);
    }

    // -- promises 10 to 15

    private static void ofTask() {
        SlackMarket x = five();
        for (int what : new int[] {MIN, MIN + 1, -6, -1, 14, 15, 31, 32, MAX}) {
            Check.is("what " + what, x.ofTask(0, what), BAD_VALUE);
            Check.is("what " + what + " of no task", x.ofTask(13, what), NO_SUCH);
        }
        range("task", EdgesOfCallsTest::five, (y, task) -> y.ofTask(task, 0), new int[] {0, 12}, NO_SUCH);
        int[] seller = {1, 1, NONE, 0, 0, 1, 0, 1999, 0, 0, 0, 500, 0, 2 + 32};
        int[] buyer = {0, 100, NONE, 0, 0, 100, 0, 400, 0, 0, 0, 0, 500, 32};
        for (int what = 0; what < 14; what++) {
            Check.is("seller, what " + what, x.ofTask(0, what), seller[what]);
            Check.is("buyer, what " + what, x.ofTask(12, what), buyer[what]);
        }
        Check.is("late by", x.ofTask(5, 6), 101);
        x.refund(0, 400);
        Check.is("sold and did not get back", x.ofTask(0, 11), 100);
        Check.is("bought and has", x.ofTask(12, 12), 100);
        Check.is("late by nothing, to spare nothing", x.ofTask(12, 6) + x.ofTask(12, 7), 0);
        x.undo();
        x.refund(0, 399);
        Check.is("one hour to spare", x.ofTask(12, 7), 1);
    }

    private static void ofTaskWithoutOffer() {
        SlackMarket x = five();
        Check.is("never had one", x.ofTask(1, 9) + x.ofTask(1, 10), 0);
        Check.is("sold all of it", x.ofTask(0, 9) + x.ofTask(0, 10), 0);
        x.offer(1, 1, 1000);
        x.offer(1, 0, 1000);
        Check.is("took it back", x.ofTask(1, 9) + x.ofTask(1, 10), 0);
        x.offer(1, 7, 0);
        Check.is("for nothing", x.ofTask(1, 10), 0);
        Check.is("its hours", x.ofTask(1, 9), 7);
    }

    private static void due() {
        for (int task : new int[] {MIN, NONE, -1, 13, 24, MAX}) {
            Check.is("due of " + task, five().due(task), NO_SUCH);
        }
        Check.is("least", five().due(5), 0);
        Check.is("of a seller", five().due(0), 2000);
        Check.is("of a buyer", five().due(12), 500);
        Check.is("of the last", five().due(11), 2500);
    }

    private static void money() {
        for (int task : new int[] {MIN, NONE, -1, 13, 24, MAX}) {
            Check.is("money of " + task, five().money(task), NO_SUCH);
        }
        Check.is("least", five().money(12), 0);
        Check.is("greatest of a new one", five().money(4), 100000);
    }

    private static void at() {
        SlackMarket x = five();
        for (int machine : new int[] {MIN, NONE, -1, 4, 5, MAX}) {
            for (int place : new int[] {MIN, -1, 0, 24, MAX}) {
                Check.is("no machine " + machine, x.at(machine, place), NO_SUCH);
            }
        }
        int[] tasks = {8, 5, 0, 0};
        for (int machine = 0; machine < 4; machine++) {
            for (int place : new int[] {MIN, MIN + 1, -24, -1, tasks[machine], tasks[machine] + 1, 23, 24, 95, 96, MAX - 1, MAX}) {
                Check.is("no place " + place + " of " + machine, x.at(machine, place), NONE);
            }
        }
        Check.is("the first", x.at(0, 0), 12);
        Check.is("the last", x.at(0, 7), 11);
        Check.is("the first of a machine", x.at(1, 0), 0);
        Check.is("the last of a machine", x.at(1, 4), 4);
    }

    private static void ofContract() {
        SlackMarket x = five();
        for (int what : new int[] {MIN, NONE, -1, 4, 5, MAX}) {
            Check.is("what " + what, x.ofContract(0, what), BAD_VALUE);
            Check.is("what " + what + " of no contract", x.ofContract(1, what), NO_SUCH);
        }
        for (int contract : new int[] {MIN, NONE, -1, 1, 39, 40, MAX}) {
            Check.is("no contract " + contract, x.ofContract(contract, 0), NO_SUCH);
        }
        int[] due = {0, 12, 500, 0};
        for (int what = 0; what < 4; what++) {
            Check.is("what " + what, x.ofContract(0, what), due[what]);
        }
    }

    private static void count() {
        SlackMarket x = five();
        for (int what : new int[] {MIN, MIN + 1, NONE, -1, 16, 17, 31, 32, MAX}) {
            Check.is("what " + what, x.count(what), BAD_VALUE);
        }
        int[] due = {13, 1, 0, 1 << 5, 101, 701, 500000, 500, 0, 6, 50, 3, 8, 5, 0, 0};
        for (int what = 0; what < 16; what++) {
            Check.is("what " + what, x.count(what), due[what]);
        }
    }

    private static void countOfAFullMarket() {
        SlackMarket x = new SlackMarket();
        for (int task = 0; task < 24; task++) {
            x.task(3, 100, 0, 100000, NONE);
        }
        for (int task = 0; task < 24; task++) {
            x.offer(task, 500, 1000);
        }
        x.set(SlackMarket.REFUND, 100);
        x.set(SlackMarket.REACH, 9);
        Texts.put(x, "x;".repeat(40));
        int[] due = {24, 0, 24, ALL, 30000, 2400, 2400000, 0, 80, 6, 100, 9, 0, 0, 0, 24};
        for (int what = 0; what < 16; what++) {
            Check.is("what " + what, x.count(what), due[what]);
        }
    }

    // -- promises 16 to 22

    private static void distance() {
        SlackMarket x = five();
        for (int none : new int[] {MIN, NONE, -1, 13, 24, 32, MAX}) {
            Check.is("from " + none, x.distance(none, 0), NO_SUCH);
            Check.is("to " + none, x.distance(0, none), NO_SUCH);
            Check.is("both " + none, x.distance(none, none), NO_SUCH);
        }
        for (int task = 0; task < 13; task++) {
            Check.is("itself", x.distance(task, task), 0);
        }
        Check.is("one machine", x.distance(0, 4), 1);
        Check.is("ahead", x.distance(0, 5), 1);
        Check.is("of both rows", x.distance(4, 12), 3);
        x.task(2, 1, 1, 1, NONE);
        Check.is("no way", x.distance(13, 0), NONE);
        Check.is("no way", x.distance(0, 13), NONE);
    }

    private static void wouldBuy() {
        SlackMarket x = five();
        for (int none : new int[] {MIN, NONE, -1, 13, 24, MAX}) {
            Check.is("task " + none, x.wouldBuy(none, 0), NO_SUCH);
        }
        for (int what : new int[] {MIN, NONE, -1, 3, 4, MAX}) {
            Check.is("what " + what, x.wouldBuy(5, what), BAD_VALUE);
        }
        x.offer(0, 100, 0);
        for (int what = 0; what < 3; what++) {
            Check.is("late", x.wouldBuy(5, what), new int[] {100, 0, 1}[what]);
            Check.is("not late", x.wouldBuy(12, what), 0);
        }
        x = dear();
        Check.is("without money", x.wouldBuy(23, 0), 0);
        for (int task = 0; task < 23; task++) {
            x.give(task, 23, 100000);
        }
        Check.is("an hour is missing", x.wouldBuy(23, 0), 2300);
        Check.is("cost", x.wouldBuy(23, 1), 2300000);
        Check.is("sellers", x.wouldBuy(23, 2), 31);
    }

    /** Task 23 is late by 2400, and hours cost the most that they can; it has no money, but all the others. */
    private static SlackMarket dear() {
        SlackMarket x = new SlackMarket();
        for (int task = 0; task < 24; task++) {
            x.task(0, 100, task == 23 ? 0 : 3000, task == 23 ? 0 : 100000, NONE);
        }
        for (int task = 0; task < 5; task++) {
            x.offer(task, 500, 1000);
        }
        return x;
    }

    private static void leastMoney() {
        SlackMarket x = dear();
        for (int none : new int[] {MIN, NONE, -1, 24, MAX}) {
            Check.is("task " + none, x.leastMoney(none), NO_SUCH);
        }
        Check.is("the most that it can be", x.leastMoney(23), 2400000);
        Check.is("not late", x.leastMoney(0), 0);
        x.offer(4, 399, 1000);
        Check.is("an hour too few", x.leastMoney(23), NONE);
        x.offer(4, 400, 999);
        Check.is("just enough", x.leastMoney(23), 2400000 - 400);
        x.offer(4, 400, 0);
        Check.is("some for nothing", x.leastMoney(23), 2000000);
        x.set(SlackMarket.REACH, 1);
        Check.is("all of one machine", x.leastMoney(23), 2000000);
        x = new SlackMarket();
        x.task(0, 10, 10, 0, NONE);
        Check.is("on its due time", x.leastMoney(0), 0);
        x.duration(0, 11);
        Check.is("late by 1, no offer", x.leastMoney(0), NONE);
        x.task(0, 1, 13, 0, NONE);
        x.offer(1, 500, 1000);
        Check.is("an hour to spare", x.leastMoney(0), 1000);
        x.duration(1, 2);
        Check.is("none to spare", x.leastMoney(0), NONE);
    }

    private static void endIf() {
        range("hours", EdgesOfCallsTest::five, (x, hours) -> x.endIf(0, 0, hours), new int[] {1, 100}, BAD_VALUE);
        range("task", EdgesOfCallsTest::five, (x, task) -> x.endIf(task, 0, 1), new int[] {0, 12}, NO_SUCH);
        range("changed", EdgesOfCallsTest::five, (x, task) -> x.endIf(0, task, 1), new int[] {0, 12}, NO_SUCH);
        SlackMarket x = dear();
        Check.is("as it is", x.endIf(23, 0, 100), 2400);
        Check.is("the least", x.endIf(23, 0, 1), 2301);
        Check.is("one that is behind it", x.endIf(0, 23, 1), 100);
        Check.is("itself", x.endIf(23, 23, 1), 2301);
        Check.is("nothing changed", x.ofTask(23, 5), 2400);
        Check.is("nothing changed", x.ofTask(0, 1), 100);
    }

    private static void bestPlace() {
        SlackMarket x = dear();
        for (int none : new int[] {MIN, NONE, -1, 24, MAX}) {
            Check.is("task " + none, x.bestPlace(none), NO_SUCH);
        }
        Check.is("the lowest", x.bestPlace(23), 0);
        Check.is("the highest", x.bestPlace(0), 23);
        x.move(23, 0);
        Check.is("its own place, the lowest", x.bestPlace(23), 0);
        Check.is("all are the same, but the first", x.bestPlace(5), 1);
        x = new SlackMarket();
        x.task(0, 1, 3000, 0, NONE);
        Check.is("alone", x.bestPlace(0), 0);
        x.task(0, 1, 3000, 0, NONE);
        Check.is("all are the same", x.bestPlace(1), 0);
        x.duration(0, 100);
        x.task(0, 1, 101, 0, NONE);
        Check.is("one of three", x.bestPlace(0), 2);
        x.duration(0, 99);
        Check.is("its own place, as all are the same", x.bestPlace(0), 0);
        x = new SlackMarket();
        x.task(1, 10, 10, 0, NONE);
        x.task(1, 10, 20, 0, NONE);
        x.task(1, 10, 30, 0, NONE);
        Check.is("only its own place, the middle", x.bestPlace(1), 1);
        Check.is("only its own place, the highest", x.bestPlace(2), 2);
        x = new SlackMarket();
        x.task(2, 1, 100, 0, NONE);
        x.task(2, 1, 0, 0, 0);
        Check.is("the better one is not possible", x.bestPlace(1), 1);
    }

    private static void critical() {
        SlackMarket x = new SlackMarket();
        Check.is("without tasks", x.critical(), 0);
        x.task(0, 5, 0, 0, NONE);
        Check.is("one", x.critical(), 1);
        x.task(1, 5, 0, 0, NONE);
        Check.is("two that end together", x.critical(), 3);
        x.duration(0, 4);
        Check.is("an hour less", x.critical(), 2);
        x.task(1, 1, 0, 0, 0);
        Check.is("it waits for the row just", x.critical(), 6);
        x.duration(0, 5);
        Check.is("it waits for both just", x.critical(), 7);
        x.duration(0, 6);
        Check.is("it waits for what is ahead just", x.critical(), 5);
        x = new SlackMarket();
        for (int task = 0; task < 24; task++) {
            x.task(task % 4, 1, 0, 0, task < 4 ? NONE : task / 4 * 4 - 4);
        }
        Check.is("all of them, or but one for each", x.critical(), ALL);
    }

    private static void lateBehind() {
        SlackMarket x = new SlackMarket();
        Check.is("without tasks", x.lateBehind(), 0);
        x.task(0, 10, 10, 0, NONE);
        Check.is("nobody is late", x.lateBehind(), 0);
        x.duration(0, 11);
        Check.is("late by 1, no offer", x.lateBehind(), 1);
        x.task(0, 10, 22, 0, NONE);
        x.offer(1, 1, 0);
        Check.is("an hour", x.lateBehind(), 0);
        Check.is("late as before", x.count(4), 1);
        x = dear();
        Check.is("without money", x.lateBehind(), 2400);
        x.give(0, 23, 1000);
        Check.is("with money for one", x.lateBehind(), 2399);
        x.give(0, 23, 999);
        Check.is("with money for one yet", x.lateBehind(), 2399);
        Check.is("no contract", x.count(1), 0);
    }
}
