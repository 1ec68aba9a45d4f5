/** Promises 1 to 5: a new object, set, task, duration, move. */
final class TasksTest {
    private static final int NO_SUCH = -1, BAD_VALUE = -2, TOO_MANY = -4, NOT_POSSIBLE = -5, NONE = -6;
    private static final int MIN = Integer.MIN_VALUE, MAX = Integer.MAX_VALUE;

    public static void main(String[] args) {
        newObject();
        settings();
        settingsMatter();
        tasks();
        taskErrors();
        tooManyTasks();
        starts();
        durations();
        moves();
        movesThatWait();
        movesInAFullRow();
        Check.end();
    }

    private static void newObject() {
        SlackMarket x = new SlackMarket();
        for (int what = 0; what <= 15; what++) {
            Check.is("new count " + what, x.count(what), what == 10 ? 50 : what == 11 ? 2 : 0);
        }
        for (int machine = 0; machine < 4; machine++) {
            Check.is("new at", x.at(machine, 0), NONE);
        }
        Check.is("new ofTask", x.ofTask(0, 0), NO_SUCH);
        Check.is("new ofContract", x.ofContract(0, 0), NO_SUCH);
        Check.is("new critical", x.critical(), 0);
        Check.is("new lateBehind", x.lateBehind(), 0);
        Check.is("new trade", x.trade(), 0);
        Check.is("new undo behind trade", x.undo(), 0);
        Check.is("new undo", x.undo(), NOT_POSSIBLE);
        Check.is("new restore", x.restore(0), NOT_POSSIBLE);
        Check.is("new fault", x.fault(), 0);
        Check.is("new wipe", x.wipe(), 0);
        Check.is("REFUND", SlackMarket.REFUND, 0);
        Check.is("REACH", SlackMarket.REACH, 1);
    }

    private static void settings() {
        SlackMarket x = new SlackMarket();
        Check.is("set refund 0", x.set(SlackMarket.REFUND, 0), 50);
        Check.is("set refund 100", x.set(SlackMarket.REFUND, 100), 0);
        Check.is("set refund 101", x.set(SlackMarket.REFUND, 101), BAD_VALUE);
        Check.is("set refund -1", x.set(SlackMarket.REFUND, -1), BAD_VALUE);
        Check.is("set reach 9", x.set(SlackMarket.REACH, 9), 2);
        Check.is("set reach 1", x.set(SlackMarket.REACH, 1), 9);
        Check.is("set reach 0", x.set(SlackMarket.REACH, 0), BAD_VALUE);
        Check.is("set reach 10", x.set(SlackMarket.REACH, 10), BAD_VALUE);
        Check.is("set 2", x.set(2, 5), BAD_VALUE);
        Check.is("set -1", x.set(-1, 5), BAD_VALUE);
        Check.is("set extremes", x.set(MIN, MAX), BAD_VALUE);
        Check.is("count 10", x.count(10), 100);
        Check.is("count 11", x.count(11), 1);
        Check.is("changes", x.count(9), 4);
    }

    private static void settingsMatter() {
        SlackMarket x = new SlackMarket();
        x.task(0, 5, 0, 100, NONE);
        x.task(1, 1, 100, 0, 0);
        x.task(2, 1, 100, 0, 1);
        x.task(3, 1, 100, 0, 2);
        x.offer(3, 10, 1);
        Check.is("out of reach", x.wouldBuy(0, 0), 0);
        x.set(SlackMarket.REACH, 3);
        Check.is("in reach", x.wouldBuy(0, 0), 5);
        x.trade();
        x.duration(0, 1);
        x.set(SlackMarket.REFUND, 99);
        x.refund(0, 2);
        Check.is("refund of 198 in 100, rounded down", x.money(0), 96);
    }

    private static void tasks() {
        SlackMarket x = new SlackMarket();
        Check.is("first task", x.task(3, 1, 0, 0, NONE), 0);
        Check.is("second task", x.task(0, 100, 3000, 100000, 0), 1);
        Check.is("third task", x.task(3, 7, 12, 34, 1), 2);
        Check.is("machine", x.ofTask(1, 0), 0);
        Check.is("duration", x.ofTask(1, 1), 100);
        Check.is("ahead", x.ofTask(1, 2), 0);
        Check.is("no ahead", x.ofTask(0, 2), NONE);
        Check.is("due", x.due(1), 3000);
        Check.is("money", x.money(1), 100000);
        Check.is("place at the end", x.ofTask(2, 3), 1);
        Check.is("no offer", x.ofTask(2, 9), 0);
        Check.is("changes", x.count(9), 3);
    }

    private static void taskErrors() {
        SlackMarket x = new SlackMarket();
        x.task(0, 5, 5, 5, NONE);
        Check.is("machine -1", x.task(-1, 5, 5, 5, NONE), NO_SUCH);
        Check.is("machine 4", x.task(4, 5, 5, 5, NONE), NO_SUCH);
        Check.is("machine ahead of value", x.task(4, 0, 5, 5, NONE), NO_SUCH);
        Check.is("ahead is itself", x.task(0, 5, 5, 5, 1), NO_SUCH);
        Check.is("ahead -1", x.task(0, 5, 5, 5, -1), NO_SUCH);
        Check.is("ahead -5", x.task(0, 5, 5, 5, -5), NO_SUCH);
        Check.is("ahead -7", x.task(0, 5, 5, 5, -7), NO_SUCH);
        Check.is("ahead of value", x.task(0, 0, 5, 5, MAX), NO_SUCH);
        Check.is("duration 0", x.task(0, 0, 5, 5, NONE), BAD_VALUE);
        Check.is("duration 101", x.task(0, 101, 5, 5, NONE), BAD_VALUE);
        Check.is("due -1", x.task(0, 5, -1, 5, NONE), BAD_VALUE);
        Check.is("due 3001", x.task(0, 5, 3001, 5, NONE), BAD_VALUE);
        Check.is("money -1", x.task(0, 5, 5, -1, 0), BAD_VALUE);
        Check.is("money 100001", x.task(0, 5, 5, 100001, 0), BAD_VALUE);
        Check.is("still one task", x.count(0), 1);
        Check.is("still one change", x.count(9), 1);
    }

    private static void tooManyTasks() {
        SlackMarket x = new SlackMarket();
        for (int i = 0; i < 24; i++) {
            Check.is("task " + i, x.task(i % 2, 1, 0, 0, i - 1 < 0 ? NONE : i - 1), i);
        }
        Check.is("task 24", x.task(0, 1, 0, 0, NONE), TOO_MANY);
        Check.is("NO_SUCH is named first", x.task(0, 1, 0, 0, 24), NO_SUCH);
        Check.is("BAD_VALUE is named first", x.task(0, 0, 0, 0, NONE), BAD_VALUE);
        Check.is("tasks", x.count(0), 24);
        Check.is("of machine 0", x.count(12), 12);
        Check.is("end of all", x.count(5), 24);
        Check.is("late together", x.count(4), 12 * 25);
        Check.is("offers", x.count(2), 0);
        Check.is("money", x.count(6), 0);
        Check.is("chain of all", x.critical(), (1 << 24) - 1);
        Check.is("late of all", x.count(3), (1 << 24) - 1);
    }

    private static void starts() {
        SlackMarket x = new SlackMarket();
        x.task(0, 5, 100, 0, NONE);
        x.task(1, 9, 100, 0, NONE);
        x.task(0, 2, 100, 0, 1);
        x.task(1, 4, 100, 0, 0);
        x.task(2, 1, 100, 0, 0);
        Check.is("starts behind what comes ahead", x.ofTask(2, 4), 9);
        Check.is("ends its duration later", x.ofTask(2, 5), 11);
        Check.is("starts behind its row", x.ofTask(3, 4), 9);
        Check.is("ends", x.ofTask(3, 5), 13);
        Check.is("starts behind another machine", x.ofTask(4, 4), 5);
        Check.is("starts at 0", x.ofTask(1, 4), 0);
    }

    private static void durations() {
        SlackMarket x = new SlackMarket();
        x.task(0, 5, 100, 0, NONE);
        x.task(0, 6, 100, 0, NONE);
        x.task(1, 7, 100, 0, 0);
        Check.is("duration 100", x.duration(0, 100), 5);
        Check.is("row follows", x.ofTask(1, 5), 106);
        Check.is("chain follows", x.ofTask(2, 5), 107);
        Check.is("duration 1", x.duration(0, 1), 100);
        Check.is("row follows back", x.ofTask(1, 5), 7);
        Check.is("duration 0", x.duration(0, 0), BAD_VALUE);
        Check.is("duration 101", x.duration(0, 101), BAD_VALUE);
        Check.is("no task 3", x.duration(3, 0), NO_SUCH);
        Check.is("no task -1", x.duration(-1, 5), NO_SUCH);
        Check.is("unchanged", x.ofTask(0, 1), 1);
        Check.is("changes", x.count(9), 5);
    }

    private static void moves() {
        SlackMarket x = new SlackMarket();
        for (int i = 0; i < 5; i++) {
            x.task(0, i + 1, 100, 0, NONE);
        }
        x.task(1, 1, 100, 0, NONE);
        Check.is("to the end", x.move(1, 4), 1);
        row(x, 0, 2, 3, 4, 1);
        Check.is("to the front", x.move(3, 0), 2);
        row(x, 3, 0, 2, 4, 1);
        Check.is("by one", x.move(2, 1), 2);
        row(x, 3, 2, 0, 4, 1);
        Check.is("ends follow", x.ofTask(0, 5), 8);
        Check.is("stays", x.move(0, 2), 2);
        row(x, 3, 2, 0, 4, 1);
        Check.is("place 5", x.move(0, 5), NO_SUCH);
        Check.is("place -1", x.move(0, -1), NO_SUCH);
        Check.is("task 6", x.move(6, 0), NO_SUCH);
        Check.is("task -1", x.move(-1, 0), NO_SUCH);
        Check.is("place 1 of a row of one", x.move(5, 1), NO_SUCH);
        Check.is("place 0 of a row of one", x.move(5, 0), 0);
        row(x, 3, 2, 0, 4, 1);
        Check.is("changes", x.count(9), 6);
    }

    private static void row(SlackMarket x, int... tasks) {
        for (int place = 0; place < tasks.length; place++) {
            Check.is("place " + place, x.at(0, place), tasks[place]);
            Check.is("place of " + tasks[place], x.ofTask(tasks[place], 3), place);
        }
        Check.is("behind the row", x.at(0, tasks.length), NONE);
    }

    private static void movesThatWait() {
        SlackMarket x = new SlackMarket();
        x.task(0, 3, 50, 0, NONE);
        x.task(1, 4, 50, 0, 0);
        x.task(0, 5, 50, 0, 1);
        x.task(1, 6, 50, 0, NONE);
        Check.is("behind its own follower's follower", x.move(0, 1), NOT_POSSIBLE);
        Check.is("ahead of what it waits for", x.move(2, 0), NOT_POSSIBLE);
        row(x, 0, 2);
        Check.is("end 0", x.ofTask(0, 5), 3);
        Check.is("end 1", x.ofTask(1, 5), 7);
        Check.is("end 2", x.ofTask(2, 5), 12);
        Check.is("end 3", x.ofTask(3, 5), 13);
        Check.is("nothing recorded", x.count(9), 4);
        Check.is("free to go", x.move(3, 0), 1);
        Check.is("end 3", x.ofTask(3, 5), 6);
        Check.is("end 1", x.ofTask(1, 5), 10);
        Check.is("end 2", x.ofTask(2, 5), 15);
    }

    private static void movesInAFullRow() {
        SlackMarket x = new SlackMarket();
        for (int i = 0; i < 24; i++) {
            x.task(3, i + 1, 300, 0, NONE);
        }
        Check.is("to the end", x.move(0, 23), 0);
        Check.is("the end", x.at(3, 23), 0);
        Check.is("the one before", x.at(3, 22), 23);
        Check.is("behind the end", x.at(3, 24), NONE);
        Check.is("place 24", x.move(0, 24), NO_SUCH);
        Check.is("end of all", x.ofTask(0, 5), 300);
        Check.is("to the front", x.move(0, 0), 23);
        Check.is("the front", x.at(3, 0), 0);
        Check.is("the end", x.at(3, 23), 23);
        Check.is("best place", x.bestPlace(23), 0);
        Check.is("nobody waits for the last", x.ofTask(23, 13), 0);
        Check.is("chain of all", x.critical(), (1 << 24) - 1);
    }
}
