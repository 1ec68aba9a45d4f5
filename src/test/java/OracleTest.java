/** Runs of calls, made by a fixed rule, on the program and on the oracle: each answer has to be the same. */
final class OracleTest {
    private static final int NONE = -6;
    private static final int RUNS = 500;
    // What later calls on an object answer is free. Here each call is one answer that is checked.
    private static final int CALLS = 512;
    private static long seed;
    private static int begun;

    public static void main(String[] args) {
        int[] reached = new int[8];
        for (int run = 0; run < RUNS; run++) {
            seed = 1000003L * run + 17;
            run(run, reached);
        }
        String[] what = {"trades of contracts", "full of contracts", "refunds", "orders of texts", "moves that are not possible",
            "least money", "slack", "tasks in full"};
        for (int i = 0; i < what.length; i++) {
            Check.holds(what[i] + " came up", reached[i] > 0);
        }
        Check.end();
    }

    private static int next(int bound) {
        seed = seed * 6364136223846793005L + 1442695040888963407L;
        return (int) ((seed >>> 33) % bound);
    }

    /** Mostly from 0 to below a bound, now and then beside it. */
    private static int index(int bound) {
        int luck = next(40);
        if (luck == 0) {
            return -1 - next(8);
        }
        return luck == 1 || bound <= 0 ? bound + next(3) : next(bound);
    }

    /** Mostly within a range, now and then its edges and just beyond them. */
    private static int within(int least, int most) {
        int luck = next(40);
        switch (luck) {
            case 0: return least - 1;
            case 1: return most + 1;
            case 2: return least;
            case 3: return most;
            default: return least + next(most - least + 1);
        }
    }

    private static void run(int run, int[] reached) {
        SlackMarket x = new SlackMarket();
        Oracle y = new Oracle();
        // Runs differ by how many tasks, how tight and how dear they are, and by what they change: a third of them trades.
        int most = 2 + next(23);
        int tight = 10 + next(1 + next(900));
        int dear = 1 + next(1 + next(1000));
        int small = 1 + next(100);
        int trading = next(3) == 0 ? 7 : 0;
        // A text takes some 25 calls; the others are left for a look at all there is.
        int kept = 40 + next(300);
        begun = Check.asked();
        while (left() > kept) {
            String told = "run " + run + " call " + (CALLS - left()) + " ";
            if (next(100) < 55) {
                change(told, x, y, new int[] {most, tight, dear, small, trading}, reached);
            } else {
                ask(told, x, y, reached);
            }
        }
        lookAround("run " + run + " behind all calls ", x, y);
        reached[1] += y.count(1) == 40 ? 1 : 0;
        reached[7] += y.count(0) == 24 ? 1 : 0;
    }

    private static void change(String told, SlackMarket x, Oracle y, int[] shape, int[] reached) {
        int n = y.count(0);
        int a = index(n);
        int b = index(n);
        if (n < shape[0] && next(3) > 0) {
            int machine = within(0, 3);
            int duration = next(20) == 0 ? within(1, 100) : 1 + next(shape[3]);
            int due = next(20) == 0 ? within(0, 3000) : next(shape[1]);
            int money = within(0, next(3) == 0 ? 100000 : 2000);
            int ahead = next(2) == 0 ? NONE : a;
            Check.is(told + "task", x.task(machine, duration, due, money, ahead), y.task(machine, duration, due, money, ahead));
            return;
        }
        int hours;
        int answer;
        switch (next(10) < shape[4] ? 5 + next(5) : next(14)) {
            case 0:
                int setting = next(2);
                int value = setting == 0 ? within(0, 100) : within(1, 9);
                setting = next(30) == 0 ? 2 - 3 * next(2) : setting;
                Check.is(told + "set", x.set(setting, value), y.set(setting, value));
                break;
            case 1:
            case 2:
                hours = next(4) == 0 ? within(1, 100) : 1 + next(shape[3]);
                Check.is(told + "duration", x.duration(a, hours), y.duration(a, hours));
                break;
            case 3:
            case 4:
                hours = index(y.ofTask(a, 0) < 0 ? 3 : y.count(12 + y.ofTask(a, 0)));
                answer = y.move(a, hours);
                reached[4] += answer == -5 ? 1 : 0;
                Check.is(told + "move", x.move(a, hours), answer);
                break;
            case 5:
            case 6:
            case 7:
                hours = next(3) == 0 ? within(0, 500) : 1 + next(20);
                int price = next(6) == 0 ? within(0, 1000) : next(shape[2]);
                Check.is(told + "offer", x.offer(a, hours, price), y.offer(a, hours, price));
                break;
            case 8:
            case 9:
                answer = y.trade();
                reached[0] += answer;
                Check.is(told + "trade", x.trade(), answer);
                break;
            case 10:
                int contract = index(y.count(1));
                int has = Math.max(1, y.ofContract(contract, 2));
                hours = next(4) == 0 ? has : within(1, has);
                answer = y.refund(contract, hours);
                reached[2] += answer >= 0 ? 1 : 0;
                Check.is(told + "refund", x.refund(contract, hours), answer);
                break;
            case 11:
                int amount = next(3) == 0 ? within(1, 100000) : within(1, Math.max(1, y.money(a)));
                Check.is(told + "give", x.give(a, b, amount), y.give(a, b, amount));
                break;
            case 12:
                text(told, x, y, shape, reached);
                break;
            default:
                state(told, x, y);
                break;
        }
    }

    private static void state(String told, SlackMarket x, Oracle y) {
        int slot = next(20) == 0 ? within(0, 1) : next(2);
        switch (next(4)) {
            case 0: Check.is(told + "save", x.save(slot), y.save(slot)); break;
            case 1: Check.is(told + "restore", x.restore(slot), y.restore(slot)); break;
            default: Check.is(told + "undo", x.undo(), y.undo()); break;
        }
    }

    /** Orders, sometimes with a sign that is cut, doubled or another one. */
    private static void text(String told, SlackMarket x, Oracle y, int[] shape, int[] reached) {
        StringBuilder text = new StringBuilder();
        int orders = 1 + next(6);
        for (int i = 0; i < orders; i++) {
            text.append(i == 0 && y.count(8) == 0 ? "" : ";").append(order(y, shape));
        }
        if (next(3) == 0) {
            int place = next(text.length());
            switch (next(3)) {
                case 0: text.deleteCharAt(place); break;
                case 1: text.insert(place, "0123456789;tdomxr/<$^=*@:".charAt(next(25))); break;
                default: text.setCharAt(place, (char) (33 + next(94))); break;
            }
        }
        for (int i = 0; i < text.length(); i += 8) {
            long packed = Texts.packed(text.substring(i, Math.min(i + 8, text.length())));
            packed ^= next(60) == 0 ? 128L << 8 * next(8) : next(60) == 0 ? 255L << 8 * next(8) : 0;
            Check.is(told + "put", x.put(packed), y.put(packed));
        }
        Check.is(told + "fault of " + text, x.fault(), y.fault());
        if (next(8) > 0) {
            int answer = y.carryOut();
            reached[3] += Math.max(0, answer);
            Check.is(told + "carryOut of " + text, x.carryOut(), answer);
        }
        if (next(2) == 0) {
            Check.is(told + "wipe", x.wipe(), y.wipe());
        }
    }

    private static String order(Oracle y, int[] shape) {
        int n = Math.max(1, y.count(0));
        int task = next(20) == 0 ? n : next(n);
        switch (next(6)) {
            case 0:
                return "t" + next(4) + "/" + (1 + next(shape[3])) + "<" + next(shape[1]) + "$" + next(2000)
                        + (next(2) == 0 ? "" : "^" + task);
            case 1: return "d" + task + "=" + (1 + next(shape[3]));
            case 2: return "o" + task + "*" + next(40) + "@" + next(shape[2]);
            case 3: return "m" + task + ":" + next(6);
            case 4: return "x";
            default: return "r" + next(Math.max(1, y.count(1))) + "*" + (1 + next(9));
        }
    }

    private static void ask(String told, SlackMarket x, Oracle y, int[] reached) {
        int n = y.count(0);
        int a = index(n);
        int b = index(n);
        int what;
        int answer;
        switch (next(14)) {
            case 0: what = index(14); Check.is(told + "ofTask " + what, x.ofTask(a, what), y.ofTask(a, what)); break;
            case 1: Check.is(told + "due", x.due(a), y.due(a)); break;
            case 2: Check.is(told + "money", x.money(a), y.money(a)); break;
            case 3: what = index(4); Check.is(told + "at", x.at(what, b), y.at(what, b)); break;
            case 4:
                int contract = index(y.count(1));
                what = index(4);
                Check.is(told + "ofContract", x.ofContract(contract, what), y.ofContract(contract, what));
                break;
            case 5: what = index(16); Check.is(told + "count " + what, x.count(what), y.count(what)); break;
            case 6: Check.is(told + "distance", x.distance(a, b), y.distance(a, b)); break;
            case 7: what = index(3); Check.is(told + "wouldBuy " + what, x.wouldBuy(a, what), y.wouldBuy(a, what)); break;
            case 8:
                answer = y.leastMoney(a);
                reached[5] += answer > 0 ? 1 : 0;
                Check.is(told + "leastMoney", x.leastMoney(a), answer);
                break;
            case 9: what = within(1, 100); Check.is(told + "endIf", x.endIf(a, b, what), y.endIf(a, b, what)); break;
            case 10: Check.is(told + "bestPlace", x.bestPlace(a), y.bestPlace(a)); break;
            case 11: Check.is(told + "critical", x.critical(), y.critical()); break;
            case 12: Check.is(told + "lateBehind", x.lateBehind(), y.lateBehind()); break;
            default:
                answer = y.ofTask(a, 8);
                reached[6] += answer > 0 ? 1 : 0;
                Check.is(told + "slack", x.ofTask(a, 8), answer);
                break;
        }
    }

    private static int left() {
        return CALLS - (Check.asked() - begun);
    }

    /** Looks at one thing after the other, up to the last call; where it begins is another one in each run. */
    private static void lookAround(String told, SlackMarket x, Oracle y) {
        int all = 16 + 16 * y.count(0) + 4 * y.count(1);
        int first = next(all);
        for (int i = 0; i < all && left() > 0; i++) {
            look(told, x, y, (first + i) % all);
        }
        Check.holds("no more calls than an object is used for", left() >= 0);
    }

    private static void look(String told, SlackMarket x, Oracle y, int number) {
        int ofTasks = number - 16;
        int ofContracts = ofTasks - 16 * y.count(0);
        if (number < 16) {
            Check.is(told + "count " + number, x.count(number), y.count(number));
        } else if (ofContracts >= 0) {
            int contract = ofContracts / 4;
            int what = ofContracts % 4;
            Check.is(told + "ofContract " + contract + " " + what, x.ofContract(contract, what), y.ofContract(contract, what));
        } else if (ofTasks % 16 < 14) {
            int what = ofTasks % 16;
            Check.is(told + "ofTask " + ofTasks / 16 + " " + what, x.ofTask(ofTasks / 16, what), y.ofTask(ofTasks / 16, what));
        } else if (ofTasks % 16 == 14) {
            Check.is(told + "due " + ofTasks / 16, x.due(ofTasks / 16), y.due(ofTasks / 16));
        } else {
            Check.is(told + "money " + ofTasks / 16, x.money(ofTasks / 16), y.money(ofTasks / 16));
        }
    }
}
