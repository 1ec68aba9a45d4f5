/**
 * Any arguments in any state: no call throws, and calls that return an error or only ask change nothing. The latter is
 * seen on twins: one gets all calls, the other just those changes that were made, and at the end both tell the same.
 */
final class AnyArgumentsTest {
    private static final int[] ODD = {
        Integer.MIN_VALUE, Integer.MIN_VALUE + 1, -100001, -7, -6, -5, -2, -1, 0, 1, 2, 3, 4, 5, 9, 10, 14, 15, 16, 23, 24, 25,
        39, 40, 41, 80, 100, 101, 500, 501, 1000, 1001, 3000, 3001, 99999, 100000, 100001, Integer.MAX_VALUE - 1, Integer.MAX_VALUE,
    };
    private static final String SIGNS = "tdomxr;0123456789/<$^=*@:";
    private static final int RUNS = 2000;
    // What a twin is asked at the end, at most 184 calls, still belongs to the first 512.
    private static final int TURNS = 160;
    private static long seed;

    public static void main(String[] args) {
        for (int run = 0; run < RUNS; run++) {
            seed = 77777L * run + 5;
            twins(run);
        }
        manyCalls();
        Check.end();
    }

    private static int next(int bound) {
        seed = seed * 6364136223846793005L + 1442695040888963407L;
        return (int) ((seed >>> 33) % bound);
    }

    private static int any() {
        return next(3) == 0 ? ODD[next(ODD.length)] : next(3) == 0 ? next(30) - 2 : next(4);
    }

    private static void twins(int run) {
        SlackMarket x = new SlackMarket();
        SlackMarket y = new SlackMarket();
        for (int turn = 0; turn < TURNS; turn++) {
            long begin = seed;
            int answer = change(x);
            if (answer >= 0) {
                // The same call once more, with the same arguments.
                seed = begin;
                Check.is("run " + run + " turn " + turn, change(y), answer);
            }
            ask(x);
        }
        String told = "run " + run;
        switch (run % 4) {
            case 0:
                Check.same(told, numbers(x, 0, 5), numbers(y, 0, 5));
                break;
            case 1:
                Check.same(told, numbers(x, 5, 10), numbers(y, 5, 10));
                break;
            case 2:
                Check.same(told, numbers(x, 10, 14), numbers(y, 10, 14));
                sums(told, y);
                break;
            default:
                Check.same(told, contracts(x), contracts(y));
                break;
        }
    }

    /** A call that may change something. */
    private static int change(SlackMarket x) {
        switch (next(18)) {
            case 0: return x.set(any(), any());
            case 1:
            case 2:
            case 3: return x.task(next(4), 1 + next(100), next(1500), next(9999), next(2) == 0 ? -6 : any());
            case 4: return x.task(any(), any(), any(), any(), any());
            case 5: return x.duration(any(), any());
            case 6: return x.move(any(), any());
            case 7: return x.offer(any(), any(), any());
            case 8:
            case 9: return x.offer(next(24), next(500), next(9));
            case 10: return x.trade();
            case 11: return x.refund(any(), any());
            case 12: return x.give(any(), any(), any());
            case 13: return x.put(next(2) == 0 ? signs() : (long) any() << next(64) ^ any());
            case 14: return next(3) == 0 ? x.wipe() : x.carryOut();
            case 15: return x.undo();
            case 16: return x.save(any());
            default: return x.restore(any());
        }
    }

    /** An order, often, or signs of orders. */
    private static long signs() {
        String[] orders = {"x", ";x", "x;", ";d0=" + next(9), "m1:" + next(3), "o0*9@" + next(9), "t0/9<9$9"};
        if (next(2) == 0) {
            return Texts.packed(orders[next(orders.length)]);
        }
        long text = 0;
        for (int i = next(8); i >= 0; i--) {
            text = text << 8 | SIGNS.charAt(next(SIGNS.length()));
        }
        return text;
    }

    private static void ask(SlackMarket x) {
        switch (next(15)) {
            case 0: x.ofTask(any(), any()); break;
            case 1: x.due(any()); break;
            case 2: x.money(any()); break;
            case 3: x.at(any(), any()); break;
            case 4: x.ofContract(any(), any()); break;
            case 5: x.count(any()); break;
            case 6: x.distance(any(), any()); break;
            case 7: x.wouldBuy(any(), any()); break;
            case 8: x.leastMoney(any()); break;
            case 9: x.endIf(any(), any(), any()); break;
            case 10: x.bestPlace(any()); break;
            case 11: x.critical(); break;
            case 12: x.lateBehind(); break;
            case 13: x.fault(); break;
            default: x.ofTask(next(24), next(14)); break;
        }
    }

    private static String counts(SlackMarket x) {
        StringBuilder text = new StringBuilder();
        for (int what = 0; what < 16; what++) {
            text.append(x.count(what)).append(' ');
        }
        return text.append(x.fault()).toString();
    }

    private static String numbers(SlackMarket x, int from, int to) {
        StringBuilder text = new StringBuilder(counts(x));
        int tasks = x.count(0);
        for (int task = 0; task < tasks; task++) {
            text.append("\n task ").append(task).append(':');
            for (int what = from; what < to; what++) {
                text.append(' ').append(x.ofTask(task, what));
            }
            if (to == 14) {
                text.append(' ').append(x.due(task)).append(' ').append(x.money(task));
            }
        }
        return text.toString();
    }

    private static String contracts(SlackMarket x) {
        StringBuilder text = new StringBuilder(counts(x));
        int contracts = x.count(1);
        for (int contract = 0; contract < contracts; contract++) {
            text.append("\n contract ").append(contract).append(':');
            for (int what = 0; what < 4; what++) {
                text.append(' ').append(x.ofContract(contract, what));
            }
        }
        return text.toString();
    }

    /** Hours of contracts and money net to nothing, and due times and money are never below 0. */
    private static void sums(String told, SlackMarket x) {
        int sold = 0;
        int bought = 0;
        int money = 0;
        int tasks = x.count(0);
        for (int task = 0; task < tasks; task++) {
            sold += x.ofTask(task, 11);
            bought += x.ofTask(task, 12);
            money += x.money(task);
            Check.holds(told + " due and money are not below 0", x.due(task) >= 0 && x.money(task) >= 0);
        }
        Check.is(told + " sold", sold, x.count(7));
        Check.is(told + " bought", bought, x.count(7));
        Check.is(told + " all money", money, x.count(6));
    }

    /** Answers are free behind the 512th call, but no call throws then either: the machine would end this test. */
    private static void manyCalls() {
        for (int run = 0; run < 40; run++) {
            seed = 99991L * run + 3;
            SlackMarket x = new SlackMarket();
            for (int call = 0; call < 20000; call++) {
                change(x);
                ask(x);
            }
        }
    }
}
