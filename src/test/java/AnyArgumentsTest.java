/** Any arguments in any state: no call throws, errors change nothing, and money and due times net to nothing. */
final class AnyArgumentsTest {
    private static final int[] ODD = {
        Integer.MIN_VALUE, Integer.MIN_VALUE + 1, -100001, -7, -6, -5, -2, -1, 0, 1, 2, 3, 4, 5, 9, 10, 14, 15, 16, 23, 24, 25,
        39, 40, 41, 80, 100, 101, 500, 501, 1000, 1001, 3000, 3001, 99999, 100000, 100001, Integer.MAX_VALUE - 1, Integer.MAX_VALUE,
    };
    private static long seed;

    public static void main(String[] args) {
        for (int run = 0; run < 400; run++) {
            seed = 77777L * run + 5;
            run(run);
        }
        Check.end();
    }

    private static int next(int bound) {
        seed = seed * 6364136223846793005L + 1442695040888963407L;
        return (int) ((seed >>> 33) % bound);
    }

    private static int any() {
        return next(3) == 0 ? ODD[next(ODD.length)] : next(3) == 0 ? next(30) - 2 : next(4);
    }

    private static void run(int run) {
        SlackMarket x = new SlackMarket();
        for (int call = 0; call < 512; call++) {
            String told = "run " + run + " call " + call;
            long before = print(x);
            int kept = x.count(9);
            int answer = change(x);
            if (answer < 0) {
                Check.is(told + " error changes nothing", print(x), before);
                Check.is(told + " error records nothing", x.count(9), kept);
            } else {
                Check.is(told + " records", x.count(9), Math.min(kept + 1, 6));
                if (next(5) == 0 && kept < 6) {
                    Check.is(told + " undo", x.undo(), kept);
                    Check.is(told + " undone", print(x), before);
                }
            }
            before = print(x);
            ask(x);
            Check.is(told + " asking changes nothing", print(x), before);
            sums(told, x);
        }
    }

    private static int change(SlackMarket x) {
        switch (next(12)) {
            case 0: return x.set(any(), any());
            case 1:
            case 2:
            case 3: return x.task(next(4), 1 + next(100), next(1500), next(9999), next(2) == 0 ? -6 : any());
            case 4: return x.task(any(), any(), any(), any(), any());
            case 5: return x.duration(any(), any());
            case 6: return x.move(any(), any());
            case 7: return x.offer(any(), any(), any());
            case 8: return x.offer(next(24), next(500), next(9));
            case 9: return x.trade();
            case 10: return x.refund(any(), any());
            default: return x.give(any(), any(), any());
        }
    }

    private static void ask(SlackMarket x) {
        x.ofTask(any(), any());
        x.due(any());
        x.money(any());
        x.at(any(), any());
        x.ofContract(any(), any());
        x.count(any());
        x.distance(any(), any());
        x.wouldBuy(any(), any());
        x.leastMoney(any());
        x.endIf(any(), any(), any());
        x.bestPlace(any());
        x.critical();
        x.lateBehind();
        x.put((long) any() << next(64) ^ any());
        x.fault();
        if (next(9) == 0) {
            x.wipe();
        }
        x.save(any());
    }

    /** A number that is another one, nearly always, if anything is different. */
    private static long print(SlackMarket x) {
        long sum = 0;
        for (int what = 0; what < 16; what++) {
            sum = sum * 31 + (what == 8 || what == 9 ? 0 : x.count(what));
        }
        for (int task = 0; task < x.count(0); task++) {
            for (int what = 0; what < 14; what++) {
                sum = sum * 1000003 + x.ofTask(task, what);
            }
            sum = sum * 1000003 + x.due(task) * 31 + x.money(task);
        }
        for (int contract = 0; contract < x.count(1); contract++) {
            for (int what = 0; what < 4; what++) {
                sum = sum * 1000003 + x.ofContract(contract, what);
            }
        }
        return sum;
    }

    private static void sums(String told, SlackMarket x) {
        int sold = 0;
        int bought = 0;
        for (int task = 0; task < x.count(0); task++) {
            sold += x.ofTask(task, 11);
            bought += x.ofTask(task, 12);
            Check.holds(told + " due and money are not below 0", x.due(task) >= 0 && x.money(task) >= 0);
        }
        Check.is(told + " sold", sold, x.count(7));
        Check.is(told + " bought", bought, x.count(7));
        Check.holds(told + " contracts", x.count(1) <= 40);
    }
}
