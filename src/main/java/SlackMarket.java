/** A market on which tasks sell time to tasks that are late. Every answer is told in ../shared/DOC.md. */
public final class SlackMarket {
    public static final int NO_SUCH = -1, BAD_VALUE = -2, BAD_TEXT = -3, TOO_MANY = -4, NOT_POSSIBLE = -5, NONE = -6;
    public static final int REFUND = 0, REACH = 1;

    private static final int MACHINES = 4;
    private static final int MAX_TASKS = 24;
    private static final int MAX_DURATION = 100;
    private static final int MAX_DUE = 3000;
    private static final int MAX_MONEY = 100000;
    private static final int MAX_SLACK = 5000;
    private static final int MAX_HOURS = 500;
    private static final int MAX_PRICE = 1000;
    private static final int MAX_CONTRACTS = 40;
    private static final int MAX_REFUND = 100;
    private static final int MAX_REACH = 9;
    private static final int MAX_PAD = 80;
    private static final int MAX_HISTORY = 6;
    // One cell more than states are kept: a change may yet end in an error when its state is copied there.
    private static final int RING = MAX_HISTORY + 1;
    private static final int SLOTS = 2;
    // Above what the hours by which a task can be late cost at the highest price.
    private static final int MONEY_ENOUGH = 100000000;

    private final Market now = new Market();
    // What-ifs are tried on a copy, so that nothing changes.
    private final Market trial = new Market();
    private final History history = new History();
    private final Market[] slots = new Market[SLOTS];
    private final boolean[] slotFilled = new boolean[SLOTS];
    private final Pad pad = new Pad();

    public SlackMarket() {
        for (int slot = 0; slot < SLOTS; slot++) {
            slots[slot] = new Market();
        }
    }

    // ---- tasks

    public int set(int setting, int value) {
        history.prepare(now);
        return history.record(now.changeSetting(setting, value));
    }

    public int task(int machine, int duration, int due, int money, int ahead) {
        history.prepare(now);
        return history.record(now.addTask(machine, duration, due, money, ahead));
    }

    public int duration(int task, int hours) {
        history.prepare(now);
        return history.record(now.changeDuration(task, hours));
    }

    public int move(int task, int place) {
        history.prepare(now);
        return history.record(now.moveTask(task, place));
    }

    // ---- the market

    public int offer(int task, int hours, int price) {
        history.prepare(now);
        return history.record(now.makeOffer(task, hours, price));
    }

    public int trade() {
        history.prepare(now);
        return history.record(now.tradeAll());
    }

    public int refund(int contract, int hours) {
        history.prepare(now);
        return history.record(now.giveBack(contract, hours));
    }

    public int give(int from, int to, int amount) {
        history.prepare(now);
        return history.record(now.giveMoney(from, to, amount));
    }

    // ---- what there is

    public int ofTask(int task, int what) {
        return now.tellOfTask(task, what);
    }

    public long due(int task) {
        return now.plan.has(task) ? now.dueOf[task] : NO_SUCH;
    }

    public int money(int task) {
        return now.plan.has(task) ? now.moneyOf[task] : NO_SUCH;
    }

    public int at(int machine, int place) {
        if (machine < 0 || machine >= MACHINES) {
            return NO_SUCH;
        }
        return now.plan.inRow(machine, place);
    }

    public int ofContract(int contract, int what) {
        return now.contracts.tell(contract, what);
    }

    public int count(int what) {
        switch (what) {
            case 8: return pad.length;
            case 9: return history.kept;
            default: return now.tellOfAll(what);
        }
    }

    // ---- what if; nothing changes

    public int distance(int task, int other) {
        if (!now.plan.has(task) || !now.plan.has(other)) {
            return NO_SUCH;
        }
        now.plan.measureFrom(task);
        return now.plan.links[other];
    }

    public int wouldBuy(int task, int what) {
        if (!now.plan.has(task)) {
            return NO_SUCH;
        }
        if (what < 0 || what > 2) {
            return BAD_VALUE;
        }
        trial.copyFrom(now);
        trial.buyFor(task);
        switch (what) {
            case 0: return now.lateOf(task) - trial.lateOf(task);
            case 1: return now.moneyOf[task] - trial.moneyOf[task];
            default: return trial.contracts.sellersSince(now.contracts.total);
        }
    }

    public int leastMoney(int task) {
        if (!now.plan.has(task)) {
            return NO_SUCH;
        }
        // The cheapest hours are bought first, so what they cost without a limit is the least that does.
        trial.copyFrom(now);
        trial.moneyOf[task] = MONEY_ENOUGH;
        trial.buyFor(task);
        return trial.lateOf(task) > 0 ? NONE : MONEY_ENOUGH - trial.moneyOf[task];
    }

    public int endIf(int task, int changed, int hours) {
        if (!now.plan.has(task) || !now.plan.has(changed)) {
            return NO_SUCH;
        }
        trial.copyFrom(now);
        int previous = trial.changeDuration(changed, hours);
        return previous < 0 ? previous : trial.plan.endOf(task);
    }

    public int bestPlace(int task) {
        if (!now.plan.has(task)) {
            return NO_SUCH;
        }
        trial.copyFrom(now);
        return trial.findBestPlace(task);
    }

    public int critical() {
        return now.plan.longestChain();
    }

    public int lateBehind() {
        trial.copyFrom(now);
        trial.tradeAll();
        return trial.lateTogether();
    }

    // ---- texts

    public int put(long characters) {
        return pad.append(characters);
    }

    public int wipe() {
        return pad.clear();
    }

    public int fault() {
        return pad.findFault();
    }

    public int carryOut() {
        if (pad.findFault() != NONE) {
            return BAD_TEXT;
        }
        history.prepare(now);
        int carried = carryOrders();
        pad.clear();
        return history.record(carried);
    }

    private int carryOrders() {
        int carried = 0;
        pad.toStart();
        for (int turn = 0; turn < MAX_PAD; turn++) {
            if (!pad.readOrder() || carryOrder() < 0) {
                break;
            }
            carried++;
            if (!pad.readNext()) {
                break;
            }
        }
        return carried;
    }

    private int carryOrder() {
        int[] given = pad.numbers;
        switch (pad.kind) {
            case 't': return now.addTask(given[0], given[1], given[2], given[3], given[4]);
            case 'd': return now.changeDuration(given[0], given[1]);
            case 'o': return now.makeOffer(given[0], given[1], given[2]);
            case 'm': return now.moveTask(given[0], given[1]);
            case 'r': return now.giveBack(given[0], given[1]);
            default: return now.tradeAll();
        }
    }

    // ---- undo, saving

    public int undo() {
        return history.takeBack(now);
    }

    public int save(int slot) {
        if (slot < 0 || slot >= SLOTS) {
            return BAD_VALUE;
        }
        Market saved = slots[slot];
        if (saved != null) {
            saved.copyFrom(now);
            slotFilled[slot] = true;
        }
        return now.plan.tasks;
    }

    public int restore(int slot) {
        if (slot < 0 || slot >= SLOTS) {
            return BAD_VALUE;
        }
        if (!slotFilled[slot]) {
            return NOT_POSSIBLE;
        }
        history.prepare(now);
        now.copyFrom(slots[slot]);
        return history.record(now.plan.tasks);
    }

    /** The tasks as work: their machines, rows and durations, what comes ahead, and the ends that follow. */
    private static final class Plan {
        int tasks;
        final int[] machineOf = new int[MAX_TASKS];
        final int[] durationOf = new int[MAX_TASKS];
        final int[] aheadOf = new int[MAX_TASKS];
        final int[] ends = new int[MAX_TASKS];
        // Each task stands here behind all tasks that it waits for.
        final int[] order = new int[MAX_TASKS];
        // The row of a machine begins at its number times MAX_TASKS.
        final int[] rows = new int[MACHINES * MAX_TASKS];
        final int[] rowLength = new int[MACHINES];
        // Work space of schedule: how many tasks of each row have an end.
        final int[] rowEnded = new int[MACHINES];
        // Work space of measureFrom: the distances from one task.
        final int[] links = new int[MAX_TASKS];

        void copyFrom(Plan other) {
            tasks = other.tasks;
            System.arraycopy(other.machineOf, 0, machineOf, 0, MAX_TASKS);
            System.arraycopy(other.durationOf, 0, durationOf, 0, MAX_TASKS);
            System.arraycopy(other.aheadOf, 0, aheadOf, 0, MAX_TASKS);
            System.arraycopy(other.ends, 0, ends, 0, MAX_TASKS);
            System.arraycopy(other.order, 0, order, 0, MAX_TASKS);
            System.arraycopy(other.rows, 0, rows, 0, MACHINES * MAX_TASKS);
            System.arraycopy(other.rowLength, 0, rowLength, 0, MACHINES);
        }

        boolean has(int task) {
            return task >= 0 && task < tasks;
        }

        int inRow(int machine, int place) {
            if (machine < 0 || machine >= MACHINES || place < 0 || place >= rowLength[machine]) {
                return NONE;
            }
            return rows[machine * MAX_TASKS + place];
        }

        int placeOf(int task) {
            int machine = machineOf[task];
            for (int place = 0; place < rowLength[machine]; place++) {
                if (inRow(machine, place) == task) {
                    return place;
                }
            }
            return NONE;
        }

        int inFrontOf(int task) {
            return inRow(machineOf[task], placeOf(task) - 1);
        }

        int endOf(int task) {
            return task >= 0 && task < tasks ? ends[task] : 0;
        }

        int startOf(int task) {
            return ends[task] - durationOf[task];
        }

        int endOfAll() {
            int last = 0;
            for (int task = 0; task < tasks; task++) {
                last = Math.max(last, ends[task]);
            }
            return last;
        }

        /** Puts a task at the end of a row; it has no end yet, until schedule is called. */
        void append(int machine, int duration, int ahead) {
            int task = tasks;
            if (task >= MAX_TASKS) {
                return;
            }
            machineOf[task] = machine;
            durationOf[task] = duration;
            aheadOf[task] = ahead;
            rows[machine * MAX_TASKS + rowLength[machine]] = task;
            rowLength[machine]++;
            tasks++;
        }

        /** Brings a task to a place of its row; the ends are as before until schedule is called. */
        void shift(int task, int place) {
            int row = machineOf[task] * MAX_TASKS;
            int from = placeOf(task);
            if (from < 0 || place < 0 || place >= rowLength[machineOf[task]]) {
                return;
            }
            for (int hole = from; hole < place; hole++) {
                rows[row + hole] = rows[row + hole + 1];
            }
            for (int hole = from; hole > place; hole--) {
                rows[row + hole] = rows[row + hole - 1];
            }
            rows[row + place] = task;
        }

        /** Finds all ends anew, and tells whether that can be: not if a task waits for itself. */
        boolean schedule() {
            for (int machine = 0; machine < MACHINES; machine++) {
                rowEnded[machine] = 0;
            }
            for (int task = 0; task < tasks; task++) {
                ends[task] = 0;
            }
            int ended = 0;
            // Each pass ends at least one more task, if no task waits for itself.
            for (int pass = 0; pass < tasks && ended < tasks; pass++) {
                for (int machine = 0; machine < MACHINES; machine++) {
                    ended = scheduleRow(machine, ended);
                }
            }
            return ended == tasks;
        }

        /** Goes on in a row up to a task whose task ahead has no end yet. */
        private int scheduleRow(int machine, int ended) {
            int free = endOf(inRow(machine, rowEnded[machine] - 1));
            while (rowEnded[machine] < rowLength[machine] && ended < tasks) {
                int task = inRow(machine, rowEnded[machine]);
                if (!has(task) || (has(aheadOf[task]) && endOf(aheadOf[task]) == 0)) {
                    break;
                }
                int ready = endOf(aheadOf[task]);
                free = Math.max(free, ready) + durationOf[task];
                ends[task] = free;
                order[ended] = task;
                ended++;
                rowEnded[machine]++;
            }
            return ended;
        }

        int followersOf(int task) {
            int next = inRow(machineOf[task], placeOf(task) + 1);
            int set = has(next) ? 1 << next : 0;
            for (int other = 0; other < tasks; other++) {
                if (aheadOf[other] == task) {
                    set |= 1 << other;
                }
            }
            return set;
        }

        int longestChain() {
            int last = endOfAll();
            int chain = 0;
            for (int i = tasks - 1; i >= 0; i--) {
                int task = order[i];
                if (ends[task] == last || (chain >> task & 1) != 0) {
                    chain |= 1 << task | waitedFor(task);
                }
            }
            return chain;
        }

        /** The set of tasks at whose ends a task starts. */
        private int waitedFor(int task) {
            int start = startOf(task);
            int front = inFrontOf(task);
            int ahead = aheadOf[task];
            int set = has(front) && ends[front] == start ? 1 << front : 0;
            return has(ahead) && ends[ahead] == start ? set | 1 << ahead : set;
        }

        /** Fills links with the distances from a task: NONE where no way leads. */
        void measureFrom(int task) {
            for (int other = 0; other < tasks; other++) {
                links[other] = other == task ? 0 : NONE;
            }
            for (int far = 0; far < tasks; far++) {
                for (int other = 0; other < tasks; other++) {
                    if (links[other] == far) {
                        linkFrom(other);
                    }
                }
            }
        }

        private void linkFrom(int task) {
            for (int other = 0; other < tasks; other++) {
                boolean linked = machineOf[task] == machineOf[other] || aheadOf[task] == other || aheadOf[other] == task;
                if (linked && links[other] == NONE) {
                    links[other] = links[task] + 1;
                }
            }
        }
    }

    /** The contracts, numbered in the order in which they were made. */
    private static final class Contracts {
        int total;
        final int[] sellers = new int[MAX_CONTRACTS];
        final int[] buyers = new int[MAX_CONTRACTS];
        final int[] hours = new int[MAX_CONTRACTS];
        final int[] prices = new int[MAX_CONTRACTS];

        void copyFrom(Contracts other) {
            total = other.total;
            System.arraycopy(other.sellers, 0, sellers, 0, MAX_CONTRACTS);
            System.arraycopy(other.buyers, 0, buyers, 0, MAX_CONTRACTS);
            System.arraycopy(other.hours, 0, hours, 0, MAX_CONTRACTS);
            System.arraycopy(other.prices, 0, prices, 0, MAX_CONTRACTS);
        }

        boolean has(int contract) {
            return contract >= 0 && contract < total;
        }

        int tell(int contract, int what) {
            if (!has(contract)) {
                return NO_SUCH;
            }
            switch (what) {
                case 0: return sellers[contract];
                case 1: return buyers[contract];
                case 2: return hours[contract];
                case 3: return prices[contract];
                default: return BAD_VALUE;
            }
        }

        /** Makes a contract, and tells whether there was room for one more. */
        boolean append(int seller, int buyer, int amount, int price) {
            if (total >= MAX_CONTRACTS) {
                return false;
            }
            sellers[total] = seller;
            buyers[total] = buyer;
            hours[total] = amount;
            prices[total] = price;
            total++;
            return true;
        }

        /** Takes hours off a contract, which is gone without hours; answers what it has then. */
        int lessen(int contract, int amount) {
            hours[contract] -= amount;
            int left = hours[contract];
            if (left == 0) {
                remove(contract);
            }
            return left;
        }

        private void remove(int contract) {
            for (int i = contract; i + 1 < total; i++) {
                sellers[i] = sellers[i + 1];
                buyers[i] = buyers[i + 1];
                hours[i] = hours[i + 1];
                prices[i] = prices[i + 1];
            }
            total--;
        }

        int soldBy(int task) {
            int sum = 0;
            for (int i = 0; i < total; i++) {
                sum += sellers[i] == task ? hours[i] : 0;
            }
            return sum;
        }

        int boughtBy(int task) {
            int sum = 0;
            for (int i = 0; i < total; i++) {
                sum += buyers[i] == task ? hours[i] : 0;
            }
            return sum;
        }

        int allHours() {
            int sum = 0;
            for (int i = 0; i < total; i++) {
                sum += hours[i];
            }
            return sum;
        }

        int sellersSince(int first) {
            int set = 0;
            for (int i = Math.max(first, 0); i < total; i++) {
                set |= 1 << sellers[i];
            }
            return set;
        }
    }

    /** Everything except the pad, the slots and the history. */
    private static final class Market {
        final Plan plan = new Plan();
        final Contracts contracts = new Contracts();
        int refundPercent = 50;
        int reach = 2;
        // All due times together stay the same by contracts, so that an int holds each.
        final int[] dueOf = new int[MAX_TASKS];
        final int[] moneyOf = new int[MAX_TASKS];
        final int[] offered = new int[MAX_TASKS];
        final int[] prices = new int[MAX_TASKS];
        // Work space of slackOf: the latest ends with which no task is late.
        final int[] latestEnds = new int[MAX_TASKS];

        void copyFrom(Market other) {
            if (other == null) {
                return;
            }
            plan.copyFrom(other.plan);
            contracts.copyFrom(other.contracts);
            refundPercent = other.refundPercent;
            reach = other.reach;
            System.arraycopy(other.dueOf, 0, dueOf, 0, MAX_TASKS);
            System.arraycopy(other.moneyOf, 0, moneyOf, 0, MAX_TASKS);
            System.arraycopy(other.offered, 0, offered, 0, MAX_TASKS);
            System.arraycopy(other.prices, 0, prices, 0, MAX_TASKS);
        }

        // -- changes: each answers an error and changes nothing, or a number from 0 on

        int changeSetting(int setting, int value) {
            int previous;
            if (setting == REFUND && value >= 0 && value <= MAX_REFUND) {
                previous = refundPercent;
                refundPercent = value;
            } else if (setting == REACH && value >= 1 && value <= MAX_REACH) {
                previous = reach;
                reach = value;
            } else {
                previous = BAD_VALUE;
            }
            return previous;
        }

        int addTask(int machine, int duration, int due, int money, int ahead) {
            if (machine < 0 || machine >= MACHINES || (ahead != NONE && !plan.has(ahead))) {
                return NO_SUCH;
            }
            if (duration < 1 || duration > MAX_DURATION || due < 0 || due > MAX_DUE
                    || money < 0 || money > MAX_MONEY) {
                return BAD_VALUE;
            }
            int task = plan.tasks;
            if (task >= MAX_TASKS) {
                return TOO_MANY;
            }
            dueOf[task] = due;
            moneyOf[task] = money;
            offered[task] = 0;
            prices[task] = 0;
            plan.append(machine, duration, ahead);
            plan.schedule();
            return task;
        }

        int changeDuration(int task, int hours) {
            if (!plan.has(task)) {
                return NO_SUCH;
            }
            if (hours < 1 || hours > MAX_DURATION) {
                return BAD_VALUE;
            }
            int previous = plan.durationOf[task];
            plan.durationOf[task] = hours;
            plan.schedule();
            return previous;
        }

        int moveTask(int task, int place) {
            if (!plan.has(task) || place < 0 || place >= plan.rowLength[plan.machineOf[task]]) {
                return NO_SUCH;
            }
            int previous = plan.placeOf(task);
            plan.shift(task, place);
            if (!plan.schedule()) {
                plan.shift(task, previous);
                plan.schedule();
                return NOT_POSSIBLE;
            }
            return previous;
        }

        int makeOffer(int task, int hours, int price) {
            if (!plan.has(task)) {
                return NO_SUCH;
            }
            if (hours < 0 || hours > MAX_HOURS || price < 0 || price > MAX_PRICE) {
                return BAD_VALUE;
            }
            int previous = offered[task];
            setOffer(task, hours, price);
            return previous;
        }

        private void setOffer(int task, int hours, int price) {
            offered[task] = hours;
            prices[task] = hours > 0 ? price : 0;
        }

        int giveMoney(int from, int to, int amount) {
            if (!plan.has(from) || !plan.has(to) || from == to) {
                return NO_SUCH;
            }
            if (amount < 1 || amount > MAX_MONEY) {
                return BAD_VALUE;
            }
            if (moneyOf[from] < amount) {
                return NOT_POSSIBLE;
            }
            moneyOf[from] -= amount;
            moneyOf[to] += amount;
            return moneyOf[from];
        }

        int giveBack(int contract, int hours) {
            if (!contracts.has(contract)) {
                return NO_SUCH;
            }
            if (hours < 1 || hours > MAX_HOURS || hours > contracts.hours[contract]) {
                return BAD_VALUE;
            }
            int seller = contracts.sellers[contract];
            int buyer = contracts.buyers[contract];
            int back = hours * contracts.prices[contract] * refundPercent / 100;
            if (dueOf[buyer] - hours < plan.ends[buyer] || moneyOf[seller] < back) {
                return NOT_POSSIBLE;
            }
            dueOf[buyer] -= hours;
            dueOf[seller] += hours;
            moneyOf[seller] -= back;
            moneyOf[buyer] += back;
            return contracts.lessen(contract, hours);
        }

        /** All tasks that are late buy; answers how many contracts came of it. */
        int tradeAll() {
            int before = contracts.total;
            int served = 0;
            for (int turn = 0; turn < plan.tasks; turn++) {
                int buyer = latestExcept(served);
                if (buyer == NONE) {
                    break;
                }
                served |= 1 << buyer;
                buyFor(buyer);
            }
            return contracts.total - before;
        }

        private int latestExcept(int served) {
            int latest = NONE;
            for (int task = 0; task < plan.tasks; task++) {
                if ((served >> task & 1) == 0 && lateOf(task) > (latest == NONE ? 0 : lateOf(latest))) {
                    latest = task;
                }
            }
            return latest;
        }

        /** One task buys from the offers in its reach, as long as it is late. */
        void buyFor(int buyer) {
            plan.measureFrom(buyer);
            int asked = 1 << buyer;
            for (int turn = 0; turn < plan.tasks && lateOf(buyer) > 0; turn++) {
                int seller = bestSellerExcept(asked);
                if (seller == NONE) {
                    break;
                }
                asked |= 1 << seller;
                buyFrom(seller, buyer);
            }
        }

        private int bestSellerExcept(int asked) {
            int best = NONE;
            for (int task = 0; task < plan.tasks; task++) {
                if ((asked >> task & 1) == 0 && isInReach(task) && (best == NONE || isBetterSeller(task, best))) {
                    best = task;
                }
            }
            return best;
        }

        private boolean isInReach(int seller) {
            int links = plan.links[seller];
            return offered[seller] > 0 && links != NONE && links <= reach;
        }

        private boolean isBetterSeller(int task, int other) {
            if (prices[task] != prices[other]) {
                return prices[task] < prices[other];
            }
            return plan.links[task] < plan.links[other];
        }

        private void buyFrom(int seller, int buyer) {
            int price = prices[seller];
            int hours = Math.min(lateOf(buyer), Math.min(offered[seller], spareOf(seller)));
            if (price > 0) {
                hours = Math.min(hours, moneyOf[buyer] / price);
            }
            if (hours <= 0 || !contracts.append(seller, buyer, hours, price)) {
                return;
            }
            dueOf[seller] -= hours;
            dueOf[buyer] += hours;
            moneyOf[buyer] -= hours * price;
            moneyOf[seller] += hours * price;
            setOffer(seller, offered[seller] - hours, price);
        }

        // -- what follows from the tasks

        int lateOf(int task) {
            return Math.max(0, plan.ends[task] - dueOf[task]);
        }

        int spareOf(int task) {
            return Math.max(0, dueOf[task] - plan.ends[task]);
        }

        int lateTogether() {
            int sum = 0;
            for (int task = 0; task < plan.tasks; task++) {
                sum += lateOf(task);
            }
            return sum;
        }

        private int lateTasks() {
            int set = 0;
            for (int task = 0; task < plan.tasks; task++) {
                set |= lateOf(task) > 0 ? 1 << task : 0;
            }
            return set;
        }

        private int offers() {
            int sum = 0;
            for (int task = 0; task < plan.tasks; task++) {
                sum += offered[task] > 0 ? 1 : 0;
            }
            return sum;
        }

        private int allMoney() {
            int sum = 0;
            for (int task = 0; task < plan.tasks; task++) {
                sum += moneyOf[task];
            }
            return sum;
        }

        private int slackOf(int task) {
            if (lateTogether() > 0) {
                return 0;
            }
            for (int other = 0; other < plan.tasks; other++) {
                latestEnds[other] = dueOf[other];
            }
            for (int i = plan.tasks - 1; i >= 0; i--) {
                int other = plan.order[i];
                int latestStart = latestEnds[other] - plan.durationOf[other];
                lowerLatestEnd(plan.inFrontOf(other), latestStart);
                lowerLatestEnd(plan.aheadOf[other], latestStart);
            }
            return Math.min(latestEnds[task] - plan.ends[task], MAX_SLACK);
        }

        private void lowerLatestEnd(int task, int hour) {
            if (plan.has(task)) {
                latestEnds[task] = Math.min(latestEnds[task], hour);
            }
        }

        /** Tries all places; the rows are others behind that, so this is for a copy. */
        int findBestPlace(int task) {
            int best = NONE;
            int fewest = 0;
            for (int place = 0; place < plan.rowLength[plan.machineOf[task]]; place++) {
                plan.shift(task, place);
                if (plan.schedule() && (best == NONE || lateTogether() < fewest)) {
                    best = place;
                    fewest = lateTogether();
                }
            }
            return best;
        }

        int tellOfTask(int task, int what) {
            if (!plan.has(task)) {
                return NO_SUCH;
            }
            switch (what) {
                case 0: return plan.machineOf[task];
                case 1: return plan.durationOf[task];
                case 2: return plan.aheadOf[task];
                case 3: return plan.placeOf(task);
                case 4: return plan.startOf(task);
                case 5: return plan.endOf(task);
                case 6: return lateOf(task);
                case 7: return spareOf(task);
                case 8: return slackOf(task);
                case 9: return offered[task];
                case 10: return prices[task];
                case 11: return contracts.soldBy(task);
                case 12: return contracts.boughtBy(task);
                case 13: return plan.followersOf(task);
                default: return BAD_VALUE;
            }
        }

        int tellOfAll(int what) {
            switch (what) {
                case 0: return plan.tasks;
                case 1: return contracts.total;
                case 2: return offers();
                case 3: return lateTasks();
                case 4: return lateTogether();
                case 5: return plan.endOfAll();
                case 6: return allMoney();
                case 7: return contracts.allHours();
                case 10: return refundPercent;
                case 11: return reach;
                case 12:
                case 13:
                case 14:
                case 15: return plan.rowLength[what - 12];
                default: return BAD_VALUE;
            }
        }
    }

    /** The latest states before changes, in a ring with one more cell than states are kept. */
    private static final class History {
        private final Market[] ring = new Market[RING];
        private int first;
        int kept;

        History() {
            for (int i = 0; i < RING; i++) {
                ring[i] = new Market();
            }
        }

        /** Copies the state ahead of a change; the spare cell takes it, as the change may end in an error. */
        void prepare(Market state) {
            Market spare = ring[(first + kept) % RING];
            if (spare != null) {
                spare.copyFrom(state);
            }
        }

        /** Keeps what was prepared, unless the answer is an error, and passes the answer on. */
        int record(int answer) {
            if (answer < 0) {
                return answer;
            }
            if (kept < MAX_HISTORY) {
                kept++;
            } else {
                first = (first + 1) % RING;
            }
            return answer;
        }

        int takeBack(Market state) {
            if (kept == 0) {
                return NOT_POSSIBLE;
            }
            kept--;
            state.copyFrom(ring[(first + kept) % RING]);
            return kept;
        }
    }

    /** The pad: a text, and what is read of it from left to right. */
    private static final class Pad {
        private final char[] text = new char[MAX_PAD];
        int length;
        // Where the next character is read; if it cannot stand there, this is the fault.
        private int at;
        // The order that was read last: its letter, and its numbers in the order of the call.
        int kind;
        final int[] numbers = new int[5];
        private int read;

        int append(long characters) {
            long rest = characters;
            int more = 0;
            while (more < 8 && (rest & 255) != 0) {
                if ((rest & 255) < 33 || (rest & 255) > 126) {
                    return BAD_VALUE;
                }
                rest >>>= 8;
                more++;
            }
            if (more == 0 || rest != 0) {
                return BAD_VALUE;
            }
            if (length + more > MAX_PAD) {
                return TOO_MANY;
            }
            for (int i = 1; i <= more; i++) {
                text[length + more - i] = (char) ((characters >>> (8 * (i - 1))) & 255);
            }
            length += more;
            return length;
        }

        int clear() {
            int previous = length;
            length = 0;
            return previous;
        }

        void toStart() {
            at = 0;
        }

        int findFault() {
            toStart();
            for (int turn = 0; turn < MAX_PAD; turn++) {
                if (!readOrder()) {
                    return at;
                }
                if (!readNext()) {
                    break;
                }
            }
            return at < length ? at : NONE;
        }

        /** Reads on, if another order follows. */
        boolean readNext() {
            return readSign(';');
        }

        boolean readOrder() {
            read = 0;
            kind = here();
            switch (kind) {
                case 't': return readSign('t') && readTask();
                case 'd': return readSign('d') && readPair('=');
                case 'o': return readSign('o') && readPair('*') && readSign('@') && readNumber();
                case 'm': return readSign('m') && readPair(':');
                case 'r': return readSign('r') && readPair('*');
                default: return readSign('x');
            }
        }

        private boolean readTask() {
            if (here() > '3' || !readDigit()) {
                return false;
            }
            boolean whole = readSign('/') && readNumber() && readSign('<') && readNumber()
                    && readSign('$') && readNumber();
            if (whole && here() == '^') {
                return readSign('^') && readNumber();
            }
            return whole && keep(NONE);
        }

        private boolean readPair(char sign) {
            return readNumber() && readSign(sign) && readNumber();
        }

        /** The character that is read next: 0, if there is none. */
        private int here() {
            return at >= 0 && at < length ? text[at] : 0;
        }

        private boolean readSign(char sign) {
            if (here() != sign) {
                return false;
            }
            at++;
            return true;
        }

        private boolean isDigit() {
            return here() >= '0' && here() <= '9';
        }

        private boolean readDigit() {
            if (!isDigit()) {
                return false;
            }
            int digit = here() - '0';
            at++;
            return keep(digit);
        }

        /** Reads up to five digits, or a 0 alone: a digit behind that has no place there. */
        private boolean readNumber() {
            if (!isDigit()) {
                return false;
            }
            int number = 0;
            int digits = 0;
            while (digits < 5 && isDigit() && (digits == 0 || number > 0)) {
                number = number * 10 + here() - '0';
                at++;
                digits++;
            }
            return keep(number);
        }

        private boolean keep(int number) {
            if (read >= numbers.length) {
                return false;
            }
            numbers[read] = number;
            read++;
            return true;
        }
    }
}
