import java.util.ArrayList;
import java.util.Arrays;
import java.util.Comparator;
import java.util.List;
import java.util.regex.Matcher;
import java.util.regex.Pattern;

/** The document once more, as plainly as the Java library allows and by other ways than the program's. */
final class Oracle {
    private static final int NO_SUCH = -1, BAD_VALUE = -2, BAD_TEXT = -3, TOO_MANY = -4, NOT_POSSIBLE = -5, NONE = -6;
    private static final String NUMBER = "(?:0|[1-9][0-9]{0,4})";
    private static final String ORDER = "(?:t[0-3]/N<N\\$N(?:\\^N)?|dN=N|oN\\*N@N|mN:N|x|rN\\*N)".replace("N", NUMBER);
    private static final Pattern TEXT = Pattern.compile(ORDER + "(?:;" + ORDER + ")*");

    private static final class Task {
        int machine, duration, due, money, ahead, hours, price;

        Task copy() {
            Task other = new Task();
            other.machine = machine;
            other.duration = duration;
            other.due = due;
            other.money = money;
            other.ahead = ahead;
            other.hours = hours;
            other.price = price;
            return other;
        }
    }

    private static final class State {
        List<Task> tasks = new ArrayList<>();
        List<List<Integer>> rows = new ArrayList<>();
        List<int[]> contracts = new ArrayList<>();
        int[] settings = {50, 2};

        State() {
            for (int machine = 0; machine < 4; machine++) {
                rows.add(new ArrayList<>());
            }
        }

        State copy() {
            State other = new State();
            for (Task task : tasks) {
                other.tasks.add(task.copy());
            }
            for (int machine = 0; machine < 4; machine++) {
                other.rows.get(machine).addAll(rows.get(machine));
            }
            for (int[] contract : contracts) {
                other.contracts.add(contract.clone());
            }
            other.settings = settings.clone();
            return other;
        }
    }

    private State now = new State();
    private final List<State> history = new ArrayList<>();
    private final State[] slots = new State[2];
    private String pad = "";

    // -- what follows from the tasks

    private static boolean has(State s, int task) {
        return 0 <= task && task < s.tasks.size();
    }

    private static List<Integer> waitsFor(State s, int task) {
        List<Integer> others = new ArrayList<>();
        List<Integer> row = s.rows.get(s.tasks.get(task).machine);
        int place = row.indexOf(task);
        if (place > 0) {
            others.add(row.get(place - 1));
        }
        if (s.tasks.get(task).ahead != NONE) {
            others.add(s.tasks.get(task).ahead);
        }
        return others;
    }

    /** All ends, with one task that ends later by some hours; null if a task waits for itself. */
    private static int[] ends(State s, int shifted, int hours) {
        int[] ends = new int[s.tasks.size()];
        for (int round = 0; round <= s.tasks.size(); round++) {
            boolean same = true;
            for (int task = 0; task < ends.length; task++) {
                int end = 0;
                for (int other : waitsFor(s, task)) {
                    end = Math.max(end, ends[other]);
                }
                end += s.tasks.get(task).duration + (task == shifted ? hours : 0);
                same &= end == ends[task];
                ends[task] = end;
            }
            if (same) {
                return ends;
            }
        }
        return null;
    }

    private static int end(State s, int task) {
        return ends(s, NONE, 0)[task];
    }

    private static int late(State s, int task) {
        return Math.max(end(s, task) - s.tasks.get(task).due, 0);
    }

    private static int spare(State s, int task) {
        return Math.max(s.tasks.get(task).due - end(s, task), 0);
    }

    private static int lateTogether(State s) {
        int sum = 0;
        int[] ends = ends(s, NONE, 0);
        for (int task = 0; task < ends.length; task++) {
            sum += Math.max(ends[task] - s.tasks.get(task).due, 0);
        }
        return sum;
    }

    private static boolean anyLate(State s, int shifted, int hours) {
        int[] ends = ends(s, shifted, hours);
        for (int task = 0; task < ends.length; task++) {
            if (ends[task] > s.tasks.get(task).due) {
                return true;
            }
        }
        return false;
    }

    private static int slack(State s, int task) {
        if (anyLate(s, NONE, 0)) {
            return 0;
        }
        int hours = 0;
        int step = 4096;
        // With more hours there is never less delay, so the bounds can be halved.
        for (; step > 0; step /= 2) {
            if (hours + step <= 5000 && !anyLate(s, task, hours + step)) {
                hours += step;
            }
        }
        return hours;
    }

    private static int distance(State s, int from, int to) {
        int n = s.tasks.size();
        int[][] far = new int[n][n];
        for (int a = 0; a < n; a++) {
            for (int b = 0; b < n; b++) {
                Task one = s.tasks.get(a);
                Task other = s.tasks.get(b);
                boolean linked = one.machine == other.machine || one.ahead == b || other.ahead == a;
                far[a][b] = a == b ? 0 : linked ? 1 : 1000;
            }
        }
        for (int via = 0; via < n; via++) {
            for (int a = 0; a < n; a++) {
                for (int b = 0; b < n; b++) {
                    far[a][b] = Math.min(far[a][b], far[a][via] + far[via][b]);
                }
            }
        }
        return far[from][to] >= 1000 ? NONE : far[from][to];
    }

    // -- changes of a state; an error changes nothing

    private static int set(State s, int setting, int value) {
        boolean good = setting == 0 && 0 <= value && value <= 100 || setting == 1 && 1 <= value && value <= 9;
        if (!good) {
            return BAD_VALUE;
        }
        int previous = s.settings[setting];
        s.settings[setting] = value;
        return previous;
    }

    private static int task(State s, int machine, int duration, int due, int money, int ahead) {
        if (machine < 0 || machine > 3 || ahead != NONE && !has(s, ahead)) {
            return NO_SUCH;
        }
        if (duration < 1 || duration > 100 || due < 0 || due > 3000 || money < 0 || money > 100000) {
            return BAD_VALUE;
        }
        if (s.tasks.size() == 24) {
            return TOO_MANY;
        }
        Task task = new Task();
        task.machine = machine;
        task.duration = duration;
        task.due = due;
        task.money = money;
        task.ahead = ahead;
        s.tasks.add(task);
        s.rows.get(machine).add(s.tasks.size() - 1);
        return s.tasks.size() - 1;
    }

    private static int duration(State s, int task, int hours) {
        if (!has(s, task)) {
            return NO_SUCH;
        }
        if (hours < 1 || hours > 100) {
            return BAD_VALUE;
        }
        int previous = s.tasks.get(task).duration;
        s.tasks.get(task).duration = hours;
        return previous;
    }

    private static int move(State s, int task, int place) {
        if (!has(s, task)) {
            return NO_SUCH;
        }
        List<Integer> row = s.rows.get(s.tasks.get(task).machine);
        if (place < 0 || place >= row.size()) {
            return NO_SUCH;
        }
        List<Integer> before = new ArrayList<>(row);
        int previous = row.indexOf(task);
        row.remove(Integer.valueOf(task));
        row.add(place, task);
        if (ends(s, NONE, 0) == null) {
            row.clear();
            row.addAll(before);
            return NOT_POSSIBLE;
        }
        return previous;
    }

    private static int offer(State s, int task, int hours, int price) {
        if (!has(s, task)) {
            return NO_SUCH;
        }
        if (hours < 0 || hours > 500 || price < 0 || price > 1000) {
            return BAD_VALUE;
        }
        int previous = s.tasks.get(task).hours;
        s.tasks.get(task).hours = hours;
        s.tasks.get(task).price = price;
        return previous;
    }

    private static int trade(State s) {
        List<Integer> buyers = new ArrayList<>();
        for (int task = 0; task < s.tasks.size(); task++) {
            if (late(s, task) > 0) {
                buyers.add(task);
            }
        }
        State begin = s.copy();
        buyers.sort(Comparator.comparingInt((Integer task) -> -late(begin, task)).thenComparingInt(task -> task));
        int before = s.contracts.size();
        for (int buyer : buyers) {
            buy(s, buyer);
        }
        return s.contracts.size() - before;
    }

    private static void buy(State s, int buyer) {
        List<Integer> sellers = new ArrayList<>();
        for (int task = 0; task < s.tasks.size(); task++) {
            int far = distance(s, buyer, task);
            if (task != buyer && s.tasks.get(task).hours > 0 && far != NONE && far <= s.settings[1]) {
                sellers.add(task);
            }
        }
        sellers.sort(Comparator.comparingInt((Integer task) -> s.tasks.get(task).price)
                .thenComparingInt(task -> distance(s, buyer, task)).thenComparingInt(task -> task));
        for (int number : sellers) {
            Task seller = s.tasks.get(number);
            Task money = s.tasks.get(buyer);
            int hours = 0;
            // Hour by hour, as long as each of them can be bought.
            while (hours < late(s, buyer) && hours < seller.hours && hours < spare(s, number)
                    && (long) (hours + 1) * seller.price <= money.money) {
                hours++;
            }
            if (hours > 0 && s.contracts.size() < 40) {
                s.contracts.add(new int[] {number, buyer, hours, seller.price});
                seller.due -= hours;
                money.due += hours;
                seller.money += hours * seller.price;
                money.money -= hours * seller.price;
                seller.hours -= hours;
            }
        }
    }

    private static int refund(State s, int contract, int hours) {
        if (contract < 0 || contract >= s.contracts.size()) {
            return NO_SUCH;
        }
        int[] it = s.contracts.get(contract);
        if (hours < 1 || hours > 500 || hours > it[2]) {
            return BAD_VALUE;
        }
        State then = s.copy();
        int back = hours * it[3] * s.settings[0] / 100;
        then.tasks.get(it[1]).due -= hours;
        then.tasks.get(it[0]).due += hours;
        then.tasks.get(it[1]).money += back;
        then.tasks.get(it[0]).money -= back;
        then.contracts.get(contract)[2] -= hours;
        if (late(then, it[1]) > 0 || then.tasks.get(it[0]).money < 0) {
            return NOT_POSSIBLE;
        }
        int left = it[2] - hours;
        s.tasks = then.tasks;
        s.contracts = then.contracts;
        if (left == 0) {
            s.contracts.remove(contract);
        }
        return left;
    }

    private static int give(State s, int from, int to, int amount) {
        if (!has(s, from) || !has(s, to) || from == to) {
            return NO_SUCH;
        }
        if (amount < 1 || amount > 100000) {
            return BAD_VALUE;
        }
        if (s.tasks.get(from).money < amount) {
            return NOT_POSSIBLE;
        }
        s.tasks.get(from).money -= amount;
        s.tasks.get(to).money += amount;
        return s.tasks.get(from).money;
    }

    // -- the face

    private int record(State before, int answer) {
        if (answer >= 0) {
            history.add(before);
            if (history.size() > 6) {
                history.remove(0);
            }
        }
        return answer;
    }

    int set(int setting, int value) {
        State before = now.copy();
        return record(before, set(now, setting, value));
    }

    int task(int machine, int duration, int due, int money, int ahead) {
        State before = now.copy();
        return record(before, task(now, machine, duration, due, money, ahead));
    }

    int duration(int task, int hours) {
        State before = now.copy();
        return record(before, duration(now, task, hours));
    }

    int move(int task, int place) {
        State before = now.copy();
        return record(before, move(now, task, place));
    }

    int offer(int task, int hours, int price) {
        State before = now.copy();
        return record(before, offer(now, task, hours, price));
    }

    int trade() {
        State before = now.copy();
        return record(before, trade(now));
    }

    int refund(int contract, int hours) {
        State before = now.copy();
        return record(before, refund(now, contract, hours));
    }

    int give(int from, int to, int amount) {
        State before = now.copy();
        return record(before, give(now, from, to, amount));
    }

    int ofTask(int task, int what) {
        if (!has(now, task)) {
            return NO_SUCH;
        }
        Task it = now.tasks.get(task);
        int sum = 0;
        switch (what) {
            case 0: return it.machine;
            case 1: return it.duration;
            case 2: return it.ahead;
            case 3: return now.rows.get(it.machine).indexOf(task);
            case 4: return end(now, task) - it.duration;
            case 5: return end(now, task);
            case 6: return late(now, task);
            case 7: return spare(now, task);
            case 8: return slack(now, task);
            case 9: return it.hours;
            case 10: return it.hours == 0 ? 0 : it.price;
            case 11:
            case 12:
                for (int[] contract : now.contracts) {
                    sum += contract[what - 11] == task ? contract[2] : 0;
                }
                return sum;
            case 13:
                for (int other = 0; other < now.tasks.size(); other++) {
                    sum |= waitsFor(now, other).contains(task) ? 1 << other : 0;
                }
                return sum;
            default: return BAD_VALUE;
        }
    }

    long due(int task) {
        return has(now, task) ? now.tasks.get(task).due : NO_SUCH;
    }

    int money(int task) {
        return has(now, task) ? now.tasks.get(task).money : NO_SUCH;
    }

    int at(int machine, int place) {
        if (machine < 0 || machine > 3) {
            return NO_SUCH;
        }
        List<Integer> row = now.rows.get(machine);
        return place < 0 || place >= row.size() ? NONE : row.get(place);
    }

    int ofContract(int contract, int what) {
        if (contract < 0 || contract >= now.contracts.size()) {
            return NO_SUCH;
        }
        return what < 0 || what > 3 ? BAD_VALUE : now.contracts.get(contract)[what];
    }

    int count(int what) {
        int n = now.tasks.size();
        int sum = 0;
        switch (what) {
            case 0: return n;
            case 1: return now.contracts.size();
            case 2: return (int) now.tasks.stream().filter(task -> task.hours > 0).count();
            case 3:
                for (int task = 0; task < n; task++) {
                    sum |= late(now, task) > 0 ? 1 << task : 0;
                }
                return sum;
            case 4: return lateTogether(now);
            case 5: return Arrays.stream(ends(now, NONE, 0)).max().orElse(0);
            case 6: return now.tasks.stream().mapToInt(task -> task.money).sum();
            case 7: return now.contracts.stream().mapToInt(contract -> contract[2]).sum();
            case 8: return pad.length();
            case 9: return history.size();
            case 10:
            case 11: return now.settings[what - 10];
            default: return what >= 12 && what <= 15 ? now.rows.get(what - 12).size() : BAD_VALUE;
        }
    }

    int distance(int task, int other) {
        return has(now, task) && has(now, other) ? distance(now, task, other) : NO_SUCH;
    }

    int wouldBuy(int task, int what) {
        if (!has(now, task)) {
            return NO_SUCH;
        }
        if (what < 0 || what > 2) {
            return BAD_VALUE;
        }
        int[] answers = new int[3];
        State then = now.copy();
        buy(then, task);
        for (int[] contract : then.contracts.subList(now.contracts.size(), then.contracts.size())) {
            answers[0] += contract[2];
            answers[1] += contract[2] * contract[3];
            answers[2] |= 1 << contract[0];
        }
        return answers[what];
    }

    private boolean buysAllWith(int task, int money) {
        State then = now.copy();
        then.tasks.get(task).money = money;
        buy(then, task);
        return late(then, task) == 0;
    }

    int leastMoney(int task) {
        if (!has(now, task)) {
            return NO_SUCH;
        }
        int most = 2400 * 1000;
        if (!buysAllWith(task, most)) {
            return NONE;
        }
        int least = 0;
        while (least < most) {
            int middle = (least + most) / 2;
            if (buysAllWith(task, middle)) {
                most = middle;
            } else {
                least = middle + 1;
            }
        }
        return least;
    }

    int endIf(int task, int changed, int hours) {
        if (!has(now, task) || !has(now, changed)) {
            return NO_SUCH;
        }
        State then = now.copy();
        return duration(then, changed, hours) < 0 ? BAD_VALUE : end(then, task);
    }

    int bestPlace(int task) {
        if (!has(now, task)) {
            return NO_SUCH;
        }
        int best = NONE;
        int fewest = Integer.MAX_VALUE;
        for (int place = 0; place < now.rows.get(now.tasks.get(task).machine).size(); place++) {
            State then = now.copy();
            if (move(then, task, place) >= 0 && lateTogether(then) < fewest) {
                best = place;
                fewest = lateTogether(then);
            }
        }
        return best;
    }

    private int chainBehind(int task) {
        int set = 1 << task;
        for (int other : waitsFor(now, task)) {
            set |= end(now, other) == end(now, task) - now.tasks.get(task).duration ? chainBehind(other) : 0;
        }
        return set;
    }

    int critical() {
        int set = 0;
        for (int task = 0; task < now.tasks.size(); task++) {
            set |= end(now, task) == count(5) ? chainBehind(task) : 0;
        }
        return set;
    }

    int lateBehind() {
        State then = now.copy();
        trade(then);
        return lateTogether(then);
    }

    int put(long characters) {
        StringBuilder text = new StringBuilder();
        for (int shift = 56; shift >= 0; shift -= 8) {
            text.append((char) (characters >> shift & 255));
        }
        while (text.length() > 0 && text.charAt(0) == 0) {
            text.deleteCharAt(0);
        }
        if (text.length() == 0 || text.chars().anyMatch(sign -> sign < 33 || sign > 126)) {
            return BAD_VALUE;
        }
        if (pad.length() + text.length() > 80) {
            return TOO_MANY;
        }
        pad += text;
        return pad.length();
    }

    int wipe() {
        int length = pad.length();
        pad = "";
        return length;
    }

    int fault() {
        for (int length = 1; length <= pad.length(); length++) {
            Matcher matcher = TEXT.matcher(pad.substring(0, length));
            if (!matcher.matches() && !matcher.hitEnd()) {
                return length - 1;
            }
        }
        return TEXT.matcher(pad).matches() ? NONE : pad.length();
    }

    int carryOut() {
        if (fault() != NONE) {
            return BAD_TEXT;
        }
        State before = now.copy();
        int carried = 0;
        for (String order : pad.split(";")) {
            if (carry(order) < 0) {
                break;
            }
            carried++;
        }
        pad = "";
        return record(before, carried);
    }

    private int carry(String order) {
        if (order.equals("x")) {
            return trade(now);
        }
        int[] n = Arrays.stream(order.substring(1).split("[^0-9]")).mapToInt(Integer::parseInt).toArray();
        switch (order.charAt(0)) {
            case 't': return task(now, n[0], n[1], n[2], n[3], n.length > 4 ? n[4] : NONE);
            case 'd': return duration(now, n[0], n[1]);
            case 'o': return offer(now, n[0], n[1], n[2]);
            case 'm': return move(now, n[0], n[1]);
            default: return refund(now, n[0], n[1]);
        }
    }

    int undo() {
        if (history.isEmpty()) {
            return NOT_POSSIBLE;
        }
        now = history.remove(history.size() - 1);
        return history.size();
    }

    int save(int slot) {
        if (slot != 0 && slot != 1) {
            return BAD_VALUE;
        }
        slots[slot] = now.copy();
        return now.tasks.size();
    }

    int restore(int slot) {
        if (slot != 0 && slot != 1) {
            return BAD_VALUE;
        }
        if (slots[slot] == null) {
            return NOT_POSSIBLE;
        }
        State before = now;
        now = slots[slot].copy();
        return record(before, now.tasks.size());
    }
}
