/** All that an object tells of itself, as a text: few calls, if there are few tasks and contracts. */
final class Dump {
    private Dump() {
    }

    static String of(SlackMarket x) {
        StringBuilder text = new StringBuilder();
        for (int what = 0; what < 16; what++) {
            text.append(x.count(what)).append(' ');
        }
        text.append(x.fault());
        for (int task = 0; task < x.count(0); task++) {
            text.append("\n task ").append(task).append(':');
            for (int what = 0; what < 14; what++) {
                text.append(' ').append(x.ofTask(task, what));
            }
            text.append(' ').append(x.due(task)).append(' ').append(x.money(task));
        }
        for (int machine = 0; machine < 4; machine++) {
            text.append("\n row ").append(machine).append(':');
            for (int place = 0; place < x.count(12 + machine); place++) {
                text.append(' ').append(x.at(machine, place));
            }
        }
        for (int contract = 0; contract < x.count(1); contract++) {
            text.append("\n contract ").append(contract).append(':');
            for (int what = 0; what < 4; what++) {
                text.append(' ').append(x.ofContract(contract, what));
            }
        }
        return text.toString();
    }
}
