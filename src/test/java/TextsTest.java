/** Promises 23 to 26: put, wipe, fault, carryOut. */
final class TextsTest {
    private static final int BAD_VALUE = -2, BAD_TEXT = -3, TOO_MANY = -4, NONE = -6;

    public static void main(String[] args) {
        puts();
        putErrors();
        putIsInOrder();
        full();
        wipes();
        faults();
        endsTooEarly();
        noFaults();
        carryOuts();
        carryOutOfAllOrders();
        carryOutStops();
        carryOutIsOneChange();
        longTexts();
        Check.end();
    }

    private static void puts() {
        SlackMarket x = new SlackMarket();
        Check.is("one", x.put('x'), 1);
        Check.is("eight", x.put(Texts.packed(";x;x;x;x")), 9);
        Check.is("length", x.count(8), 9);
        Check.is("no fault", x.fault(), NONE);
        Check.is("33", x.put(33), 10);
        Check.is("126", x.put(126), 11);
        Check.is("no change", x.count(9), 0);
    }

    private static void putErrors() {
        SlackMarket x = new SlackMarket();
        Check.is("no character", x.put(0), BAD_VALUE);
        Check.is("32", x.put(32), BAD_VALUE);
        Check.is("127", x.put(127), BAD_VALUE);
        Check.is("128", x.put(128), BAD_VALUE);
        Check.is("255", x.put(255), BAD_VALUE);
        Check.is("-1", x.put(-1), BAD_VALUE);
        Check.is("MIN", x.put(Long.MIN_VALUE), BAD_VALUE);
        Check.is("MAX", x.put(Long.MAX_VALUE), BAD_VALUE);
        Check.is("above 0 at the end", x.put('x' << 8), BAD_VALUE);
        Check.is("above 0 in the middle", x.put((long) 'x' << 16 | 'x'), BAD_VALUE);
        Check.is("the highest bit", x.put(Long.MIN_VALUE | 'x'), BAD_VALUE);
        Check.is("the eighth is 32", x.put(32L << 56 | 0x78787878787878L), BAD_VALUE);
        Check.is("the eighth is 128", x.put(128L << 56 | 0x78787878787878L), BAD_VALUE);
        Check.is("one of two", x.put(32 << 8 | 'x'), BAD_VALUE);
        Check.is("length", x.count(8), 0);
    }

    private static void putIsInOrder() {
        SlackMarket x = new SlackMarket();
        Texts.put(x, "t2/7<30$400");
        Check.is("carried out", x.carryOut(), 1);
        Check.is("machine", x.ofTask(0, 0), 2);
        Check.is("duration", x.ofTask(0, 1), 7);
        Check.is("due", x.due(0), 30);
        Check.is("money", x.money(0), 400);
        Check.is("ahead", x.ofTask(0, 2), NONE);
    }

    private static void full() {
        SlackMarket x = new SlackMarket();
        for (int i = 1; i <= 9; i++) {
            Check.is("put", x.put(Texts.packed("x;x;x;x;")), 8 * i);
        }
        Check.is("79", x.put(Texts.packed("x;x;x;x")), 79);
        Check.is("two more", x.put(Texts.packed(";x")), TOO_MANY);
        Check.is("BAD_VALUE is named first", x.put(Texts.packed("; ")), BAD_VALUE);
        Check.is("length", x.count(8), 79);
        Check.is("no fault", x.fault(), NONE);
        Check.is("80", x.put(';'), 80);
        Check.is("one more", x.put('x'), TOO_MANY);
        Check.is("ends too early", x.fault(), 80);
        Check.is("bad", x.carryOut(), BAD_TEXT);
        Check.is("stays", x.wipe(), 80);
    }

    private static void wipes() {
        SlackMarket x = new SlackMarket();
        Check.is("empty", x.wipe(), 0);
        Texts.put(x, "x;x");
        Check.is("three", x.wipe(), 3);
        Check.is("length", x.count(8), 0);
        Check.is("fault of none", x.fault(), 0);
        Check.is("empty again", x.wipe(), 0);
        Check.is("no change", x.count(9), 0);
    }

    private static void faults() {
        SlackMarket x = new SlackMarket();
        String[] texts = {
            "y", "X", ";", "0", "xx", "x;;", "x;y", "x^", "x0",
            "t4/", "t9", "tx", "t/", "t00", "t0;", "t0/x", "t0//", "t0/01<", "t0/5;", "t0/5$", "t0/5<<", "t0/5<1<",
            "t0/5<1$x", "t0/5<1$1;;", "t0/5<1$1^^", "t0/5<1$1^;", "t0/5<1$1^0^", "t0/5<1$1^00", "t0/5<1$1x", "t0/5<1$1/",
            "d=", "d00", "d0*", "d0=;", "d0=00", "d0=1=", "d0=1*", "o0=", "o0*@", "o0*1;", "o0*1*", "o0*1@;", "o0*1@1@",
            "m0=", "m:", "m0:1:", "m0::", "r0:", "r0*1@", "r*", "r0**",
            "d123456", "d0=123456", "d99999=999999", "o0*0@100000", "d0=1;d0=1;d0+1", "d-1", "d+1", "t-1", "t3/1<0$0^-6",
        };
        int[] due = {
            0, 0, 0, 0, 1, 2, 2, 1, 1,
            1, 1, 1, 1, 2, 2, 3, 3, 4, 4, 4, 5, 6,
            7, 9, 9, 9, 10, 10, 8, 8,
            1, 2, 2, 3, 4, 4, 4, 2, 3, 4, 4, 5, 6,
            2, 1, 4, 3, 2, 4, 1, 3,
            6, 8, 12, 10, 12, 1, 1, 1, 9,
        };
        Check.is("rows", texts.length, due.length);
        for (int i = 0; i < texts.length; i++) {
            Check.is("fault of " + texts[i], Texts.faultOf(x, texts[i]), due[i]);
        }
    }

    private static void endsTooEarly() {
        SlackMarket x = new SlackMarket();
        String[] texts = {
            "", "x;", "t", "t0", "t0/", "t0/5", "t0/5<", "t0/5<1", "t0/5<1$", "t0/5<1$1^", "t0/5<1$1^0;",
            "d", "d1", "d1=", "o", "o1", "o1*", "o1*1", "o1*1@", "m", "m1", "m1:", "r", "r1", "r1*", "d99999",
        };
        for (String text : texts) {
            Check.is("fault of " + text, Texts.faultOf(x, text), text.length());
        }
    }

    private static void noFaults() {
        SlackMarket x = new SlackMarket();
        String[] texts = {
            "x", "x;x", "t0/5<1$1", "t3/99999<99999$99999^99999", "t0/0<0$0^0", "t0/5<1$1;x", "t0/5<1$1^10;x",
            "d0=0", "d10=20", "o0*0@0", "o100*200@300", "m0:0", "m12345:67890", "r0*0", "r99999*99999", "d0=1;o0*1@2;m0:0;r0*1;x",
        };
        for (String text : texts) {
            Check.is("fault of " + text, Texts.faultOf(x, text), NONE);
        }
    }

    private static void carryOuts() {
        SlackMarket x = new SlackMarket();
        Check.is("empty pad", x.carryOut(), BAD_TEXT);
        Check.is("no change", x.count(9), 0);
        Texts.put(x, "t0/5<9$1");
        Texts.put(x, ";");
        Check.is("fault", x.carryOut(), BAD_TEXT);
        Check.is("the pad stays", x.count(8), 9);
        Check.is("no task", x.count(0), 0);
        Texts.put(x, "x");
        Check.is("two orders", x.carryOut(), 2);
        Check.is("the pad is empty", x.count(8), 0);
        Check.is("one task", x.count(0), 1);
        Check.is("one change", x.count(9), 1);
    }

    private static void carryOutOfAllOrders() {
        SlackMarket x = new SlackMarket();
        Texts.put(x, "t0/10<100$5;t0/10<5$90^0;t0/3<70$0;o0*30@2");
        Check.is("tasks and an offer", x.carryOut(), 4);
        Check.is("ahead", x.ofTask(1, 2), 0);
        Check.is("offer", x.ofTask(0, 9), 30);
        Check.is("price", x.ofTask(0, 10), 2);
        Texts.put(x, "x;m2:1;d1=1;d0=1;r0*7");
        Check.is("all the others", x.carryOut(), 5);
        Check.is("hours of the contract", x.ofContract(0, 2), 8);
        Check.is("row", x.at(0, 1), 2);
        Check.is("duration", x.ofTask(1, 1), 1);
        Check.is("due of the buyer", x.due(1), 13);
        Check.is("due of the seller", x.due(0), 92);
        Check.is("money of the seller", x.money(0), 5 + 30 - 7);
        Check.is("money of the buyer", x.money(1), 90 - 30 + 7);
    }

    private static void carryOutStops() {
        SlackMarket x = new SlackMarket();
        Texts.put(x, "t0/5<9$10;d0=101;d0=7;x");
        Check.is("up to the first error", x.carryOut(), 1);
        Check.is("not the ones behind it", x.ofTask(0, 1), 5);
        Check.is("the pad is empty", x.count(8), 0);
        String[] wrong = {"t0/5<9$10^1", "t0/0<9$10", "t0/5<3001$0", "d1=5", "d0=0", "o1*1@1", "o0*501@0",
            "o0*1@1001", "m0:1", "m1:0", "r0*1", "t0/99999<9$10^99999"};
        for (String text : wrong) {
            Texts.put(x, text);
            Texts.put(x, ";d0=99");
            Check.is("error of " + text, x.carryOut(), 0);
            Check.is("nothing behind " + text, x.ofTask(0, 1), 5);
        }
        Texts.put(x, "t1/1<0$100000");
        Check.is("no number has six digits", x.carryOut(), BAD_TEXT);
        x.wipe();
        Texts.put(x, "t1/1<0$99999;x;o0*0@5");
        Check.is("trade and no offer are no errors", x.carryOut(), 3);
    }

    private static void carryOutIsOneChange() {
        SlackMarket x = new SlackMarket();
        x.task(0, 5, 9, 1, NONE);
        Texts.put(x, "d0=6;d0=7;t1/1<1$1;o0*5@5");
        Check.is("four orders", x.carryOut(), 4);
        Check.is("one change", x.count(9), 2);
        Texts.put(x, "d9=1;d0=9");
        Check.is("none", x.carryOut(), 0);
        Check.is("a change too", x.count(9), 3);
        Texts.put(x, "x");
        Check.is("undo", x.undo(), 2);
        Check.is("tasks", x.count(0), 2);
        Check.is("undo", x.undo(), 1);
        Check.is("tasks", x.count(0), 1);
        Check.is("duration", x.ofTask(0, 1), 5);
        Check.is("offer", x.ofTask(0, 9), 0);
        Check.is("the pad is as it is", x.count(8), 1);
    }

    private static void longTexts() {
        SlackMarket x = new SlackMarket();
        x.task(0, 1, 1, 1, NONE);
        StringBuilder orders = new StringBuilder("x");
        for (int i = 1; i < 40; i++) {
            orders.append(";x");
        }
        Texts.put(x, orders.toString());
        Check.is("forty orders", x.carryOut(), 40);
        Check.is("two changes", x.count(9), 2);
        Texts.put(x, orders + "+");
        Check.is("fault behind forty orders", x.fault(), 79);
    }
}
