/** The edges of texts, and of promises 23 to 26: put, wipe, fault, carryOut. */
final class EdgesOfTextsTest {
    private static final int BAD_VALUE = -2, BAD_TEXT = -3, TOO_MANY = -4, NONE = -6;
    private static final String[] ORDERS = {"t0/N<N$N", "t3/N<N$N^N", "dN=N", "oN*N@N", "mN:N", "rN*N"};

    public static void main(String[] args) {
        eachCodeAtEachPlace();
        noCharacter();
        aboveNothing();
        oneToEightCharacters();
        atMost80();
        lengthsThatJustFit();
        refusedPutsLeaveTheText();
        wipe();
        numbers();
        digits();
        endsTooEarly();
        anyCharacterAtAnyPlace();
        emptyPad();
        faultLeavesThePad();
        ordersOfTheGreatestNumbers();
        ordersAtTheirEdges();
        upToTheFirstError();
        alsoIfNoneIsCarriedOut();
        oneChangeWithAllOfThem();
        aTextOf80();
        tasksBeyond24();
        contractsBeyond40();
        Check.end();
    }

    private static long with(int characters, int place, long code) {
        long all = 0x7878787878787878L >>> 8 * (8 - characters);
        return all & ~(255L << 8 * place) | code << 8 * place;
    }

    /** "BAD_VALUE if .. a code is not 33 to 126" */
    private static void eachCodeAtEachPlace() {
        for (int characters = 1; characters <= 8; characters++) {
            for (int place = 0; place < characters; place++) {
                for (int code = 1; code < 256; code++) {
                    SlackMarket x = new SlackMarket();
                    boolean good = code >= 33 && code <= 126;
                    Check.is("code " + code, x.put(with(characters, place, code)), good ? characters : BAD_VALUE);
                    Check.is("length", x.count(8), good ? characters : 0);
                }
            }
        }
    }

    /** "BAD_VALUE if there is no character" */
    private static void noCharacter() {
        SlackMarket x = new SlackMarket();
        Check.is("empty", x.put(0), BAD_VALUE);
        x.put('x');
        Check.is("behind x", x.put(0L), BAD_VALUE);
        for (int place = 1; place < 8; place++) {
            Check.is("above nothing", x.put((long) 'x' << 8 * place), BAD_VALUE);
        }
        Check.is("length", x.count(8), 1);
    }

    /** "BAD_VALUE if .. a bit above 8 bits that are 0 is not 0" */
    private static void aboveNothing() {
        SlackMarket x = new SlackMarket();
        for (int place = 0; place < 7; place++) {
            for (int bit = 8 * place + 8; bit < 64; bit++) {
                long below = place == 0 ? 0 : with(place, 0, 'x');
                Check.is("bit " + bit + " above " + place, x.put(below | 1L << bit), BAD_VALUE);
            }
        }
        Check.is("length", x.count(8), 0);
    }

    /** "1 to 8 characters": the lowest 8 bits are the last one. */
    private static void oneToEightCharacters() {
        String text = "r12*3;x;";
        for (int characters = 1; characters <= 8; characters++) {
            SlackMarket x = new SlackMarket();
            String part = text.substring(0, characters);
            Check.is("length", x.put(Texts.packed(part)), characters);
            Check.is("again", x.put(Texts.packed(part)), 2 * characters);
        }
        int[] fault = {0, 1, 1, 1, 1, 1, 1, 1};
        for (int place = 0; place < 8; place++) {
            SlackMarket x = new SlackMarket();
            x.put(with(8, place, 'y'));
            Check.is("y at " + (7 - place), x.fault(), place == 7 ? 0 : fault[place + 1]);
        }
        SlackMarket x = new SlackMarket();
        x.put(Texts.packed("x;x;x;x;"));
        x.put(Texts.packed("x;x;x;xy"));
        Check.is("the last character", x.fault(), 15);
        x.wipe();
        x.put(Texts.packed("x;x;x;xy"));
        Check.is("the last character", x.fault(), 7);
    }

    private static SlackMarket filled(int length) {
        SlackMarket x = new SlackMarket();
        Texts.put(x, "x;".repeat(40).substring(0, length));
        Check.is("filled", x.count(8), length);
        return x;
    }

    /** "a text of at most 80 characters"; "TOO_MANY if the pad would be longer than 80" */
    private static void atMost80() {
        for (int length = 70; length <= 80; length++) {
            for (int characters = 1; characters <= 8; characters++) {
                boolean fits = length + characters <= 80;
                SlackMarket x = filled(length);
                Check.is(characters + " behind " + length, x.put(with(characters, 0, 'y')), fits ? length + characters : TOO_MANY);
                Check.is("length", x.count(8), fits ? length + characters : length);
                Check.is("BAD_VALUE is named first", x.put(with(characters, characters - 1, 127)), BAD_VALUE);
            }
        }
    }

    private static void lengthsThatJustFit() {
        SlackMarket x = filled(80);
        Check.is("ends too early", x.fault(), 80);
        Check.is("one more", x.put('x'), TOO_MANY);
        Check.is("wipe", x.wipe(), 80);
        for (int i = 1; i <= 80; i++) {
            Check.is("one by one", x.put(i % 2 == 1 ? 'x' : ';'), i);
            Check.is("fault", x.fault(), i % 2 == 1 ? NONE : i);
        }
        Check.is("one more", x.put('x'), TOO_MANY);
        Check.is("wipe", x.wipe(), 80);
        Check.is("from the beginning", x.put('x'), 1);
    }

    /** A text that is refused leaves nothing behind, not even where later characters come to stand. */
    private static void refusedPutsLeaveTheText() {
        SlackMarket x = filled(76);
        Check.is("too long", x.put(Texts.packed("yyyyyyyy")), TOO_MANY);
        Check.is("bad", x.put(Texts.packed("yy yy")), BAD_VALUE);
        Check.is("wholly", x.put(Texts.packed("x;x")), 79);
        Check.is("no fault", x.fault(), NONE);
        Check.is("carried out", x.carryOut(), 40);
    }

    private static void wipe() {
        for (int length : new int[] {0, 1, 8, 79, 80}) {
            SlackMarket x = filled(length);
            Check.is("wipe", x.wipe(), length);
            Check.is("length", x.count(8), 0);
            Check.is("empty", x.wipe(), 0);
            Check.is("fault of nothing", x.fault(), 0);
            Check.is("no change", x.count(9), 0);
            Texts.put(x, "d0");
            Check.is("what was there is gone", x.fault(), 2);
        }
    }

    /** "a number is 0 to 99999, without leading zeros"; "also of a digit by which a number would be above 99999" */
    private static void numbers() {
        String[] numbers = {"0", "1", "9", "10", "99", "100", "9999", "10000", "99999", "100000", "999990", "123456", "1000000",
            "00", "01", "09", "000000", "001", "", "-1", "-0", "+1", "x", "a"};
        int[] faults = {NONE, NONE, NONE, NONE, NONE, NONE, NONE, NONE, NONE, 5, 5, 5, 5, 1, 1, 1, 1, 1, 0, 0, 0, 0, 0, 0};
        for (String order : ORDERS) {
            for (int place = order.indexOf('N'); place >= 0; place = order.indexOf('N', place + 1)) {
                String begin = "x;" + order.substring(0, place).replace('N', '5');
                String end = order.substring(place + 1).replace('N', '5');
                for (int i = 0; i < numbers.length; i++) {
                    String text = begin + numbers[i] + end + ";x";
                    int due = faults[i] == NONE ? NONE : begin.length() + faults[i];
                    SlackMarket x = new SlackMarket();
                    Check.is("fault of " + text, Texts.faultOf(x, text), due);
                    Texts.put(x, text);
                    Check.is("carryOut of " + text, x.carryOut() == BAD_TEXT ? 0 : 1, due == NONE ? 1 : 0);
                }
            }
        }
    }

    /** "A digit is 0 to 3" */
    private static void digits() {
        SlackMarket x = new SlackMarket();
        for (char sign = 33; sign <= 126; sign++) {
            boolean good = sign >= '0' && sign <= '3';
            Check.is("t" + sign, Texts.faultOf(x, "t" + sign + "/1<1$1"), good ? NONE : 1);
            x = new SlackMarket();
            Texts.put(x, "t" + sign + "/1<1$1");
            Check.is("t" + sign, x.carryOut(), good ? 1 : BAD_TEXT);
            Check.is("machine", x.ofTask(0, 0), good ? sign - '0' : -1);
        }
        Check.is("two digits", Texts.faultOf(x, "t00/1<1$1"), 2);
        Check.is("two digits", Texts.faultOf(x, "t12/1<1$1"), 2);
    }

    /** "if there is none and the text ends too early (also if it is empty), it is the length of the text" */
    private static void endsTooEarly() {
        for (String order : ORDERS) {
            String text = "x;" + order.replace("N", "42") + ";x";
            for (int length = 0; length <= text.length(); length++) {
                String begin = text.substring(0, length);
                boolean whole = isWhole(begin.substring(begin.lastIndexOf(';') + 1));
                Check.is("fault of " + begin, Texts.faultOf(new SlackMarket(), begin), whole ? NONE : length);
            }
        }
    }

    private static boolean isWhole(String order) {
        return order.matches("x|t\\d/\\d+<\\d+\\$\\d+(\\^\\d+)?|d\\d+=\\d+|o\\d+\\*\\d+@\\d+|m\\d+:\\d+|r\\d+\\*\\d+");
    }

    /** The fault is where the first character cannot stand, whatever stands behind it. */
    private static void anyCharacterAtAnyPlace() {
        String[] texts = {"t1/20<300$4000^5", "t3/0<0$0", "d12=100", "o3*400@99999", "m1:20", "r10*5", "x;x", "d0=0;x"};
        for (String text : texts) {
            for (int place = 0; place <= text.length(); place++) {
                for (char sign = 33; sign <= 126; sign++) {
                    String other = text.substring(0, place) + sign;
                    String behind = place < text.length() ? text.substring(place + 1) : "";
                    Oracle y = new Oracle();
                    for (int i = 0; i < other.length(); i++) {
                        y.put(other.charAt(i));
                    }
                    int due = y.fault();
                    SlackMarket x = new SlackMarket();
                    Check.is("fault of " + other, Texts.faultOf(x, other), due);
                    if (due >= 0 && due < other.length()) {
                        Check.is("fault of " + other + behind, Texts.faultOf(x, other + behind), due);
                        Check.is("fault of " + other + "~~", Texts.faultOf(x, other + "~~"), due);
                    }
                }
            }
        }
    }

    /** "also if it is empty"; "BAD_TEXT if the pad has a fault (then it stays)" */
    private static void emptyPad() {
        SlackMarket x = new SlackMarket();
        Check.is("fault", x.fault(), 0);
        Check.is("carryOut", x.carryOut(), BAD_TEXT);
        Check.is("no change", x.count(9), 0);
        Texts.put(x, "x");
        Check.is("carryOut", x.carryOut(), 1);
        Check.is("empty again", x.fault(), 0);
        Check.is("carryOut", x.carryOut(), BAD_TEXT);
        Check.is("one change", x.count(9), 1);
    }

    private static void faultLeavesThePad() {
        SlackMarket x = new SlackMarket();
        Texts.put(x, "t0/5<9$1;x;");
        for (int i = 0; i < 3; i++) {
            Check.is("fault", x.fault(), 11);
            Check.is("carryOut", x.carryOut(), BAD_TEXT);
            Check.is("length", x.count(8), 11);
        }
        Check.is("no task", x.count(0), 0);
        Texts.put(x, "x");
        Check.is("fault", x.fault(), NONE);
        Check.is("the pad stays", x.count(8), 12);
        Check.is("carryOut", x.carryOut(), 3);
        Check.is("the pad is empty", x.count(8), 0);
    }

    /** Numbers that the text takes and the call does not: the order returns an error, and nothing comes behind it. */
    private static void ordersOfTheGreatestNumbers() {
        for (String order : ORDERS) {
            SlackMarket x = new SlackMarket();
            x.task(0, 5, 9, 1, NONE);
            Texts.put(x, "d0=6;" + order.replace("N", "99999") + ";d0=7");
            Check.is("carryOut of " + order, x.carryOut(), 1);
            Check.is("the one before", x.ofTask(0, 1), 6);
            Check.is("tasks", x.count(0), 1);
            Check.is("the pad is empty", x.count(8), 0);
        }
    }

    private static int carried(String text) {
        SlackMarket x = new SlackMarket();
        x.task(0, 10, 3000, 0, NONE);
        x.task(0, 100, 0, 1000, NONE);
        x.offer(0, 60, 0);
        x.trade();
        x.move(1, 0);
        x.offer(0, 60, 0);
        x.trade();
        x.duration(1, 50);
        Texts.put(x, text);
        return x.carryOut();
    }

    private static void ordersAtTheirEdges() {
        String[] good = {"t0/1<0$0", "t3/100<3000$99999", "t2/1<0$0^0", "t2/1<0$0^1", "d0=1", "d1=100", "o0*0@0", "o1*500@1000",
            "o0*0@1000", "m0:0", "m0:1", "m1:1", "r0*1", "r0*50", "r1*40", "x"};
        for (String text : good) {
            Check.is(text, carried(text), 1);
            Check.is("x;" + text + ";x", carried("x;" + text + ";x"), 3);
        }
        String[] wrong = {"t0/0<0$0", "t3/101<3000$99999", "t3/100<3001$99999", "t2/1<0$0^2", "d0=0", "d1=101", "d2=1", "o0*501@0",
            "o1*500@1001", "o2*1@1", "m0:2", "m2:0", "r0*0", "r0*51", "r0*61", "r1*41", "r2*1", "r0*501"};
        for (String text : wrong) {
            Check.is(text, carried(text), 0);
            Check.is("x;" + text + ";x", carried("x;" + text + ";x"), 1);
        }
    }

    /** "one after the other, up to the first one that returns an error, and empties the pad" */
    private static void upToTheFirstError() {
        for (int wrong = 0; wrong <= 5; wrong++) {
            StringBuilder text = new StringBuilder();
            for (int order = 0; order < 5; order++) {
                text.append(order > 0 ? ";" : "").append(order == wrong ? "d0=101" : "d0=" + (10 + order));
            }
            SlackMarket x = new SlackMarket();
            x.task(0, 5, 9, 1, NONE);
            Texts.put(x, text.toString());
            Check.is("carried out", x.carryOut(), wrong);
            Check.is("the last one before it", x.ofTask(0, 1), wrong == 0 ? 5 : 9 + wrong);
            Check.is("the pad is empty", x.count(8), 0);
            Check.is("undo of all of them", x.undo(), 1);
            Check.is("as it was before", x.ofTask(0, 1), 5);
        }
    }

    /** "This is a change (one, with all of them; also if none is carried out)." */
    private static void alsoIfNoneIsCarriedOut() {
        SlackMarket x = new SlackMarket();
        Texts.put(x, "d0=1");
        Check.is("none", x.carryOut(), 0);
        Check.is("a change", x.count(9), 1);
        Check.is("the pad is empty", x.count(8), 0);
        x.task(0, 5, 9, 1, NONE);
        for (int i = 0; i < 6; i++) {
            Texts.put(x, "d1=1;d0=7");
            Check.is("none", x.carryOut(), 0);
        }
        Check.is("six changes", x.count(9), 6);
        for (int left = 5; left >= 0; left--) {
            Check.is("undo", x.undo(), left);
        }
        Check.is("the task is beyond undo", x.count(0), 1);
        Check.is("undo", x.undo(), -5);
    }

    private static void oneChangeWithAllOfThem() {
        SlackMarket x = new SlackMarket();
        Texts.put(x, "t0/10<100$0;t0/10<5$9;o0*15@0;x;d1=1;r0*1;m1:0");
        Check.is("seven", x.carryOut(), 7);
        Check.is("one change", x.count(9), 1);
        Check.is("hours of the contract", x.ofContract(0, 2), 14);
        Check.is("row", x.at(0, 0), 1);
        Check.is("undo", x.undo(), 0);
        Check.is("no task", x.count(0), 0);
        Check.is("no contract", x.count(1), 0);
        Check.is("the pad is as it is", x.count(8), 0);
    }

    private static void aTextOf80() {
        SlackMarket x = new SlackMarket();
        x.task(0, 5, 9, 1, NONE);
        Texts.put(x, "x;".repeat(38) + "d0=8");
        Check.is("full", x.count(8), 80);
        Check.is("fault", x.fault(), NONE);
        Check.is("one more", x.put(';'), TOO_MANY);
        Check.is("39 orders", x.carryOut(), 39);
        Check.is("the last one", x.ofTask(0, 1), 8);
        Texts.put(x, "x;".repeat(38) + "d0=" + "~");
        Check.is("fault at the end", x.fault(), 79);
        Check.is("carryOut", x.carryOut(), BAD_TEXT);
        x.wipe();
        Texts.put(x, "x;".repeat(37) + "d0=999999");
        Check.is("the last three did not fit", x.count(8), 80);
        Check.is("fault", x.fault(), NONE);
        Check.is("37 orders, and one of 999 hours", x.carryOut(), 37);
    }

    private static void tasksBeyond24() {
        SlackMarket x = new SlackMarket();
        for (int i = 0; i < 8; i++) {
            Texts.put(x, "t0/1<0$0;t1/1<0$0;t2/1<0$0;d0=2");
            Check.is("four orders", x.carryOut(), 4);
        }
        Check.is("tasks", x.count(0), 24);
        Texts.put(x, "d0=3;t3/1<0$0;d0=4");
        Check.is("up to the 25th", x.carryOut(), 1);
        Check.is("tasks", x.count(0), 24);
        Check.is("the one before", x.ofTask(0, 1), 3);
        x.undo();
        x.undo();
        Check.is("tasks", x.count(0), 21);
    }

    private static void contractsBeyond40() {
        SlackMarket x = new SlackMarket();
        x.task(0, 10, 3000, 0, NONE);
        x.task(0, 100, 0, 0, NONE);
        for (int i = 0; i < 5; i++) {
            Texts.put(x, "o0*1@0;x;".repeat(7) + "o0*1@0;x");
            Check.is("orders", x.carryOut(), 16);
            Check.is("contracts", x.count(1), 8 * i + 8);
        }
        Texts.put(x, "o0*1@0;x;d1=99");
        Check.is("a trade of nothing is no error", x.carryOut(), 3);
        Check.is("contracts", x.count(1), 40);
        Check.is("the offer stays", x.ofTask(0, 9), 1);
    }
}
