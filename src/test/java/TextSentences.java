import java.util.regex.Matcher;
import java.util.regex.Pattern;

/** The sentences about texts, about the constants, and of the promises 22 to 25. */
final class TextSentences {
    private static final int NUMBER_OF_SIGNS = 80;
    private static final String N = "(?:0|[1-9][0-9]{0,2})";
    private static final String ORDER = "(?:f" + N + ":" + N + "(?:," + N + ")*|j" + N + "=[012]|l" + N + ":" + N + "=" + N
        + "|t" + N + ")";
    private static final Pattern TEXT = Pattern.compile(ORDER + "(?:;" + ORDER + ")*");
    private final Sentences s;

    TextSentences(Sentences s) {
        this.s = s;
    }

    void texts() {
        s.under("Texts");
        thePad();
        theGrammar();
        whatOrdersDo();
        numbers();
        theFault();
        constants();
    }

    void promises() {
        promise22();
        promise22Numbers();
        promise22Returns();
        promise23();
        promise24();
        promise25();
        promise25IsAChange();
        promise25Returns();
    }

    // ---- terms

    private void thePad() {
        s.says("The pad is a text of at most 80 characters, a row of orders:");
        FibreLoops x = new FibreLoops();
        for (int i = 1; i <= NUMBER_OF_SIGNS; i++) {
            s.is("character " + i, x.put('t'), i);
        }
        s.is("character 81", x.put('t'), FibreLoops.TOO_MANY);
        s.is("its length", x.count(12), NUMBER_OF_SIGNS);
        fault("t1;".repeat(26) + "t1", FibreLoops.NONE);
        s.is("27 orders in 80 characters", carried("t1;".repeat(26) + "t1"), 27);
        fault("t1;".repeat(25) + "t1234", 79);
        fault("t1;".repeat(25) + "f1:1,", NUMBER_OF_SIGNS);
        fault("f0:" + "1,".repeat(38) + "1", FibreLoops.NONE);
        fault("f0:" + "1,".repeat(37) + "123", FibreLoops.NONE);
        fault("f00" + "1,".repeat(37) + "123", 2);
    }

    private int carried(String text) {
        FibreLoops x = new FibreLoops();
        Texts.put(x, text);
        return x.carryOut();
    }

    private void theGrammar() {
        s.says("text = order { \";\" order }");
        fault("t1", FibreLoops.NONE);
        fault("t1;t2", FibreLoops.NONE);
        fault("t1;f0:1;j0=1;l0:0=1;t2", FibreLoops.NONE);
        fault(";", 0);
        fault(";t1", 0);
        fault("t1;", 3);
        fault("t1;;t1", 3);
        fault("t1t1", 2);
        fault("t1,t1", 2);
        fault("t1:t1", 2);
        fault("t1=t1", 2);
        s.says("order = \"f\" number \":\" number { \",\" number } | \"j\" number \"=\" mode | \"l\" number \":\" number \"=\" number"
            + " | \"t\" number");
        String[] whole = {"f12:34,5", "f1:2,3,4", "f0:0", "j12=1", "j9=0", "j0=2", "l1:23=45", "l0:0=0", "t123", "t0"};
        for (String order : whole) {
            fault(order, FibreLoops.NONE);
            eachSignIsNeeded(order);
        }
        everyShortText("", 5);
        everyShortText("f7:12", 3);
        everyShortText("j10=", 3);
        everyShortText("l3:100", 4);
        everyShortText("l3:100=", 3);
        everyShortText("t1;l0:9=4;", 3);
    }

    /** Another character instead of one, or an order that ends there. */
    private void eachSignIsNeeded(String order) {
        for (int i = 0; i < order.length(); i++) {
            fault(order.substring(0, i));
            for (char sign = '!'; sign <= '~'; sign++) {
                fault(order.substring(0, i) + sign + order.substring(i + 1));
            }
        }
        for (char sign = '!'; sign <= '~'; sign++) {
            fault(order + sign);
        }
    }

    /** Every text with this start and at most so many characters more. */
    private void everyShortText(String start, int more) {
        fault(start);
        if (more == 0) {
            return;
        }
        for (char sign : "fjlt0139:=,;".toCharArray()) {
            everyShortText(start + sign, more - 1);
        }
    }

    private FibreLoops pad = new FibreLoops();
    private int padCalls = 0;

    private void fault(String text) {
        fault(text, faultOf(text));
    }

    private void fault(String text, int due) {
        if (padCalls > 480) {
            pad = new FibreLoops();
            padCalls = 0;
        }
        Texts.put(pad, text);
        s.is("fault() of '" + text + "'", pad.fault(), due);
        s.is("wipe() of '" + text + "'", pad.wipe(), text.length());
        padCalls += 3 + text.length() / 8;
    }

    /** Another way to find the fault than to read order by order: what begins no text has one in it. */
    private static int faultOf(String text) {
        if (TEXT.matcher(text).matches()) {
            return FibreLoops.NONE;
        }
        int good = 0;
        while (good < text.length() && beginsAText(text.substring(0, good + 1))) {
            good++;
        }
        return good;
    }

    private static boolean beginsAText(String start) {
        Matcher matcher = TEXT.matcher(start);
        // The end was hit if more characters could have made a text of it.
        return matcher.matches() || matcher.hitEnd();
    }

    private FibreLoops forOrders() {
        FibreLoops x = Worlds.loops(0, 4, 32);
        x.device(1, 0, FibreLoops.READER, 0, 0);
        x.device(1, 0, FibreLoops.FEEDER, 0, 0);
        x.join(0, 1, 1, 1);
        x.join(1, 2, 0, 2);
        return x;
    }

    private void whatOrdersDo() {
        s.says("\"f\": feed() a device with values, one after the other; \"j\": turn() a join, a mode is 0, 1 or 2; \"l\": light() a"
            + " loop at a place with a value; \"t\": so many ticks().");
        FibreLoops x = forOrders();
        Texts.put(x, "f1:0,99,5");
        s.is("f", x.carryOut(), 1);
        s.is("f: values wait", x.ofDevice(1, 5), 3);
        int[] values = {0, 99, 5};
        for (int value : values) {
            x.ticks(1);
            s.is("f: the next value", x.at(1, 0, 0), value);
        }
        x = forOrders();
        for (int mode = 0; mode <= 2; mode++) {
            Texts.put(x, "j1=" + mode);
            s.is("j to " + mode, x.carryOut(), 1);
            s.is("j to " + mode + ": the join", x.ofJoin(1, 4), mode);
            s.is("j to " + mode + ": the other join", x.ofJoin(0, 4), 0);
        }
        fault("j0=3", 3);
        fault("j0=4", 3);
        fault("j0=9", 3);
        fault("j0=00", 4);
        fault("j0=10", 4);
        x.turn(1, FibreLoops.OFF);
        x.set(FibreLoops.FRESH, 700);
        Texts.put(x, "l1:31=99");
        s.is("l", x.carryOut(), 1);
        s.is("l: value", x.at(1, 31, 0), 99);
        s.is("l: strength", x.at(1, 31, 1), 700);
        s.is("l: flashes", x.count(4), 1);
        Texts.put(x, "t1;t200");
        s.is("t", x.carryOut(), 2);
        s.is("t: the tick", x.count(0), 201);
        s.is("t: the flash moved on", x.at(1, (31 + 201) % 32, 0), 99);
    }

    private void numbers() {
        s.says("A number is 0 to 999, without leading zeros.");
        int[] good = {0, 1, 9, 10, 99, 100, 200, 998, 999};
        for (int number : good) {
            String[] texts = {"t#", "f#:0", "f0:#", "f0:1,#", "j#=0", "l#:0=0", "l0:#=0", "l0:0=#"};
            for (String text : texts) {
                fault(text.replace("#", "" + number), FibreLoops.NONE);
            }
        }
        String[] bad = {"00", "01", "09", "000", "001", "010", "1000", "1001", "9990", "9999", "10000", "99999999999"};
        for (String number : bad) {
            int at = number.charAt(0) == '0' ? 1 : 3;
            fault("t" + number, 1 + at);
            fault("f" + number + ":0", 1 + at);
            fault("f0:" + number, 3 + at);
            fault("f0:1," + number, 5 + at);
            fault("j" + number + "=0", 1 + at);
            fault("l" + number + ":0=0", 1 + at);
            fault("l0:" + number + "=0", 3 + at);
            fault("l0:0=" + number, 5 + at);
        }
        fault("t-1", 1);
        fault("t+1", 1);
        fault("t1.5", 2);
    }

    private void theFault() {
        s.says("The fault is the index of the first character that cannot stand at its place when the text is read from left to right"
            + " (also of a digit by which a number would be above 999); if there is none and the text ends too early (also if it is"
            + " empty), it is the length of the text.");
        s.is("fault() of a new object", new FibreLoops().fault(), 0);
        fault("", 0);
        fault("1", 0);
        fault("F0:1", 0);
        fault("t1;T1;x", 3);
        fault("t1000", 4);
        fault("t999;t1000;x", 9);
        fault("l0:0=1000", 8);
        fault("f0:1,2,3000,x", 10);
        String text = "f10:20,30;j40=1;l50:60=70;t80";
        boolean[] whole = new boolean[text.length() + 1];
        // Where the text could end: behind a number that ends an order, and behind each digit of it.
        int[] ends = {5, 6, 8, 9, 15, 24, 25, 28, 29};
        for (int end : ends) {
            whole[end] = true;
        }
        for (int length = 0; length <= text.length(); length++) {
            fault(text.substring(0, length), whole[length] ? FibreLoops.NONE : length);
        }
        fault("t1;".repeat(26) + "t", 79);
        fault("t1;".repeat(25) + "t12;t", NUMBER_OF_SIGNS);
    }

    private void constants() {
        s.tell("The constants:");
        s.says("`NO_SUCH = -1, BAD_VALUE = -2, BAD_TEXT = -3, TOO_MANY = -4, NOT_POSSIBLE = -5, NONE = -6`: Error codes, and NONE:"
            + " there is none.");
        s.is("NO_SUCH", FibreLoops.NO_SUCH, -1);
        s.is("BAD_VALUE", FibreLoops.BAD_VALUE, -2);
        s.is("BAD_TEXT", FibreLoops.BAD_TEXT, -3);
        s.is("TOO_MANY", FibreLoops.TOO_MANY, -4);
        s.is("NOT_POSSIBLE", FibreLoops.NOT_POSSIBLE, -5);
        s.is("NONE", FibreLoops.NONE, -6);
        s.says("`LOSS = 0, READING = 1, RECOVER = 2, FRESH = 3`: Settings.");
        s.is("LOSS", FibreLoops.LOSS, 0);
        s.is("READING", FibreLoops.READING, 1);
        s.is("RECOVER", FibreLoops.RECOVER, 2);
        s.is("FRESH", FibreLoops.FRESH, 3);
        s.says("`AMPLIFIER = 0, READER = 1, FEEDER = 2, CHANGER = 3, DROPPER = 4`: Kinds of devices.");
        s.is("AMPLIFIER", FibreLoops.AMPLIFIER, 0);
        s.is("READER", FibreLoops.READER, 1);
        s.is("FEEDER", FibreLoops.FEEDER, 2);
        s.is("CHANGER", FibreLoops.CHANGER, 3);
        s.is("DROPPER", FibreLoops.DROPPER, 4);
        s.says("`OFF = 0, CROSS = 1, MERGE = 2`: What a join is.");
        s.is("OFF", FibreLoops.OFF, 0);
        s.is("CROSS", FibreLoops.CROSS, 1);
        s.is("MERGE", FibreLoops.MERGE, 2);
        s.tell("Ahead of the calls `set`, `loop`, `device`, `join`, `turn`, `feed`, `light`, `ticks` the interface says: ----"
            + " setting up.");
        s.tell("Ahead of the calls `at`, `ofLoop`, `ofDevice`, `noted`, `ofJoin`, `find`, `count` the interface says: ---- what"
            + " there is.");
        s.tell("Ahead of the calls `valueIn`, `leftIn`, `firstLoss`, `bestPlace`, `bearable` the interface says: ---- what if;"
            + " nothing changes.");
        s.tell("Ahead of the calls `put`, `wipe`, `fault`, `carryOut` the interface says: ---- texts.");
        s.tell("Ahead of the calls `undo`, `save`, `restore` the interface says: ---- undo, saving.");
    }

    // ---- put

    private void promise22() {
        s.under("Promise 22: put");
        s.says("`int put(long characters)`: Appends characters to the pad.");
        FibreLoops x = Worlds.loops(0, 4);
        s.is("put(t)", x.put(Texts.number("t")), 1);
        s.is("put(1;t2;t)", x.put(Texts.number("1;t2;t")), 7);
        s.is("put(4;t8;t16)", x.put(Texts.number("4;t8;t1")), 14);
        s.is("put(6)", x.put(Texts.number("6")), 15);
        s.is("fault()", x.fault(), FibreLoops.NONE);
        s.is("carryOut()", x.carryOut(), 5);
        s.is("the tick", x.count(0), 1 + 2 + 4 + 8 + 16);
        x = Worlds.small();
        String before = Everything.of(x);
        int undoable = x.count(13);
        s.is("put behind a t", x.put('1'), 2);
        s.is("put is no change: count(13)", x.count(13), undoable);
        s.holds("put is no change: all but the pad", before.equals(Everything.of(x)));
    }

    private void promise22Numbers() {
        s.says("They are given as a number: its lowest 8 bits are the last character, the next 8 bits the one before, and so on; 8"
            + " bits that are 0 mean that there are no more characters, and everything above them has to be 0, too.");
        // Read from the highest bits on, each of these texts tells its own number of ticks.
        long[] numbers = {0x7431L, 0x743132L, 0x743b74333bL, 0x74313b7434L, 0x74313b743439L, 0x74313b7434393bL, 0x74313b743439303bL};
        String[] same = {"t1", "t12", "t;t3;", "t1;t4", "t1;t49", "t1;t49;", "t1;t490;"};
        for (int i = 0; i < numbers.length; i++) {
            FibreLoops x = new FibreLoops();
            s.is("put of '" + same[i] + "'", x.put(numbers[i]), same[i].length());
            s.is("fault() of it", x.fault(), faultOf(same[i]));
        }
        FibreLoops x = new FibreLoops();
        s.is("put of 8", x.put(0x74313b743b743939L), 8);
        s.is("its fault", x.fault(), 4);
        x.wipe();
        s.is("put of 8", x.put(0x74313b74323b7439L), 8);
        s.is("carryOut()", x.carryOut(), 3);
        s.is("the tick", x.count(0), 12);
        // All bits of one character above 8 bits that are 0, and each single one of them.
        for (int zero = 1; zero <= 6; zero++) {
            long below = 0x74747474747474L >>> (8 * (7 - zero));
            s.is(zero + " characters", new FibreLoops().put(below), zero);
            for (int bit = 8 * zero + 8; bit < 64; bit++) {
                String call = zero + " characters and bit " + bit;
                s.is(call, new FibreLoops().put(below | 1L << bit), FibreLoops.BAD_VALUE);
            }
            s.is(zero + " characters and one above", new FibreLoops().put(below | (long) 't' << (8 * zero + 8)), FibreLoops.BAD_VALUE);
        }
        s.is("7 characters", new FibreLoops().put(0x74747474747474L), 7);
        s.is("8 characters", new FibreLoops().put(0x7474747474747474L), 8);
        s.is("a character above 7 times 0", new FibreLoops().put(0x7400000000000000L), FibreLoops.BAD_VALUE);
        s.says("`characters`: 1 to 8 characters");
        for (int number = 1; number <= 8; number++) {
            s.is("put of " + number, new FibreLoops().put(Texts.number("~".repeat(number))), number);
            s.is("put of " + number, new FibreLoops().put(Texts.number("!".repeat(number))), number);
        }
        s.is("put of none", new FibreLoops().put(0), FibreLoops.BAD_VALUE);
    }

    private void promise22Returns() {
        s.says("Returns the length of the pad then; BAD_VALUE if there is no character, a code is not 33 to 126, or a bit above 8 bits"
            + " that are 0 is not 0; TOO_MANY if the pad would be longer than 80.");
        s.refuses("put(0)", Worlds::small, x -> x.put(0), FibreLoops.BAD_VALUE);
        s.refuses("put(256)", Worlds::small, x -> x.put(256), FibreLoops.BAD_VALUE);
        s.refuses("put(t above 0)", Worlds::small, x -> x.put(0x7400L), FibreLoops.BAD_VALUE);
        s.refuses("put(t above 0 above t)", Worlds::small, x -> x.put(0x740074L), FibreLoops.BAD_VALUE);
        long[] far = {Long.MIN_VALUE, Long.MAX_VALUE, -1, Integer.MIN_VALUE, 1L << 32, 1L << 63 | 't'};
        for (long number : far) {
            s.refuses("put(" + number + ")", Worlds::small, x -> x.put(number), FibreLoops.BAD_VALUE);
        }
        for (int place = 0; place < 8; place++) {
            for (int code = 1; code <= 255; code++) {
                // Each code at each place, with good characters at all the others.
                long number = 0x7474747474747474L & ~(255L << (8 * place)) | (long) code << (8 * place);
                int due = code >= 33 && code <= 126 ? 8 : FibreLoops.BAD_VALUE;
                s.is("code " + code + " at " + place, new FibreLoops().put(number), due);
                int dueAlone = place > 0 || code < 33 || code > 126 ? FibreLoops.BAD_VALUE : 1;
                s.is("code " + code + " alone at " + place, new FibreLoops().put((long) code << (8 * place)), dueAlone);
            }
        }
        for (int number = 1; number <= 8; number++) {
            FibreLoops x = new FibreLoops();
            Texts.put(x, "t".repeat(NUMBER_OF_SIGNS - number));
            if (number < 8) {
                s.is("to 81, by " + (number + 1), x.put(Texts.number("t".repeat(number + 1))), FibreLoops.TOO_MANY);
            }
            s.is("nothing was put", x.count(12), NUMBER_OF_SIGNS - number);
            s.is("to 80, by " + number, x.put(Texts.number("t".repeat(number))), NUMBER_OF_SIGNS);
            s.is("by one more", x.put('t'), FibreLoops.TOO_MANY);
            s.is("by eight more", x.put(Texts.number("tttttttt")), FibreLoops.TOO_MANY);
            s.is("by a wrong one", x.put(127), FibreLoops.BAD_VALUE);
            s.is("by none", x.put(0), FibreLoops.BAD_VALUE);
            s.is("its length", x.count(12), NUMBER_OF_SIGNS);
        }
    }

    // ---- wipe, fault

    private void promise23() {
        s.under("Promise 23: wipe");
        s.says("`int wipe()`: Empties the pad, and returns the length that it had.");
        s.is("of a new object", new FibreLoops().wipe(), 0);
        for (int length = 1; length <= NUMBER_OF_SIGNS; length++) {
            FibreLoops x = new FibreLoops();
            Texts.put(x, "t".repeat(length));
            s.is("of " + length, x.wipe(), length);
            s.is("again", x.wipe(), 0);
            s.is("its length", x.count(12), 0);
            s.is("its fault", x.fault(), 0);
        }
        FibreLoops x = Worlds.small();
        String before = Everything.of(x);
        int undoable = x.count(13);
        s.is("wipe()", x.wipe(), 1);
        s.is("no change: count(13)", x.count(13), undoable);
        s.holds("no change: all but the pad", before.equals(Everything.of(x)));
        x = Worlds.full();
        s.is("of a full pad", x.wipe(), NUMBER_OF_SIGNS);
        s.is("put to it then", x.put(Texts.number("t2")), 2);
        s.is("carryOut()", x.carryOut(), 1);
        s.is("the tick", x.count(0), 2);
    }

    private void promise24() {
        s.under("Promise 24: fault");
        s.says("`int fault()`: Returns the fault of the pad, NONE if there is none.");
        s.is("of a new object", new FibreLoops().fault(), 0);
        FibreLoops x = new FibreLoops();
        String text = "t1;j0=2x";
        int[] faults = {1, FibreLoops.NONE, 3, 4, 5, 6, FibreLoops.NONE, 7};
        for (int i = 0; i < text.length(); i++) {
            x.put(text.charAt(i));
            s.is("of '" + text.substring(0, i + 1) + "'", x.fault(), faults[i]);
            s.is("again", x.fault(), faults[i]);
            s.is("the pad stays", x.count(12), i + 1);
        }
        x.put('x');
        s.is("the first of two", x.fault(), 7);
        x.wipe();
        s.is("of an empty pad", x.fault(), 0);
        Texts.put(x, "t1");
        x.carryOut();
        s.is("of a pad that carryOut() emptied", x.fault(), 0);
        // Whether an order can be carried out is no matter of the text.
        fault("t0;t999;f999:999;j999=2;l999:999=999", FibreLoops.NONE);
        s.isNoChange("fault()", Worlds::small, FibreLoops::fault);
        s.isNoChange("fault() of a full pad", Worlds::full, FibreLoops::fault);
    }

    // ---- carryOut

    private void promise25() {
        s.under("Promise 25: carryOut");
        s.says("`int carryOut()`: Carries the orders of the pad out, one after the other, up to the first one that returns an error"
            + " (of an \"f\", the values ahead of the one that returns it stay fed), and empties the pad.");
        FibreLoops x = forOrders();
        Texts.put(x, "l0:0=7;t1;l0:0=8;t1;l0:0=9");
        s.is("one after the other", x.carryOut(), 5);
        for (int place = 0; place < 3; place++) {
            s.is("place " + place, x.at(0, place, 0), 9 - place);
        }
        s.is("the pad is empty", x.count(12), 0);
        String[] errors = {
            "t0", "t201", "t999", "f0:1", "f2:1", "f999:1", "f1:100", "f1:999", "j2=0", "j999=1", "l2:0=1", "l0:4=1", "l1:32=1",
            "l999:0=1", "l0:999=1", "l0:0=100", "l0:0=999",
        };
        for (String error : errors) {
            stops(error, 0, 0);
            stops("t1;" + error, 1, 1);
            stops(error + ";t1", 0, 0);
            stops("t1;t1;" + error + ";t1", 2, 2);
        }
        stops("t1;l0:0=1;l0:0=2;t1", 2, 1);
        fedValuesStay();
    }

    private void stops(String text, int done, int tick) {
        FibreLoops x = forOrders();
        Texts.put(x, text);
        s.is("carryOut() of '" + text + "'", x.carryOut(), done);
        s.is("the tick after '" + text + "'", x.count(0), tick);
        s.is("the pad after '" + text + "'", x.count(12), 0);
        s.is("no values wait after '" + text + "'", x.ofDevice(1, 5), 0);
    }

    private void fedValuesStay() {
        FibreLoops x = forOrders();
        Texts.put(x, "f1:5,6,100,7;t3");
        s.is("to a wrong third value", x.carryOut(), 0);
        s.is("two wait", x.ofDevice(1, 5), 2);
        s.is("no tick passed", x.count(0), 0);
        Texts.put(x, "t1");
        x.carryOut();
        s.is("the first of them", x.at(1, 0, 0), 5);
        x = forOrders();
        Texts.put(x, "f1:1,2,3,4,5,6,7,8,9,10,11,12,13,14;t3");
        s.is("to a thirteenth value", x.carryOut(), 0);
        s.is("twelve wait", x.ofDevice(1, 5), 12);
        s.is("the pad is empty", x.count(12), 0);
        x = forOrders();
        Texts.put(x, "f1:1,2,3,4,5,6,7,8,9,10,11,12;t3");
        s.is("twelve values", x.carryOut(), 2);
        s.is("three were put in", x.ofDevice(1, 5), 9);
        x = forOrders();
        Texts.put(x, "t1;f1:100");
        s.is("to a wrong first value", x.carryOut(), 1);
        s.is("none waits", x.ofDevice(1, 5), 0);
        Texts.put(x, "f1:1,2;f1:3,999");
        s.is("to a wrong value of a second f", x.carryOut(), 1);
        s.is("three wait", x.ofDevice(1, 5), 3);
    }

    private void promise25IsAChange() {
        s.says("This is a change (one, with all of them; also if none is carried out).");
        s.isAChange("of one", () -> with("t3"), FibreLoops::carryOut);
        s.isAChange("of all kinds", () -> with("f1:1,2;t5;j0=1;l0:0=4;t100"), FibreLoops::carryOut);
        s.isAChange("up to an error", () -> with("t1;t1;t0;t1"), FibreLoops::carryOut);
        s.isAChange("of none", () -> with("t0"), FibreLoops::carryOut);
        s.isAChange("of none but two values", () -> with("f1:1,2,100"), FibreLoops::carryOut);
        FibreLoops x = new FibreLoops();
        Texts.put(x, "t1;t1;t1;t1;t1;t1;t1;t1");
        s.is("of eight", x.carryOut(), 8);
        s.is("can be undone", x.count(13), 1);
        s.is("undo()", x.undo(), 0);
        s.is("the tick", x.count(0), 0);
        s.is("the pad stays empty", x.count(12), 0);
        Texts.put(x, "j0=0");
        s.is("of none", x.carryOut(), 0);
        s.is("can be undone", x.count(13), 1);
        s.is("the pad is empty", x.count(12), 0);
    }

    /** With a text, and with room for one more state in the history. */
    private FibreLoops with(String text) {
        FibreLoops x = forOrders();
        x.ticks(1);
        x.ticks(1);
        x.undo();
        x.undo();
        x.light(1, 9, 3);
        Texts.put(x, text);
        return x;
    }

    private void promise25Returns() {
        s.says("Returns how many orders were carried out (an \"f\" is one, if all its values were fed); BAD_TEXT if the pad has a"
            + " fault (then it stays).");
        for (int orders = 1; orders <= 27; orders++) {
            s.is(orders + " orders", carried("t1;".repeat(orders - 1) + "t1"), orders);
        }
        FibreLoops x = forOrders();
        Texts.put(x, "f1:1,2,3;f1:4;j1=1;l0:0=1");
        s.is("an f of three is one", x.carryOut(), 4);
        String[] bad = {"t", "t1;", "t1;x", "t1;t00", "t1;t1000", "t5,", "t1;j0=3", "f1:1,2,", "l0:0=1;t1;f1:1x"};
        for (String text : bad) {
            s.refuses("carryOut() of '" + text + "'", () -> with(text), FibreLoops::carryOut, FibreLoops.BAD_TEXT);
            FibreLoops y = with(text);
            y.carryOut();
            s.is("'" + text + "' stays", y.count(12), text.length());
            s.is("its fault stays", y.fault(), faultOf(text));
        }
        s.refuses("carryOut() of an empty pad", FibreLoops::new, FibreLoops::carryOut, FibreLoops.BAD_TEXT);
        FibreLoops z = with("t1;");
        z.carryOut();
        Texts.put(z, "t2");
        s.is("mended", z.carryOut(), 2);
        s.is("again, when it is empty", z.carryOut(), FibreLoops.BAD_TEXT);
    }
}
