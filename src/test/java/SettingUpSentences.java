/** The sentences of the promises 1 to 9. */
final class SettingUpSentences {
    private static final int LEAST = Integer.MIN_VALUE, GREATEST = Integer.MAX_VALUE;
    private final Sentences s;

    SettingUpSentences(Sentences s) {
        this.s = s;
    }

    void all() {
        promise1();
        promise2();
        promise3();
        promise4();
        promise4Arguments();
        promise5();
        promise6();
        promise7();
        promise8();
        promise9();
    }

    private void promise1() {
        s.under("Promise 1: A new object");
        s.says("`FibreLoops()`: Creates it without loops.");
        FibreLoops x = new FibreLoops();
        int[] counts = {0, 0, 0, 0, 0, 0, 0, 0, 10, 40, 20, 600, 0, 0};
        for (int what = 0; what < counts.length; what++) {
            s.is("count(" + what + ")", x.count(what), counts[what]);
        }
        s.is("ofLoop(0, 0)", x.ofLoop(0, 0), FibreLoops.NO_SUCH);
        s.is("light(0, 0, 0)", x.light(0, 0, 0), FibreLoops.NO_SUCH);
        s.is("device(0, 0, 1, 0, 0)", x.device(0, 0, 1, 0, 0), FibreLoops.NO_SUCH);
        s.is("join(0, 0, 1, 0)", x.join(0, 0, 1, 0), FibreLoops.NO_SUCH);
        s.is("bestPlace(0, 1, 1, 0)", x.bestPlace(0, 1, 1, 0), FibreLoops.NO_SUCH);
        s.is("find(0, 0)", x.find(0, 0), FibreLoops.NONE);
        s.is("leftIn(1)", x.leftIn(1), 0);
        s.is("firstLoss()", x.firstLoss(), FibreLoops.NONE);
        s.is("bearable()", x.bearable(), 50);
        s.is("fault()", x.fault(), 0);
        s.is("undo()", x.undo(), FibreLoops.NOT_POSSIBLE);
        s.is("restore(0)", x.restore(0), FibreLoops.NOT_POSSIBLE);
        s.is("restore(1)", x.restore(1), FibreLoops.NOT_POSSIBLE);
        x.loop(4);
        s.is("another one: count(1)", new FibreLoops().count(1), 0);
    }

    private void promise2() {
        s.under("Promise 2: set");
        s.tell("`int set(int setting, int value)`: Changes a setting.");
        s.says("This is a change.");
        for (int setting = 0; setting < 4; setting++) {
            int which = setting;
            s.isAChange("set(" + which + ", 150)", Worlds::small, x -> x.set(which, which == 0 ? 15 : 150));
        }
        s.isAChange("set to what it is", Worlds::small, x -> x.set(FibreLoops.LOSS, 10));
        s.says("Returns the previous value; BAD_VALUE if there is no such setting, or the value is out of its range.");
        int[] none = {-1, 4, LEAST, GREATEST};
        for (int setting : none) {
            s.refuses("set(" + setting + ", 100)", Worlds::small, x -> x.set(setting, 100), FibreLoops.BAD_VALUE);
            s.is("set(" + setting + ", 10)", new FibreLoops().set(setting, 10), FibreLoops.BAD_VALUE);
        }
        int[][] ranges = {{0, 50}, {0, 200}, {0, 200}, {100, 1000}};
        for (int setting = 0; setting < 4; setting++) {
            FibreLoops x = new FibreLoops();
            int previous = x.count(8 + setting);
            for (int value = ranges[setting][0]; value <= ranges[setting][1]; value += 25) {
                s.is("set(" + setting + ", " + value + ")", x.set(setting, value), previous);
                previous = value;
            }
            s.is("set(" + setting + ") below", x.set(setting, ranges[setting][0] - 1), FibreLoops.BAD_VALUE);
            s.is("set(" + setting + ") above", x.set(setting, ranges[setting][1] + 1), FibreLoops.BAD_VALUE);
            s.is("as it was set last", x.set(setting, previous), ranges[setting][1]);
        }
    }

    private void promise3() {
        s.under("Promise 3: loop");
        s.says("`int loop(int places)`: Makes a loop, without flashes.");
        FibreLoops x = new FibreLoops();
        x.save(0);
        x.loop(4);
        for (int place = 0; place < 4; place++) {
            x.light(0, place, place);
        }
        x.restore(0);
        x.loop(32);
        for (int what = 1; what <= 8; what++) {
            s.is("ofLoop(0, " + what + "), made anew", x.ofLoop(0, what), 0);
        }
        for (int place = 0; place < 32; place++) {
            s.is("at(0, " + place + ", 0), made anew", x.at(0, place, 0), FibreLoops.NONE);
        }
        s.says("This is a change.");
        s.isAChange("loop(4)", Worlds::small, y -> y.loop(4));
        s.isAChange("loop(32), the first", FibreLoops::new, y -> y.loop(32));
        s.says("`places`: 4 to 32");
        for (int places = 0; places <= 36; places++) {
            boolean good = places >= 4 && places <= 32;
            FibreLoops y = new FibreLoops();
            s.is("loop(" + places + ")", y.loop(places), good ? 0 : FibreLoops.BAD_VALUE);
            s.is("loop(" + places + "), then ofLoop(0, 0)", y.ofLoop(0, 0), good ? places : FibreLoops.NO_SUCH);
        }
        s.says("Returns its number; BAD_VALUE if places is out of range; TOO_MANY if there are 5 loops.");
        FibreLoops z = new FibreLoops();
        for (int i = 0; i < 5; i++) {
            s.is("loop(3), ahead of " + i, z.loop(3), FibreLoops.BAD_VALUE);
            s.is("loop(33), ahead of " + i, z.loop(33), FibreLoops.BAD_VALUE);
            s.is("loop(4)", z.loop(4), i);
        }
        s.is("loop(4), the sixth", z.loop(4), FibreLoops.TOO_MANY);
        s.is("loop(32), the sixth", z.loop(32), FibreLoops.TOO_MANY);
        s.is("loop(33), the sixth", z.loop(33), FibreLoops.BAD_VALUE);
        s.is("loop(least int), the sixth", z.loop(LEAST), FibreLoops.BAD_VALUE);
        s.is("loop(greatest int), the sixth", z.loop(GREATEST), FibreLoops.BAD_VALUE);
        s.is("count(1)", z.count(1), 5);
        z.undo();
        s.is("loop(4), the fifth again", z.loop(4), 4);
    }

    private void promise4() {
        s.under("Promise 4: device");
        s.says("`int device(int loop, int place, int kind, int one, int two)`: Makes a device.");
        madeAnew();
        s.says("This is a change.");
        for (int kind = 0; kind <= 4; kind++) {
            int which = kind;
            int number = kind == FibreLoops.AMPLIFIER ? 1 : 0;
            s.isAChange("device of kind " + which, Worlds::small, x -> x.device(0, 0, which, number, number));
        }
        s.isAChange("an amplifier", Worlds::small, x -> x.device(1, 4, FibreLoops.AMPLIFIER, 500, 2000));
        s.says("Returns its number; NO_SUCH if there is no such loop or place; BAD_VALUE if another argument is out of range;"
            + " TOO_MANY if there are 12 devices.");
        int[][] nowhere = {{-1, 0}, {2, 0}, {LEAST, 0}, {GREATEST, 0}, {0, -1}, {0, 4}, {1, 5}, {0, LEAST}, {0, GREATEST}};
        for (int[] w : nowhere) {
            String call = "device(" + w[0] + ", " + w[1] + ", ..)";
            s.refuses(call, Worlds::small, x -> x.device(w[0], w[1], 1, 0, 0), FibreLoops.NO_SUCH);
        }
        s.is("without loops", new FibreLoops().device(0, 0, 1, 0, 0), FibreLoops.NO_SUCH);
        FibreLoops x = Worlds.loops(0, 4, 32);
        s.is("at the last place of the first", x.device(0, 3, 1, 0, 0), 0);
        s.is("at the last place of the last", x.device(1, 31, 1, 0, 0), 1);
        s.is("at the first place of the last", x.device(1, 0, 1, 0, 0), 2);
        s.is("that of the last is not of the first", x.device(0, 31, 1, 0, 0), FibreLoops.NO_SUCH);
        for (int i = 3; i < 12; i++) {
            s.is("a wrong one ahead of " + i, x.device(0, 0, 1, 1, 0), FibreLoops.BAD_VALUE);
            s.is("device " + i, x.device(0, 0, 1, 0, 0), i);
        }
        s.is("the thirteenth", x.device(0, 0, 1, 0, 0), FibreLoops.TOO_MANY);
        s.is("the thirteenth, wrong", x.device(0, 0, 1, 0, 1), FibreLoops.BAD_VALUE);
        s.is("the thirteenth, nowhere", x.device(0, 4, 1, 0, 0), FibreLoops.NO_SUCH);
        x.undo();
        s.is("the twelfth again", x.device(0, 0, 2, 0, 0), 11);
    }

    /** What a device of this number did, kept and held that is no more is not of the new one. */
    private void madeAnew() {
        int[][] devices = {{0, 10, 20}, {1, 0, 0}, {2, 0, 0}, {3, 5, 5}, {4, 5, 0}};
        for (int[] before : devices) {
            for (int[] d : devices) {
                FibreLoops x = Worlds.loops(1, 4);
                x.save(0);
                x.device(0, 1, before[0], before[1], before[2]);
                for (int i = 0; i < 3; i++) {
                    x.feed(0, 5);
                    x.light(0, 0, 5);
                    x.ticks(4);
                }
                x.restore(0);
                String call = "kind " + d[0] + " in place of kind " + before[0] + ": ofDevice(0, ";
                s.is(call + ")", x.device(0, 3, d[0], d[1], d[2]), 0);
                int[] due = {d[0], 0, 3, d[1], d[2], d[0] == FibreLoops.AMPLIFIER ? d[2] : 0, 0};
                for (int what = 0; what <= 6; what++) {
                    s.is(call + what + ")", x.ofDevice(0, what), due[what]);
                }
                s.is(call + ") notes", x.noted(0, 0), d[0] == FibreLoops.READER ? FibreLoops.NONE : FibreLoops.NO_SUCH);
            }
        }
    }

    private void promise4Arguments() {
        s.says("`kind`: AMPLIFIER to DROPPER");
        int[] kinds = {LEAST, -2, -1, 5, 6, GREATEST};
        for (int kind : kinds) {
            s.refuses("kind " + kind, Worlds::small, x -> x.device(0, 0, kind, 0, 0), FibreLoops.BAD_VALUE);
            s.refuses("kind " + kind + " of 1 and 1", Worlds::small, x -> x.device(0, 0, kind, 1, 1), FibreLoops.BAD_VALUE);
        }
        for (int kind = 0; kind <= 4; kind++) {
            int number = kind == FibreLoops.AMPLIFIER ? 1 : 0;
            FibreLoops x = Worlds.loops(0, 4);
            s.is("kind " + kind, x.device(0, 0, kind, number, number), 0);
            s.is("kind " + kind + ", then ofDevice(0, 0)", x.ofDevice(0, 0), kind);
        }
        s.says("`one`: the gain, or the (first) value; 0 for a reader or a feeder");
        int[][] ones = {{0, 1, 500}, {1, 0, 0}, {2, 0, 0}, {3, 0, 99}, {4, 0, 99}};
        for (int[] o : ones) {
            argument("one of kind " + o[0], o[0], o[1], o[2], true);
        }
        s.says("`two`: the full store, or the second value of a changer; 0 for the others");
        int[][] twos = {{0, 1, 2000}, {1, 0, 0}, {2, 0, 0}, {3, 0, 99}, {4, 0, 0}};
        for (int[] t : twos) {
            argument("two of kind " + t[0], t[0], t[1], t[2], false);
        }
    }

    private void argument(String what, int kind, int low, int high, boolean isOne) {
        int other = kind == FibreLoops.AMPLIFIER ? 1 : 0;
        int[] bad = {LEAST, -1, low - 1, high + 1, GREATEST};
        for (int b : bad) {
            int answer = Worlds.loops(0, 4).device(0, 0, kind, isOne ? b : other, isOne ? other : b);
            s.is(what + " " + b, answer, FibreLoops.BAD_VALUE);
        }
        int[] good = {low, high};
        for (int g : good) {
            FibreLoops x = Worlds.loops(0, 4);
            s.is(what + " " + g, x.device(0, 0, kind, isOne ? g : other, isOne ? other : g), 0);
            s.is(what + " " + g + ", then ofDevice", x.ofDevice(0, isOne ? 3 : 4), g);
        }
    }

    private void promise5() {
        s.under("Promise 5: join");
        s.says("`int join(int loop, int place, int other, int otherPlace)`: Makes a join, which is OFF.");
        FibreLoops x = Worlds.loops(0, 4, 5, 6);
        x.save(0);
        x.join(0, 0, 1, 0);
        x.turn(0, FibreLoops.CROSS);
        x.light(0, 3, 1);
        x.ticks(1);
        x.restore(0);
        x.join(2, 5, 0, 3);
        int[] ofJoin = {2, 5, 0, 3, FibreLoops.OFF, 0};
        for (int what = 0; what <= 5; what++) {
            s.is("ofJoin(0, " + what + "), made anew", x.ofJoin(0, what), ofJoin[what]);
        }
        s.is("turn() it", x.turn(0, FibreLoops.MERGE), FibreLoops.OFF);
        s.says("This is a change.");
        s.isAChange("join(0, 3, 1, 4)", Worlds::small, y -> y.join(0, 3, 1, 4));
        s.says("Returns its number; NO_SUCH if there is no such loop or place; BAD_VALUE if both loops are the same;"
            + " TOO_MANY if there are 4 joins.");
        int[][] nowhere = {
            {-1, 0, 1, 0}, {2, 0, 1, 0}, {0, -1, 1, 0}, {0, 4, 1, 0}, {0, 0, -1, 0}, {0, 0, 2, 0}, {0, 0, 1, -1}, {0, 0, 1, 5},
            {LEAST, 0, 1, 0}, {GREATEST, 0, 1, 0}, {0, LEAST, 1, 0}, {0, GREATEST, 1, 0}, {0, 0, LEAST, 0}, {0, 0, GREATEST, 0},
            {0, 0, 1, LEAST}, {0, 0, 1, GREATEST}, {2, 0, 2, 0}, {-1, 0, -1, 0}, {0, 4, 0, 0}, {0, 0, 0, 4}, {1, 0, 0, 4},
        };
        for (int[] w : nowhere) {
            String call = "join(" + w[0] + ", " + w[1] + ", " + w[2] + ", " + w[3] + ")";
            s.refuses(call, Worlds::small, y -> y.join(w[0], w[1], w[2], w[3]), FibreLoops.NO_SUCH);
        }
        s.refuses("join(0, 0, 0, 0)", Worlds::small, y -> y.join(0, 0, 0, 0), FibreLoops.BAD_VALUE);
        s.refuses("join(1, 4, 1, 0)", Worlds::small, y -> y.join(1, 4, 1, 0), FibreLoops.BAD_VALUE);
        FibreLoops z = Worlds.loops(0, 4, 32);
        int[][] good = {{0, 3, 1, 31}, {1, 31, 0, 3}, {0, 0, 1, 0}, {0, 0, 1, 0}};
        for (int i = 0; i < 4; i++) {
            s.is("join " + i, z.join(good[i][0], good[i][1], good[i][2], good[i][3]), i);
        }
        s.is("the fifth", z.join(0, 1, 1, 1), FibreLoops.TOO_MANY);
        s.is("the fifth, of one loop", z.join(1, 0, 1, 1), FibreLoops.BAD_VALUE);
        s.is("the fifth, to no place", z.join(0, 0, 1, 32), FibreLoops.NO_SUCH);
        s.is("count(3)", z.count(3), 4);
        z.undo();
        s.is("the fourth again", z.join(0, 1, 1, 1), 3);
    }

    private void promise6() {
        s.under("Promise 6: turn");
        s.tell("`int turn(int join, int mode)`: Turns a join.");
        s.says("This is a change.");
        for (int mode = 0; mode <= 2; mode++) {
            int which = mode;
            s.isAChange("turn(0, " + which + ")", Worlds::small, x -> x.turn(0, which));
        }
        s.says("`mode`: OFF to MERGE");
        int[] bad = {LEAST, -1, 3, GREATEST};
        for (int mode : bad) {
            s.refuses("turn(0, " + mode + ")", Worlds::small, x -> x.turn(0, mode), FibreLoops.BAD_VALUE);
        }
        s.says("Returns what it was; NO_SUCH if there is no such join; BAD_VALUE if mode is out of range.");
        int[] modes = {0, 1, 1, 2, 2, 0, 2, 1, 0};
        FibreLoops x = Worlds.full();
        int was = FibreLoops.OFF;
        for (int mode : modes) {
            s.is("turn(3, " + mode + ")", x.turn(3, mode), was);
            s.is("ofJoin(3, 4)", x.ofJoin(3, 4), mode);
            s.is("ofJoin(2, 4)", x.ofJoin(2, 4), FibreLoops.OFF);
            was = mode;
        }
        int[] none = {LEAST, -1, 1, 4, GREATEST};
        for (int join : none) {
            s.refuses("turn(" + join + ", 0)", Worlds::small, y -> y.turn(join, 0), FibreLoops.NO_SUCH);
            s.refuses("turn(" + join + ", 3)", Worlds::small, y -> y.turn(join, 3), FibreLoops.NO_SUCH);
        }
        s.is("turn(4, 0) of 4", x.turn(4, 0), FibreLoops.NO_SUCH);
        s.is("turn(0, 0) of none", new FibreLoops().turn(0, 0), FibreLoops.NO_SUCH);
    }

    private void promise7() {
        s.under("Promise 7: feed");
        s.says("`int feed(int device, int value)`: Puts a value at the end of the queue of a feeder.");
        FibreLoops x = Worlds.loops(0, 8);
        x.device(0, 0, FibreLoops.FEEDER, 0, 0);
        x.feed(0, 3);
        x.feed(0, 1);
        x.ticks(1);
        x.feed(0, 2);
        x.ticks(2);
        s.is("the first one", x.at(0, 2, 0), 3);
        s.is("the second one", x.at(0, 1, 0), 1);
        s.is("the one at the end", x.at(0, 0, 0), 2);
        s.says("This is a change.");
        s.isAChange("feed(2, 0)", Worlds::small, y -> y.feed(2, 0));
        s.isAChange("feed(2, 99)", Worlds::small, y -> y.feed(2, 99));
        s.says("`value`: 0 to 99");
        int[] bad = {LEAST, -1, 100, GREATEST};
        for (int value : bad) {
            s.refuses("feed(2, " + value + ")", Worlds::small, y -> y.feed(2, value), FibreLoops.BAD_VALUE);
        }
        s.says("Returns how many values wait then; NO_SUCH if there is no such device, or it is no feeder; BAD_VALUE if value is"
            + " out of range; TOO_MANY if 12 values wait.");
        int[] none = {LEAST, -1, 0, 1, 3, 4, 5, GREATEST};
        for (int device : none) {
            s.refuses("feed(" + device + ", 1)", Worlds::small, y -> y.feed(device, 1), FibreLoops.NO_SUCH);
            s.refuses("feed(" + device + ", 100)", Worlds::small, y -> y.feed(device, 100), FibreLoops.NO_SUCH);
        }
        s.is("without devices", Worlds.loops(0, 4).feed(0, 1), FibreLoops.NO_SUCH);
        FibreLoops z = Worlds.loops(0, 32);
        z.device(0, 0, FibreLoops.FEEDER, 0, 0);
        for (int i = 1; i <= 12; i++) {
            s.is("value " + i, z.feed(0, 100 - i), i);
        }
        s.is("value 13", z.feed(0, 0), FibreLoops.TOO_MANY);
        s.is("value 13, wrong", z.feed(0, -1), FibreLoops.BAD_VALUE);
        z.ticks(12);
        s.is("none waits", z.feed(0, 5), 1);
        s.is("the twelfth", z.at(0, 0, 0), 88);
        s.is("the first", z.at(0, 11, 0), 99);
    }

    private void promise8() {
        s.under("Promise 8: light");
        s.says("`int light(int loop, int place, int value)`: Puts a flash, of the strength FRESH, at a place.");
        int[] fresh = {100, 600, 1000};
        for (int strength : fresh) {
            FibreLoops x = Worlds.loops(0, 4, 4);
            x.set(FibreLoops.FRESH, strength);
            x.ticks(7);
            x.light(1, 3, 8);
            s.is("its strength", x.at(1, 3, 1), strength);
            s.is("its value", x.at(1, 3, 0), 8);
            s.is("its age", x.at(1, 3, 2), 0);
            s.is("at no other place", x.count(4), 1);
        }
        s.says("This is a change.");
        s.isAChange("light(0, 1, 0)", Worlds::small, x -> x.light(0, 1, 0));
        s.says("`value`: 0 to 99");
        int[] bad = {LEAST, -1, 100, GREATEST};
        for (int value : bad) {
            s.refuses("light(0, 1, " + value + ")", Worlds::small, x -> x.light(0, 1, value), FibreLoops.BAD_VALUE);
        }
        int[] good = {0, 99};
        for (int value : good) {
            FibreLoops x = Worlds.loops(0, 4);
            s.is("light(0, 0, " + value + ")", x.light(0, 0, value), 1);
            s.is("then at(0, 0, 0)", x.at(0, 0, 0), value);
        }
        s.says("Returns how many flashes the loop has then; NO_SUCH if there is no such loop or place; BAD_VALUE if value is out"
            + " of range; NOT_POSSIBLE if a flash is there.");
        int[][] nowhere = {{-1, 0}, {2, 0}, {LEAST, 0}, {GREATEST, 0}, {0, -1}, {0, 4}, {1, 5}, {0, LEAST}, {0, GREATEST}};
        for (int[] w : nowhere) {
            String call = "light(" + w[0] + ", " + w[1] + ", ";
            s.refuses(call + "1)", Worlds::small, x -> x.light(w[0], w[1], 1), FibreLoops.NO_SUCH);
            s.refuses(call + "100)", Worlds::small, x -> x.light(w[0], w[1], 100), FibreLoops.NO_SUCH);
        }
        s.is("without loops", new FibreLoops().light(0, 0, 0), FibreLoops.NO_SUCH);
        FibreLoops x = Worlds.loops(0, 32, 4);
        x.light(1, 0, 1);
        for (int i = 1; i <= 32; i++) {
            s.is("flash " + i, x.light(0, 32 - i, 5), i);
            s.is("another one there", x.light(0, 32 - i, 6), FibreLoops.NOT_POSSIBLE);
            s.is("a wrong one there", x.light(0, 32 - i, 100), FibreLoops.BAD_VALUE);
        }
        s.is("of the other loop", x.light(1, 3, 5), 2);
        FibreLoops faint = Worlds.loops(33, 4);
        faint.set(FibreLoops.FRESH, 100);
        faint.light(0, 0, 1);
        faint.ticks(3);
        s.is("where a flash of a strength of 1 is", faint.light(0, 3, 2), FibreLoops.NOT_POSSIBLE);
        faint.ticks(1);
        s.is("where it was lost", faint.light(0, 0, 2), 1);
        s.is("not changed", x.at(0, 0, 0), 5);
    }

    private void promise9() {
        s.under("Promise 9: ticks");
        s.says("`int ticks(int ticks)`: Lets ticks pass.");
        int[] numbers = {1, 2, 100, 199, 200};
        for (int ticks : numbers) {
            FibreLoops x = Worlds.loops(1, 32);
            x.light(0, 0, 5);
            x.ticks(ticks);
            s.is("after " + ticks + ": strength", x.at(0, ticks % 32, 1), 600 - ticks);
            s.is("after " + ticks + ": age", x.at(0, ticks % 32, 2), ticks);
        }
        s.says("This is a change.");
        s.isAChange("ticks(1)", Worlds::small, x -> x.ticks(1));
        s.isAChange("ticks(200)", Worlds::small, x -> x.ticks(200));
        s.isAChange("ticks(1) with nothing there", FibreLoops::new, x -> x.ticks(1));
        s.says("`ticks`: 1 to 200");
        int[] bad = {LEAST, -200, -1, 0, 201, GREATEST};
        for (int ticks : bad) {
            s.refuses("ticks(" + ticks + ")", Worlds::small, x -> x.ticks(ticks), FibreLoops.BAD_VALUE);
        }
        s.says("Returns the tick then; BAD_VALUE if ticks is out of range.");
        FibreLoops x = new FibreLoops();
        s.is("ticks(1)", x.ticks(1), 1);
        s.is("ticks(200)", x.ticks(200), 201);
        s.is("ticks(201)", x.ticks(201), FibreLoops.BAD_VALUE);
        s.is("ticks(0)", x.ticks(0), FibreLoops.BAD_VALUE);
        s.is("ticks(199)", x.ticks(199), 400);
        s.is("count(0)", x.count(0), 400);
    }
}
