/** The sentences of the terms, up to what a tick is. */
final class TermSentences {
    private static final int LEAST = Integer.MIN_VALUE, GREATEST = Integer.MAX_VALUE;
    private final Sentences s;

    TermSentences(Sentences s) {
        this.s = s;
    }

    void all() {
        conventions();
        settings();
        loopsAndFlashes();
        devices();
        amplifiers();
        readers();
        feeders();
        changersAndDroppers();
        joins();
        aTick();
    }

    // ---- conventions

    private void conventions() {
        s.under("Terms");
        s.tell("CONVENTIONS.");
        s.says("A method that fails returns one of the error codes NO_SUCH (-1), BAD_VALUE (-2), BAD_TEXT (-3), TOO_MANY (-4)"
            + " and NOT_POSSIBLE (-5); it names its errors in the order in which they are checked, and the first one that"
            + " applies is returned.");
        theFirstErrorOfSettingUp();
        theFirstErrorOfAsking();
        theFirstErrorOfTheOthers();
        s.says("A call that returns an error changes nothing.");
        errorsOfSettingUpChangeNothing();
        errorsOfAskingChangeNothing();
        s.says("NONE (-6) is not an error; it is returned only if no error applies.");
        errorsComeAheadOfNone();
        s.says("Everything is numbered from 0, in the order in which it was made.");
        numbersAreInOrder();
        s.tell("Divisions are rounded down.");
        s.says("The tick is 0 at first.");
        s.is("count(0)", new FibreLoops().count(0), 0);
        s.is("the first ticks(1)", new FibreLoops().ticks(1), 1);
        s.is("save(0)", new FibreLoops().save(0), 0);
    }

    private void theFirstErrorOfSettingUp() {
        FibreLoops x = Worlds.full();
        s.is("loop(3), the sixth", x.loop(3), -2);
        s.is("loop(4), the sixth", x.loop(4), -4);
        s.is("device, the thirteenth, nowhere and of no kind", x.device(5, 0, 5, 0, 0), -1);
        s.is("device, the thirteenth, at no place", x.device(0, 4, 1, 0, 0), -1);
        s.is("device, the thirteenth, of no kind", x.device(0, 0, 5, 0, 0), -2);
        s.is("device, the thirteenth", x.device(0, 0, 1, 0, 0), -4);
        s.is("join, the fifth, of a loop with itself, at no place", x.join(0, 0, 0, 4), -1);
        s.is("join, the fifth, to no place", x.join(0, 0, 1, 4), -1);
        s.is("join, the fifth, of a loop with itself", x.join(0, 0, 0, 1), -2);
        s.is("join, the fifth", x.join(0, 0, 1, 1), -4);
        s.is("turn(4, 3)", x.turn(4, 3), -1);
        s.is("turn(3, 3)", x.turn(3, 3), -2);
        s.is("feed(12, 100)", x.feed(12, 100), -1);
        s.is("feed(a reader, 100)", x.feed(1, 100), -1);
        s.is("feed(a full one, 100)", x.feed(0, 100), -2);
        s.is("feed(a full one, 99)", x.feed(0, 99), -4);
        s.is("light(5, 0, 100)", x.light(5, 0, 100), -1);
        s.is("light(0, 4, 100)", x.light(0, 4, 100), -1);
        s.is("light(where a flash is, 100)", x.light(0, 0, 100), -2);
        s.is("light(where a flash is, 99)", x.light(0, 0, 99), -5);
    }

    private void theFirstErrorOfAsking() {
        FibreLoops x = Worlds.full();
        s.is("at(5, 0, 4)", x.at(5, 0, 4), -1);
        s.is("at(0, 4, 4)", x.at(0, 4, 4), -1);
        s.is("ofLoop(5, 9)", x.ofLoop(5, 9), -1);
        s.is("ofDevice(12, 7)", x.ofDevice(12, 7), -1);
        s.is("ofJoin(4, 6)", x.ofJoin(4, 6), -1);
        s.is("valueIn(5, 0, 0)", x.valueIn(5, 0, 0), -1);
        s.is("valueIn(0, 4, 201)", x.valueIn(0, 4, 201), -1);
    }

    private void theFirstErrorOfTheOthers() {
        FibreLoops x = Worlds.full();
        s.is("bestPlace(5, 0, 0, 2) with 12 devices", x.bestPlace(5, 0, 0, 2), -1);
        s.is("bestPlace(0, 0, 1, 0) with 12 devices", x.bestPlace(0, 0, 1, 0), -2);
        s.is("bestPlace(0, 1, 0, 0) with 12 devices", x.bestPlace(0, 1, 0, 0), -2);
        s.is("bestPlace(0, 1, 1, 2) with 12 devices", x.bestPlace(0, 1, 1, 2), -2);
        s.is("bestPlace(0, 1, 1, 0) with 12 devices", x.bestPlace(0, 1, 1, 0), -4);
        s.is("put(0) on a full pad", x.put(0), -2);
        s.is("put of a blank on a full pad", x.put(32), -2);
        s.is("put of a sign on a full pad", x.put(33), -4);
        s.is("restore(2) of none", x.restore(2), -2);
        s.is("restore(1) of none", x.restore(1), -5);
        s.is("carryOut() of a text that ends too early", new FibreLoops().carryOut(), -3);
    }

    private void errorsOfSettingUpChangeNothing() {
        s.refuses("set(0, 51)", Worlds::small, x -> x.set(0, 51), -2);
        s.refuses("set(4, 1)", Worlds::small, x -> x.set(4, 1), -2);
        s.refuses("loop(33)", Worlds::small, x -> x.loop(33), -2);
        s.refuses("the sixth loop(4)", Worlds::full, x -> x.loop(4), -4);
        s.refuses("device(2, 0, 1, 0, 0)", Worlds::small, x -> x.device(2, 0, 1, 0, 0), -1);
        s.refuses("device(0, 0, 0, 501, 1)", Worlds::small, x -> x.device(0, 0, 0, 501, 1), -2);
        s.refuses("the thirteenth device", Worlds::full, x -> x.device(0, 0, 1, 0, 0), -4);
        s.refuses("join(0, 0, 1, 5)", Worlds::small, x -> x.join(0, 0, 1, 5), -1);
        s.refuses("join(0, 0, 0, 1)", Worlds::small, x -> x.join(0, 0, 0, 1), -2);
        s.refuses("the fifth join", Worlds::full, x -> x.join(0, 0, 1, 1), -4);
        s.refuses("turn(1, 0)", Worlds::small, x -> x.turn(1, 0), -1);
        s.refuses("turn(0, 3)", Worlds::small, x -> x.turn(0, 3), -2);
        s.refuses("feed(0, 1)", Worlds::small, x -> x.feed(0, 1), -1);
        s.refuses("feed(2, 100)", Worlds::small, x -> x.feed(2, 100), -2);
        s.refuses("the thirteenth feed(0, 1)", Worlds::full, x -> x.feed(0, 1), -4);
        s.refuses("light(0, 4, 1)", Worlds::small, x -> x.light(0, 4, 1), -1);
        s.refuses("light(0, 0, 100)", Worlds::small, x -> x.light(0, 0, 100), -2);
        s.refuses("light where a flash is", Worlds::full, x -> x.light(0, 0, 1), -5);
        s.refuses("ticks(0)", Worlds::small, x -> x.ticks(0), -2);
        s.refuses("ticks(201)", Worlds::small, x -> x.ticks(201), -2);
    }

    private void errorsOfAskingChangeNothing() {
        s.refuses("at(0, 0, 4)", Worlds::small, x -> x.at(0, 0, 4), -2);
        s.refuses("ofLoop(2, 0)", Worlds::small, x -> x.ofLoop(2, 0), -1);
        s.refuses("ofDevice(5, 0)", Worlds::small, x -> x.ofDevice(5, 0), -1);
        s.refuses("noted(0, 0)", Worlds::small, x -> x.noted(0, 0), -1);
        s.refuses("ofJoin(0, 6)", Worlds::small, x -> x.ofJoin(0, 6), -2);
        s.refuses("find(100, 0)", Worlds::small, x -> x.find(100, 0), -2);
        s.refuses("count(14)", Worlds::small, x -> x.count(14), -2);
        s.refuses("valueIn(0, 0, 201)", Worlds::small, x -> x.valueIn(0, 0, 201), -2);
        s.refuses("leftIn(0)", Worlds::small, x -> x.leftIn(0), -2);
        s.refuses("bestPlace(0, 1, 1, 2)", Worlds::small, x -> x.bestPlace(0, 1, 1, 2), -2);
        s.refuses("bestPlace with 12 devices", Worlds::full, x -> x.bestPlace(0, 1, 1, 0), -4);
        s.refuses("put(32)", Worlds::small, x -> x.put(32), -2);
        s.refuses("put(a, blank)", Worlds::small, x -> x.put('a' * 256L + ' '), -2);
        s.refuses("put on a full pad", Worlds::full, x -> x.put('a'), -4);
        s.refuses("carryOut()", Worlds::small, FibreLoops::carryOut, -3);
        s.refuses("undo() of none", FibreLoops::new, FibreLoops::undo, -5);
        s.refuses("save(2)", Worlds::small, x -> x.save(2), -2);
        s.refuses("restore(-1)", Worlds::small, x -> x.restore(-1), -2);
        s.refuses("restore(1) of none", Worlds::small, x -> x.restore(1), -5);
    }

    private void errorsComeAheadOfNone() {
        FibreLoops x = Worlds.loops(0, 4);
        x.device(0, 0, FibreLoops.READER, 0, 0);
        x.device(0, 0, FibreLoops.FEEDER, 0, 0);
        s.is("at(1, 0, 0), no such loop", x.at(1, 0, 0), -1);
        s.is("at(0, 0, 4), where no flash is", x.at(0, 0, 4), -2);
        s.is("at(0, 0, 0), where no flash is", x.at(0, 0, 0), -6);
        s.is("at(0, 0, 2), where no flash is", x.at(0, 0, 2), -6);
        s.is("noted(1, -1), of a feeder", x.noted(1, -1), -1);
        s.is("noted(2, -1), of none", x.noted(2, -1), -1);
        s.is("noted(0, -1)", x.noted(0, -1), -6);
        s.is("find(100, 0), without flashes", x.find(100, 0), -2);
        s.is("find(0, 3), without flashes", x.find(0, 3), -2);
        s.is("find(0, 0), without flashes", x.find(0, 0), -6);
        s.is("valueIn(0, 4, 1)", x.valueIn(0, 4, 1), -1);
        s.is("valueIn(0, 0, 0), where no flash is", x.valueIn(0, 0, 0), -2);
        s.is("valueIn(0, 0, 1), where no flash is", x.valueIn(0, 0, 1), -6);
        s.is("firstLoss()", x.firstLoss(), -6);
        x.put('t');
        x.put('1');
        s.is("fault()", x.fault(), -6);
    }

    private void numbersAreInOrder() {
        FibreLoops x = new FibreLoops();
        for (int i = 0; i < 5; i++) {
            s.is("loop(" + (4 + i) + ")", x.loop(4 + i), i);
        }
        for (int i = 0; i < 12; i++) {
            s.is("device of " + i, x.device(i % 5, i % 4, FibreLoops.CHANGER, i, 99 - i), i);
        }
        for (int i = 0; i < 4; i++) {
            s.is("join from " + i, x.join(i, i, 4, 7), i);
        }
        for (int i = 0; i < 5; i++) {
            s.is("ofLoop(" + i + ", 0)", x.ofLoop(i, 0), 4 + i);
        }
        for (int i = 0; i < 12; i++) {
            s.is("ofDevice(" + i + ", 3)", x.ofDevice(i, 3), i);
        }
        for (int i = 0; i < 4; i++) {
            s.is("ofJoin(" + i + ", 0)", x.ofJoin(i, 0), i);
        }
    }

    // ---- settings, loops, flashes

    private void settings() {
        s.under("Settings");
        s.tell("(In parentheses: range; first value.)");
        s.says("LOSS (0 to 50; 10).");
        setting(FibreLoops.LOSS, 0, 50, 10);
        s.says("READING (0 to 200; 40).");
        setting(FibreLoops.READING, 0, 200, 40);
        s.says("RECOVER (0 to 200; 20).");
        setting(FibreLoops.RECOVER, 0, 200, 20);
        s.says("FRESH (100 to 1000; 600).");
        setting(FibreLoops.FRESH, 100, 1000, 600);
    }

    private void setting(int setting, int low, int high, int first) {
        FibreLoops x = new FibreLoops();
        s.is("first", x.count(8 + setting), first);
        s.is("set to " + high, x.set(setting, high), first);
        s.is("set to " + (high + 1), x.set(setting, high + 1), FibreLoops.BAD_VALUE);
        s.is("then", x.count(8 + setting), high);
        s.is("set to " + low, x.set(setting, low), high);
        s.is("set to " + (low - 1), x.set(setting, low - 1), FibreLoops.BAD_VALUE);
        s.is("then", x.count(8 + setting), low);
        s.is("set to the least int", x.set(setting, LEAST), FibreLoops.BAD_VALUE);
        s.is("set to the greatest int", x.set(setting, GREATEST), FibreLoops.BAD_VALUE);
        for (int other = 0; other < 4; other++) {
            if (other != setting) {
                s.is("the others stay", x.count(8 + other), new FibreLoops().count(8 + other));
            }
        }
    }

    private void loopsAndFlashes() {
        s.tell("Loops, flashes");
        s.says("There are up to 5 loops, each with 4 to 32 places in a ring: behind its last place comes its place 0.");
        for (int places = 4; places <= 32; places++) {
            FibreLoops x = Worlds.loops(0, places);
            s.is("the last of " + places, x.light(0, places - 1, 1), 1);
            s.is("one behind it", x.light(0, places, 2), FibreLoops.NO_SUCH);
            x.light(0, 0, 3);
            x.ticks(1);
            s.is("from the last of " + places, x.at(0, 0, 0), 1);
            s.is("from place 0 of " + places, x.at(0, 1, 0), 3);
            x.ticks(places - 1);
            s.is("round by round of " + places, x.at(0, places - 1, 0), 1);
        }
        FibreLoops x = Worlds.loops(0, 32, 32, 32, 32);
        s.is("the fifth", x.loop(32), 4);
        s.is("the sixth", x.loop(32), FibreLoops.TOO_MANY);
        s.is("its place 0", x.light(5, 0, 1), FibreLoops.NO_SUCH);
        s.is("the fifth's place 31", x.light(4, 31, 1), 1);
        s.says("At each place there is a flash or none; a flash has a value (0 to 99) and a strength (1 to 1000).");
        flashesAndNone();
    }

    private void flashesAndNone() {
        FibreLoops x = Worlds.loops(0, 4);
        x.light(0, 0, 0);
        x.light(0, 1, 99);
        s.is("a value of 0", x.at(0, 0, 0), 0);
        s.is("a value of 99", x.at(0, 1, 0), 99);
        s.is("a value of 100", x.light(0, 2, 100), FibreLoops.BAD_VALUE);
        s.is("a value of -1", x.light(0, 2, -1), FibreLoops.BAD_VALUE);
        s.is("no flash: value", x.at(0, 2, 0), FibreLoops.NONE);
        s.is("no flash: strength", x.at(0, 2, 1), 0);
        s.is("another one where one is", x.light(0, 0, 1), FibreLoops.NOT_POSSIBLE);
        x = Worlds.loops(0, 4);
        x.set(FibreLoops.FRESH, 1000);
        x.light(0, 0, 7);
        s.is("a strength of 1000", x.at(0, 0, 1), 1000);
        x.set(FibreLoops.FRESH, 100);
        x.light(0, 1, 8);
        x.set(FibreLoops.LOSS, 33);
        x.ticks(3);
        s.is("a strength of 1", x.at(0, 0, 1), 1);
        s.is("and its value", x.at(0, 0, 0), 8);
        s.is("it is one", x.ofLoop(0, 1), 2);
        x.set(FibreLoops.LOSS, 1);
        x.ticks(1);
        s.is("no strength of 0: flashes", x.ofLoop(0, 1), 1);
        s.is("no strength of 0: value", x.at(0, 1, 0), FibreLoops.NONE);
    }

    // ---- devices

    private void devices() {
        s.under("Devices");
        s.says("There are up to 12 devices; a device is at a place of a loop (several may be at the same place),"
            + " and is one of these:");
        FibreLoops x = Worlds.loops(0, 4);
        x.set(FibreLoops.READING, 1);
        for (int i = 0; i < 12; i++) {
            s.is("device " + i + " at one place", x.device(0, 1, FibreLoops.READER, 0, 0), i);
        }
        s.is("the thirteenth", x.device(0, 2, FibreLoops.READER, 0, 0), FibreLoops.TOO_MANY);
        x.light(0, 0, 5);
        x.ticks(1);
        s.is("fainter by all twelve", x.at(0, 1, 1), 588);
        for (int i = 0; i < 12; i++) {
            s.is("noted by " + i, x.noted(i, 0), 5);
        }
        x.ticks(3);
        s.is("at no other place", x.at(0, 0, 1), 588);
    }

    private static FibreLoops withAmplifier(int gain, int store) {
        FibreLoops x = Worlds.loops(0, 4);
        x.set(FibreLoops.RECOVER, 0);
        x.device(0, 1, FibreLoops.AMPLIFIER, gain, store);
        return x;
    }

    private void amplifiers() {
        s.says("AMPLIFIER (0): with a gain (1 to 500) and a full store (1 to 2000; the store is full at first).");
        int[][] good = {{1, 1}, {500, 1}, {1, 2000}, {500, 2000}};
        for (int[] g : good) {
            FibreLoops x = Worlds.loops(0, 4);
            s.is("gain " + g[0] + ", store " + g[1], x.device(0, 0, FibreLoops.AMPLIFIER, g[0], g[1]), 0);
            s.is("its store", x.ofDevice(0, 5), g[1]);
        }
        int[][] bad = {{0, 1}, {501, 1}, {1, 0}, {1, 2001}, {-1, 1}, {1, -1}, {LEAST, 1}, {1, LEAST}, {GREATEST, 1}, {1, GREATEST}};
        for (int[] b : bad) {
            String call = "gain " + b[0] + ", store " + b[1];
            s.is(call, Worlds.loops(0, 4).device(0, 0, FibreLoops.AMPLIFIER, b[0], b[1]), FibreLoops.BAD_VALUE);
        }
        s.says("If a flash is at its place, it becomes stronger by the gain, but by no more than the store holds, and not above"
            + " 1000; the store becomes less by as much as the flash became stronger.");
        amplified("by the greatest gain", 500, 500, 2000, 1000, 1500, 1);
        amplified("by the least gain", 1, 600, 2000, 601, 1999, 1);
        amplified("by all that the store holds", 50, 600, 50, 650, 0, 1);
        amplified("by less than the gain", 50, 600, 49, 649, 0, 1);
        amplified("by no more than the gain", 50, 600, 51, 650, 1, 1);
        amplified("up to 1000", 50, 950, 200, 1000, 150, 1);
        amplified("not above 1000", 50, 951, 200, 1000, 151, 1);
        amplified("by 1, to 1000", 50, 999, 200, 1000, 199, 1);
        amplified("not at 1000", 50, 1000, 200, 1000, 200, 0);
        amplified("to 999 by all of the store", 500, 900, 99, 999, 0, 1);
        amplified("to 1000 by all of the store", 500, 900, 100, 1000, 0, 1);
        amplified("to 1000 by less than the store", 500, 900, 101, 1000, 1, 1);
        amplifiersAtRest();
    }

    private void amplified(String what, int gain, int strength, int store, int then, int left, int acts) {
        FibreLoops x = withAmplifier(gain, store);
        x.set(FibreLoops.FRESH, strength);
        x.light(0, 0, 5);
        x.ticks(1);
        s.is(what + ": strength", x.at(0, 1, 1), then);
        s.is(what + ": store", x.ofDevice(0, 5), left);
        s.is(what + ": acts", x.ofDevice(0, 6), acts);
    }

    private void amplifiersAtRest() {
        FibreLoops x = withAmplifier(50, 70);
        x.ticks(3);
        s.is("no flash: store", x.ofDevice(0, 5), 70);
        x.light(0, 0, 5);
        x.ticks(4);
        s.is("elsewhere: store", x.ofDevice(0, 5), 20);
        x.ticks(1);
        s.is("the rest of the store: strength", x.at(0, 1, 1), 670);
        x.ticks(4);
        s.is("an empty store: strength", x.at(0, 1, 1), 670);
        s.is("an empty store: store", x.ofDevice(0, 5), 0);
        s.is("an empty store: acts", x.ofDevice(0, 6), 2);
        // The last of its strength goes by LOSS, ahead of the devices.
        x = withAmplifier(50, 70);
        x.set(FibreLoops.FRESH, 100);
        x.light(0, 2, 5);
        x.set(FibreLoops.LOSS, 25);
        x.ticks(2);
        x.set(FibreLoops.LOSS, 50);
        x.ticks(1);
        s.is("lost where it stands: flashes", x.ofLoop(0, 1), 0);
        s.is("lost where it stands: store", x.ofDevice(0, 5), 70);
    }

    private void readers() {
        s.says("READER (1): if a flash is at its place, it notes the value (the latest 8 are kept), and the flash becomes fainter"
            + " by READING; one whose strength is not above 0 then is lost.");
        FibreLoops x = Worlds.loops(0, 16);
        x.set(FibreLoops.READING, 0);
        x.device(0, 0, FibreLoops.READER, 0, 0);
        x.ticks(2);
        s.is("no flash: kept", x.ofDevice(0, 5), 0);
        s.is("no flash: acts", x.ofDevice(0, 6), 0);
        for (int i = 1; i <= 10; i++) {
            x.light(0, 16 - i, 10 * i - 1);
        }
        for (int i = 1; i <= 10; i++) {
            x.ticks(1);
            s.is("kept of " + i, x.ofDevice(0, 5), Math.min(i, 8));
            s.is("acts of " + i, x.ofDevice(0, 6), i);
            s.is("the latest of " + i, x.noted(0, 0), 10 * i - 1);
            s.is("the first kept of " + i, x.noted(0, Math.min(i, 8) - 1), 10 * Math.max(1, i - 7) - 1);
            s.is("none ahead of " + i, x.noted(0, Math.min(i, 8)), FibreLoops.NONE);
        }
        s.is("by a READING of 0", x.ofLoop(0, 2), 6000);
        read("by one less than its strength", 0, 101, 100, 1);
        read("by its strength", 0, 100, 100, 0);
        read("by more than its strength", 0, 100, 101, 0);
        read("by 200", 50, 1000, 200, 750);
        read("by its strength, with LOSS", 50, 250, 200, 0);
    }

    private void read(String what, int loss, int strength, int reading, int then) {
        FibreLoops x = Worlds.loops(loss, 4);
        x.set(FibreLoops.FRESH, strength);
        x.set(FibreLoops.READING, reading);
        x.device(0, 1, FibreLoops.READER, 0, 0);
        x.light(0, 0, 44);
        x.ticks(1);
        s.is(what + ": strength", x.at(0, 1, 1), then);
        s.is(what + ": value", x.at(0, 1, 0), then > 0 ? 44 : FibreLoops.NONE);
        s.is(what + ": lost", x.ofLoop(0, 5), then > 0 ? 0 : 1);
        s.is(what + ": dropped", x.ofLoop(0, 6), 0);
        s.is(what + ": noted", x.noted(0, 0), 44);
    }

    private void feeders() {
        s.says("FEEDER (2): with a queue of values (12 at most; none at first).");
        FibreLoops x = Worlds.loops(0, 4);
        x.device(0, 1, FibreLoops.FEEDER, 0, 0);
        s.is("none at first", x.ofDevice(0, 5), 0);
        for (int i = 1; i <= 12; i++) {
            s.is("feed " + i, x.feed(0, i), i);
        }
        s.is("feed 13", x.feed(0, 13), FibreLoops.TOO_MANY);
        s.is("twelve", x.ofDevice(0, 5), 12);
        s.says("If no flash is at its place, and the queue is not empty, its first value is taken out of it, and a flash of this"
            + " value, with the strength FRESH, is there.");
        x.set(FibreLoops.FRESH, 1000);
        x.ticks(1);
        s.is("the first value", x.at(0, 1, 0), 1);
        s.is("its strength", x.at(0, 1, 1), 1000);
        s.is("eleven wait", x.ofDevice(0, 5), 11);
        s.is("room for one more", x.feed(0, 13), 12);
        x.ticks(3);
        s.is("four places hold four", x.ofLoop(0, 1), 4);
        x.ticks(5);
        s.is("where a flash is, none is put in", x.ofDevice(0, 5), 9);
        s.is("and none is done", x.ofDevice(0, 6), 4);
        x.device(0, 0, FibreLoops.DROPPER, 1, 0);
        x.ticks(8);
        s.is("one was dropped, one put in", x.ofDevice(0, 5), 8);
        everyValueInItsOrder();
    }

    private void everyValueInItsOrder() {
        FibreLoops x = Worlds.loops(1, 32);
        x.device(0, 0, FibreLoops.FEEDER, 0, 0);
        x.ticks(1);
        s.is("an empty queue", x.at(0, 0, 0), FibreLoops.NONE);
        s.is("an empty queue: acts", x.ofDevice(0, 6), 0);
        for (int i = 0; i < 12; i++) {
            x.feed(0, 9 * i);
        }
        for (int i = 0; i < 12; i++) {
            x.ticks(1);
            s.is("value " + i, x.at(0, 0, 0), 9 * i);
            s.is("wait behind value " + i, x.ofDevice(0, 5), 11 - i);
        }
        x.ticks(1);
        s.is("none behind the last", x.at(0, 0, 0), FibreLoops.NONE);
        s.is("acts", x.ofDevice(0, 6), 12);
        s.is("put in", x.ofLoop(0, 4), 12);
        x.feed(0, 99);
        x.ticks(1);
        s.is("one more", x.at(0, 0, 0), 99);
    }

    private void changersAndDroppers() {
        s.says("CHANGER (3): with two values.");
        int[][] values = {{0, 0}, {99, 99}, {0, 99}, {99, 0}};
        for (int[] v : values) {
            FibreLoops x = Worlds.loops(0, 4);
            s.is(v[0] + " to " + v[1], x.device(0, 1, FibreLoops.CHANGER, v[0], v[1]), 0);
            x.light(0, 0, v[0]);
            x.ticks(1);
            s.is(v[0] + " to " + v[1] + ": value", x.at(0, 1, 0), v[1]);
        }
        int[][] bad = {{-1, 0}, {100, 0}, {0, -1}, {0, 100}, {LEAST, 0}, {0, GREATEST}};
        for (int[] b : bad) {
            s.is(b[0] + " to " + b[1], Worlds.loops(0, 4).device(0, 1, FibreLoops.CHANGER, b[0], b[1]), FibreLoops.BAD_VALUE);
        }
        s.says("If a flash of the first one is at its place, it has the second one then (it has done something by that, also if"
            + " both are the same).");
        changed("of the first one", 4, 5, 4, 5, 1);
        changed("both the same", 4, 4, 4, 4, 1);
        changed("of the second one", 4, 5, 5, 5, 0);
        changed("of another one", 4, 5, 3, 3, 0);
        changed("none", 0, 5, -1, FibreLoops.NONE, 0);
        s.says("DROPPER (4): with a value.");
        int[] droppers = {-1, 0, 99, 100};
        for (int value : droppers) {
            int answer = Worlds.loops(0, 4).device(0, 1, FibreLoops.DROPPER, value, 0);
            s.is("of " + value, answer, value < 0 || value > 99 ? FibreLoops.BAD_VALUE : 0);
        }
        s.says("If a flash of this value is at its place, it is dropped: no flash is there then.");
        dropped("of this value 0", 0, 0, FibreLoops.NONE, 1);
        dropped("of this value 99", 99, 99, FibreLoops.NONE, 1);
        dropped("of another one", 4, 5, 5, 0);
        dropped("none", 0, -1, FibreLoops.NONE, 0);
    }

    private void changed(String what, int one, int two, int value, int then, int acts) {
        FibreLoops x = Worlds.loops(10, 4);
        x.device(0, 1, FibreLoops.CHANGER, one, two);
        if (value >= 0) {
            x.light(0, 0, value);
        }
        x.ticks(1);
        s.is(what + ": value", x.at(0, 1, 0), then);
        s.is(what + ": strength", x.at(0, 1, 1), value < 0 ? 0 : 590);
        s.is(what + ": acts", x.ofDevice(0, 6), acts);
    }

    private void dropped(String what, int one, int value, int then, int acts) {
        FibreLoops x = Worlds.loops(10, 4);
        x.device(0, 1, FibreLoops.DROPPER, one, 0);
        if (value >= 0) {
            x.light(0, 0, value);
        }
        x.ticks(1);
        s.is(what + ": value", x.at(0, 1, 0), then);
        s.is(what + ": acts", x.ofDevice(0, 6), acts);
        s.is(what + ": dropped", x.ofLoop(0, 6), acts);
        s.is(what + ": lost", x.ofLoop(0, 5), 0);
        s.is(what + ": light() there", x.light(0, 1, 1), then < 0 ? 1 : FibreLoops.NOT_POSSIBLE);
    }

    // ---- joins

    private void joins() {
        s.under("Joins");
        s.says("There are up to 4 joins; a join connects a place of a loop (its near end) and a place of another loop (its far"
            + " end), and is OFF (0), CROSS (1) or MERGE (2).");
        FibreLoops x = Worlds.loops(0, 4, 4);
        for (int i = 0; i < 4; i++) {
            s.is("join " + i, x.join(i % 2, 3, 1 - i % 2, 0), i);
            s.is("it is OFF", x.ofJoin(i, 4), FibreLoops.OFF);
        }
        s.is("the fifth", x.join(0, 1, 1, 1), FibreLoops.TOO_MANY);
        s.is("of one loop", Worlds.loops(0, 4).join(0, 1, 0, 2), FibreLoops.BAD_VALUE);
        x.light(0, 2, 1);
        x.light(1, 3, 2);
        x.ticks(1);
        s.is("OFF: near", x.at(0, 3, 0), 1);
        s.is("OFF: far", x.at(1, 0, 0), 2);
        s.is("OFF: through", x.ofJoin(0, 5), 0);
        for (int mode = -1; mode <= 3; mode++) {
            boolean known = mode >= 0 && mode <= 2;
            s.is("mode " + mode, Math.min(x.turn(0, mode), 0), known ? 0 : FibreLoops.BAD_VALUE);
        }
        s.says("By CROSS, what is at both ends (flashes or none) is exchanged.");
        joined("a flash at both", FibreLoops.CROSS, 1, 2, 2, 1, 2);
        joined("a flash at the near end", FibreLoops.CROSS, 1, -1, FibreLoops.NONE, 1, 1);
        joined("a flash at the far end", FibreLoops.CROSS, -1, 2, 2, FibreLoops.NONE, 1);
        joined("none at both", FibreLoops.CROSS, -1, -1, FibreLoops.NONE, FibreLoops.NONE, 0);
        s.says("By MERGE, a flash at the near end goes to the far end, if no flash is there.");
        joined("a flash at both", FibreLoops.MERGE, 1, 2, 1, 2, 0);
        joined("a flash at the near end", FibreLoops.MERGE, 1, -1, FibreLoops.NONE, 1, 1);
        joined("a flash at the far end", FibreLoops.MERGE, -1, 2, FibreLoops.NONE, 2, 0);
        joined("none at both", FibreLoops.MERGE, -1, -1, FibreLoops.NONE, FibreLoops.NONE, 0);
        faintFlashesThroughJoins();
    }

    /** A flash keeps what it is when it goes through a join, a faint one as well as any. */
    private void faintFlashesThroughJoins() {
        for (int mode = FibreLoops.CROSS; mode <= FibreLoops.MERGE; mode++) {
            FibreLoops x = Worlds.loops(33, 4, 4);
            x.join(0, 3, 1, 3);
            x.turn(0, mode);
            x.set(FibreLoops.FRESH, 100);
            x.light(0, 0, 5);
            x.ticks(3);
            s.is("a strength of 1, mode " + mode + ": far", x.at(1, 3, 1), 1);
            s.is("a strength of 1, mode " + mode + ": near", x.at(0, 3, 1), 0);
            s.is("a strength of 1, mode " + mode + ": through", x.ofJoin(0, 5), 1);
            x = Worlds.loops(33, 4, 4);
            x.join(1, 3, 0, 3);
            x.turn(0, mode);
            x.set(FibreLoops.FRESH, 100);
            x.light(0, 0, 5);
            x.ticks(2);
            x.light(1, 2, 6);
            x.ticks(1);
            boolean crossed = mode == FibreLoops.CROSS;
            s.is("a strength of 1 at the far end, mode " + mode + ": far", x.at(0, 3, 0), crossed ? 6 : 5);
            s.is("a strength of 1 at the far end, mode " + mode + ": its age", x.at(0, 3, 2), crossed ? 1 : 3);
            s.is("a strength of 1 at the far end, mode " + mode + ": near", x.at(1, 3, 0), crossed ? 5 : 6);
            s.is("a strength of 1 at the far end, mode " + mode + ": near, its age", x.at(1, 3, 2), crossed ? 3 : 1);
            s.is("a strength of 1 at the far end, mode " + mode + ": through", x.ofJoin(0, 5), crossed ? 2 : 0);
        }
    }

    private void joined(String what, int mode, int near, int far, int nearThen, int farThen, int through) {
        FibreLoops x = Worlds.loops(10, 4, 6);
        x.join(0, 0, 1, 5);
        x.turn(0, mode);
        if (near >= 0) {
            x.light(0, 3, near);
        }
        x.set(FibreLoops.FRESH, 700);
        if (far >= 0) {
            x.light(1, 4, far);
        }
        x.ticks(1);
        s.is(what + ": near", x.at(0, 0, 0), nearThen);
        s.is(what + ": far", x.at(1, 5, 0), farThen);
        int[] strengths = {0, 590, 690};
        s.is(what + ": near, its strength", x.at(0, 0, 1), strengths[Math.max(nearThen, 0)]);
        s.is(what + ": far, its strength", x.at(1, 5, 1), strengths[Math.max(farThen, 0)]);
        s.is(what + ": through", x.ofJoin(0, 5), through);
        s.is(what + ": came", x.ofLoop(0, 7) + x.ofLoop(1, 7), through);
        s.is(what + ": went", x.ofLoop(0, 8) + x.ofLoop(1, 8), through);
        s.is(what + ": flashes", x.count(4), (near < 0 ? 0 : 1) + (far < 0 ? 0 : 1));
    }

    // ---- a tick

    private void aTick() {
        s.under("A tick");
        s.says("1. In each loop, all flashes move on to the next place.");
        FibreLoops x = Worlds.loops(0, 4, 4, 4, 4, 4);
        for (int i = 0; i < 20; i++) {
            x.light(i / 4, i % 4, i);
        }
        x.ticks(1);
        for (int i = 0; i < 20; i++) {
            s.is("flash " + i, x.at(i / 4, (i + 1) % 4, 0), i);
        }
        s.says("2. Each flash becomes fainter by LOSS; one whose strength is not above 0 then is lost.");
        fainter("by 0", 0, 100, 200, 100);
        fainter("by 1, to 1", 1, 101, 100, 1);
        fainter("by 1, to 0", 1, 100, 100, 0);
        fainter("by 50, to 1", 50, 101, 2, 1);
        fainter("by 50, to 0", 50, 100, 2, 0);
        fainter("by 50, to less than 0", 50, 149, 3, 0);
        s.says("3. The devices act, one after the other, in the order of their numbers.");
        devicesInOrder();
        s.says("4. The joins act, one after the other, in the order of their numbers.");
        joinsInOrder();
        s.says("5. The store of each amplifier becomes greater by RECOVER, but not above its full store.");
        recovers("to one less than full", 50, 100, 49, 99);
        recovers("to full", 50, 100, 50, 100);
        recovers("not above full", 50, 100, 51, 100);
        recovers("by 0", 50, 100, 0, 50);
        recovers("by 200", 50, 50, 200, 50);
        s.says("Then the tick increases by 1.");
        x = Worlds.loops(0, 4);
        x.device(0, 0, FibreLoops.FEEDER, 0, 0);
        x.feed(0, 1);
        s.is("ticks(1)", x.ticks(1), 1);
        s.is("what was put in ahead of that", x.at(0, 0, 2), 1);
        s.is("ticks(200)", x.ticks(200), 201);
    }

    private void fainter(String what, int loss, int strength, int ticks, int then) {
        FibreLoops x = Worlds.loops(loss, 4);
        x.set(FibreLoops.FRESH, strength);
        x.light(0, 0, 3);
        x.ticks(ticks);
        s.is(what + ": strength", x.at(0, ticks % 4, 1), then);
        s.is(what + ": flashes", x.count(4), then > 0 ? 1 : 0);
        s.is(what + ": lost", x.count(6), then > 0 ? 0 : 1);
    }

    private void devicesInOrder() {
        // Each finds what the one ahead of it left, so that another order would answer otherwise.
        FibreLoops x = Worlds.loops(0, 4);
        for (int i = 0; i < 11; i++) {
            x.device(0, 1, FibreLoops.CHANGER, i, i + 1);
        }
        x.device(0, 1, FibreLoops.READER, 0, 0);
        x.light(0, 0, 0);
        x.ticks(1);
        s.is("upwards", x.noted(11, 0), 11);
        x = Worlds.loops(0, 4);
        for (int i = 11; i > 0; i--) {
            x.device(0, 1, FibreLoops.CHANGER, i - 1, i);
        }
        x.light(0, 0, 0);
        x.ticks(1);
        s.is("downwards", x.at(0, 1, 0), 1);
    }

    private void joinsInOrder() {
        FibreLoops x = Worlds.loops(0, 4, 4, 4, 4, 4);
        for (int i = 0; i < 4; i++) {
            x.join(i, 1, i + 1, 1);
            x.turn(i, FibreLoops.MERGE);
        }
        x.light(0, 0, 7);
        x.ticks(1);
        s.is("through all four", x.at(4, 1, 0), 7);
        x = Worlds.loops(0, 4, 4, 4, 4, 4);
        for (int i = 3; i >= 0; i--) {
            x.join(i, 1, i + 1, 1);
            x.turn(3 - i, FibreLoops.MERGE);
        }
        x.light(0, 0, 7);
        x.ticks(1);
        s.is("through the last one alone", x.at(1, 1, 0), 7);
        x = Worlds.loops(0, 4, 4);
        x.join(0, 1, 1, 1);
        x.turn(0, FibreLoops.MERGE);
        x.device(1, 1, FibreLoops.READER, 0, 0);
        x.device(0, 1, FibreLoops.READER, 0, 0);
        x.light(0, 0, 7);
        x.ticks(1);
        s.is("behind the devices: far", x.noted(0, 0), FibreLoops.NONE);
        s.is("behind the devices: near", x.noted(1, 0), 7);
    }

    private void recovers(String what, int used, int full, int recover, int then) {
        FibreLoops x = Worlds.loops(0, 4);
        x.set(FibreLoops.RECOVER, recover);
        x.device(0, 1, FibreLoops.AMPLIFIER, used, full);
        x.device(0, 3, FibreLoops.AMPLIFIER, used, full);
        x.light(0, 0, 3);
        x.ticks(1);
        s.is(what + ": after one tick", x.ofDevice(0, 5), then);
        s.is(what + ": one that was full", x.ofDevice(1, 5), full);
        x.ticks(1);
        s.is(what + ": after two", x.ofDevice(0, 5), Math.min(full, then + recover));
    }
}
