/** Promises 17 to 21. */
public final class ForecastTest {
    private static final int LOWEST = Integer.MIN_VALUE, HIGHEST = Integer.MAX_VALUE;
    private static final Due due = new Due("ForecastTest");

    public static void main(String[] args) {
        promise17ValueIn();
        promise17ValueInWrong();
        promise18LeftIn();
        promise19FirstLoss();
        promise19FirstLossByAReader();
        promise20BestPlace();
        promise20BestPlaceInOtherLoops();
        promise20BestPlaceWrong();
        promise21Bearable();
        promise21BearableWithAnAmplifier();
        forecastsChangeNothing();
        due.end();
    }

    private static void promise17ValueIn() {
        FibreLoops x = new FibreLoops();
        x.loop(4);
        x.loop(6);
        x.device(0, 2, FibreLoops.CHANGER, 1, 2);
        x.device(1, 4, FibreLoops.FEEDER, 0, 0);
        x.join(0, 3, 1, 0);
        x.turn(0, FibreLoops.MERGE);
        x.feed(1, 70);
        x.light(0, 1, 1);
        due.is("changed in 1", x.valueIn(0, 2, 1), 2);
        due.is("gone from there in 2", x.valueIn(0, 2, 2), FibreLoops.NONE);
        due.is("over the join in 2", x.valueIn(1, 0, 2), 2);
        due.is("not at its near end", x.valueIn(0, 3, 2), FibreLoops.NONE);
        due.is("fed in 1", x.valueIn(1, 4, 1), 70);
        due.is("a round later", x.valueIn(1, 4, 7), 70);
        due.is("each flash lost in 200", x.valueIn(1, 5, 200), FibreLoops.NONE);
        x.set(FibreLoops.LOSS, 0);
        due.is("none lost in 200", x.valueIn(1, 5, 200), 70);
        due.is("a value 0", x.light(1, 1, 0), 1);
        due.is("a value 0 in 1", x.valueIn(1, 2, 1), 0);
    }

    private static void promise17ValueInWrong() {
        FibreLoops x = new FibreLoops();
        due.is("valueIn(0, 0, 1) without loops", x.valueIn(0, 0, 1), FibreLoops.NO_SUCH);
        x.loop(4);
        int[][] nowhere = {{-1, 0}, {1, 0}, {LOWEST, 0}, {HIGHEST, 0}, {0, -1}, {0, 4}, {0, LOWEST}, {0, HIGHEST}};
        for (int[] w : nowhere) {
            due.is("valueIn(" + w[0] + ", " + w[1] + ", 0)", x.valueIn(w[0], w[1], 0), FibreLoops.NO_SUCH);
        }
        int[] bad = {LOWEST, -1, 0, 201, HIGHEST};
        for (int ticks : bad) {
            due.is("valueIn(0, 0, " + ticks + ")", x.valueIn(0, 0, ticks), FibreLoops.BAD_VALUE);
        }
        due.is("valueIn(0, 3, 200)", x.valueIn(0, 3, 200), FibreLoops.NONE);
    }

    private static void promise18LeftIn() {
        FibreLoops x = new FibreLoops();
        due.is("leftIn(200) without loops", x.leftIn(200), 0);
        x.loop(4);
        x.loop(4);
        x.device(1, 0, FibreLoops.FEEDER, 0, 0);
        x.feed(0, 5);
        x.feed(0, 5);
        x.light(0, 0, 1);
        due.is("leftIn(1)", x.leftIn(1), 2);
        due.is("leftIn(2)", x.leftIn(2), 3);
        due.is("leftIn(59)", x.leftIn(59), 3);
        due.is("leftIn(60)", x.leftIn(60), 2);
        due.is("leftIn(61)", x.leftIn(61), 1);
        due.is("leftIn(62)", x.leftIn(62), 0);
        due.is("leftIn(200)", x.leftIn(200), 0);
        int[] bad = {LOWEST, -1, 0, 201, HIGHEST};
        for (int ticks : bad) {
            due.is("leftIn(" + ticks + ")", x.leftIn(ticks), FibreLoops.BAD_VALUE);
        }
    }

    private static void promise19FirstLoss() {
        FibreLoops x = new FibreLoops();
        due.is("without loops", x.firstLoss(), FibreLoops.NONE);
        x.loop(4);
        due.is("without flashes", x.firstLoss(), FibreLoops.NONE);
        x.set(FibreLoops.LOSS, 3);
        x.set(FibreLoops.FRESH, 898);
        x.light(0, 0, 1);
        due.is("300 times 3", x.firstLoss(), 300);
        x.undo();
        x.set(FibreLoops.FRESH, 901);
        x.light(0, 0, 1);
        due.is("301 times 3", x.firstLoss(), FibreLoops.NONE);
        x.ticks(1);
        due.is("a tick later", x.firstLoss(), 300);
        x.set(FibreLoops.FRESH, 100);
        x.light(0, 0, 1);
        due.is("a fainter one", x.firstLoss(), 34);
        x.ticks(33);
        due.is("33 ticks later", x.firstLoss(), 1);
        x.ticks(1);
        due.is("lost", x.count(6), 1);
        due.is("the next loss, not that one", x.firstLoss(), 266);
        x.device(0, 0, FibreLoops.DROPPER, 1, 0);
        due.is("what is dropped is not lost", x.firstLoss(), FibreLoops.NONE);
    }

    private static void promise19FirstLossByAReader() {
        FibreLoops x = new FibreLoops();
        x.loop(4);
        x.set(FibreLoops.LOSS, 0);
        x.set(FibreLoops.READING, 200);
        x.device(0, 0, FibreLoops.READER, 0, 0);
        x.light(0, 1, 1);
        due.is("read three times", x.firstLoss(), 11);
    }

    private static void promise20BestPlace() {
        FibreLoops x = new FibreLoops();
        x.loop(8);
        due.is("without flashes: place", x.bestPlace(0, 1, 1, 0), 0);
        due.is("without flashes: left", x.bestPlace(0, 1, 1, 1), 0);
        x.set(FibreLoops.LOSS, 10);
        x.set(FibreLoops.RECOVER, 0);
        // A dropper takes whatever comes to place 0, so an amplifier could only help in vain.
        x.light(0, 1, 5);
        x.device(0, 0, FibreLoops.DROPPER, 5, 0);
        due.is("in vain: place", x.bestPlace(0, 500, 2000, 0), 0);
        due.is("in vain: left", x.bestPlace(0, 500, 2000, 1), 0);
        x = new FibreLoops();
        x.loop(8);
        x.set(FibreLoops.LOSS, 50);
        x.set(FibreLoops.FRESH, 200);
        x.set(FibreLoops.RECOVER, 200);
        // The flash has 200, comes to place 5 in the third tick, and would be lost in the fourth one.
        x.light(0, 2, 5);
        due.is("lost before place 6: place", x.bestPlace(0, 500, 2000, 0), 3);
        due.is("lost before place 6: left", x.bestPlace(0, 500, 2000, 1), 1);
        due.is("gain too small: left", x.bestPlace(0, 100, 2000, 1), 0);
        due.is("gain too small: place", x.bestPlace(0, 100, 2000, 0), 0);
        due.is("store too small: left", x.bestPlace(0, 500, 250, 1), 0);
        x.light(0, 7, 6);
        due.is("only one can be helped", x.bestPlace(0, 500, 2000, 1), 1);
        due.is("place 0 helps the second", x.bestPlace(0, 500, 2000, 0), 0);
        x.light(0, 0, 6);
        due.is("two helped by one", x.bestPlace(0, 500, 2000, 1), 2);
        due.is("at place 1", x.bestPlace(0, 500, 2000, 0), 1);
    }

    private static void promise20BestPlaceInOtherLoops() {
        FibreLoops x = new FibreLoops();
        x.loop(8);
        x.loop(4);
        x.set(FibreLoops.LOSS, 3);
        x.light(0, 0, 5);
        x.light(1, 0, 5);
        x.light(1, 1, 5);
        due.is("of all loops", x.bestPlace(0, 1, 1, 1), 3);
        due.is("of all loops", x.bestPlace(1, 1, 1, 1), 3);
        x.device(1, 2, FibreLoops.DROPPER, 5, 0);
        due.is("dropped in the other", x.bestPlace(0, 1, 1, 1), 1);
        // A reader that stands first takes the flash before an amplifier of the same place can help it.
        x = new FibreLoops();
        x.loop(4);
        x.set(FibreLoops.LOSS, 0);
        x.set(FibreLoops.FRESH, 100);
        x.set(FibreLoops.READING, 100);
        x.light(0, 3, 5);
        x.device(0, 0, FibreLoops.READER, 0, 0);
        due.is("the new one acts last", x.bestPlace(0, 500, 2000, 1), 0);
    }

    private static void promise20BestPlaceWrong() {
        FibreLoops x = new FibreLoops();
        due.is("bestPlace(0, 1, 1, 0) without loops", x.bestPlace(0, 1, 1, 0), FibreLoops.NO_SUCH);
        x.loop(4);
        int[] nowhere = {-1, 1, LOWEST, HIGHEST};
        for (int loop : nowhere) {
            due.is("bestPlace(" + loop + ", 0, 0, 9)", x.bestPlace(loop, 0, 0, 9), FibreLoops.NO_SUCH);
        }
        int[][] bad = {
            {0, 1, 0}, {501, 1, 0}, {-1, 1, 0}, {LOWEST, 1, 0}, {HIGHEST, 1, 0}, {1, 0, 0}, {1, 2001, 0}, {1, -1, 0},
            {1, LOWEST, 0}, {1, HIGHEST, 0}, {1, 1, -1}, {1, 1, 2}, {1, 1, LOWEST}, {1, 1, HIGHEST},
        };
        for (int[] b : bad) {
            String call = "bestPlace(0, " + b[0] + ", " + b[1] + ", " + b[2] + ")";
            due.is(call, x.bestPlace(0, b[0], b[1], b[2]), FibreLoops.BAD_VALUE);
        }
        for (int i = 0; i < 11; i++) {
            x.device(0, 0, FibreLoops.READER, 0, 0);
        }
        due.is("with 11 devices", x.bestPlace(0, 500, 2000, 1), 0);
        x.device(0, 0, FibreLoops.READER, 0, 0);
        due.is("with 12 devices", x.bestPlace(0, 500, 2000, 1), FibreLoops.TOO_MANY);
        due.is("with 12 devices, gain 0", x.bestPlace(0, 0, 2000, 1), FibreLoops.BAD_VALUE);
        due.is("with 12 devices, what 2", x.bestPlace(0, 1, 2000, 2), FibreLoops.BAD_VALUE);
        due.is("with 12 devices, no loop", x.bestPlace(1, 0, 2000, 1), FibreLoops.NO_SUCH);
    }

    private static void promise21Bearable() {
        FibreLoops x = new FibreLoops();
        due.is("without loops", x.bearable(), 50);
        x.loop(4);
        x.light(0, 0, 1);
        due.is("600 in 100 ticks", x.bearable(), 5);
        x.set(FibreLoops.FRESH, 1000);
        x.light(0, 1, 1);
        due.is("the fainter one tells", x.bearable(), 5);
        x.undo();
        x.undo();
        x.undo();
        x.set(FibreLoops.FRESH, 601);
        x.light(0, 0, 1);
        due.is("601 in 100 ticks", x.bearable(), 6);
        x.set(FibreLoops.FRESH, 100);
        x.light(0, 1, 1);
        due.is("100 in 100 ticks", x.bearable(), 0);
        x.device(0, 3, FibreLoops.DROPPER, 1, 0);
        due.is("dropped in time: 100 in 2 ticks", x.bearable(), 49);
        x.undo();
        x.device(0, 2, FibreLoops.READER, 0, 0);
        due.is("lost by a reader", x.bearable(), FibreLoops.NONE);
        due.is("count(8)", x.count(8), 10);
    }

    private static void promise21BearableWithAnAmplifier() {
        FibreLoops x = new FibreLoops();
        x.loop(4);
        x.set(FibreLoops.RECOVER, 200);
        x.device(0, 3, FibreLoops.AMPLIFIER, 100, 200);
        x.light(0, 0, 1);
        // It meets the amplifier 25 times, in the ticks 3, 7, .. and 99: 600 + 2500 for 100 times LOSS.
        due.is("600 and 100 in each round", x.bearable(), 30);
        x.set(FibreLoops.RECOVER, 0);
        due.is("600 and 200 in all", x.bearable(), 7);
        x.set(FibreLoops.LOSS, 50);
        due.is("whatever LOSS is", x.bearable(), 7);
        x.device(0, 1, FibreLoops.DROPPER, 1, 0);
        due.is("the greatest of all", x.bearable(), 50);
    }

    private static void forecastsChangeNothing() {
        FibreLoops x = new FibreLoops();
        x.loop(4);
        x.loop(8);
        x.device(0, 1, FibreLoops.READER, 0, 0);
        x.device(1, 2, FibreLoops.FEEDER, 0, 0);
        x.device(0, 2, FibreLoops.AMPLIFIER, 40, 50);
        x.join(0, 3, 1, 3);
        x.turn(0, FibreLoops.CROSS);
        x.light(0, 0, 1);
        x.feed(1, 2);
        x.save(0);
        x.put('t');
        int[] before = counts(x);
        x.valueIn(0, 0, 200);
        x.leftIn(200);
        x.firstLoss();
        x.bestPlace(1, 500, 2000, 0);
        x.bearable();
        int[] after = counts(x);
        for (int what = 0; what < before.length; what++) {
            due.is("count(" + what + ") after forecasts", after[what], before[what]);
        }
        due.is("the flash", x.at(0, 0, 1), 600);
        due.is("what waits", x.ofDevice(1, 5), 1);
        due.is("what was noted", x.noted(0, 0), FibreLoops.NONE);
        due.is("the store", x.ofDevice(2, 5), 50);
        due.is("the join", x.ofJoin(0, 5), 0);
        due.is("undo()", x.undo(), 5);
        due.is("what waits", x.ofDevice(1, 5), 0);
        due.is("restore(0)", x.restore(0), 0);
        due.is("what waits", x.ofDevice(1, 5), 1);
    }

    private static int[] counts(FibreLoops x) {
        int[] counts = new int[14];
        for (int what = 0; what < 14; what++) {
            counts[what] = x.count(what);
        }
        return counts;
    }
}
