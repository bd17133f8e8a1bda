/** Promises 1 to 9, but for what a tick does: that is in TickTest. */
public final class SettingUpTest {
    private static final int LOWEST = Integer.MIN_VALUE, HIGHEST = Integer.MAX_VALUE;
    private static final Due due = new Due("SettingUpTest");

    public static void main(String[] args) {
        promise1NewObject();
        promise2Set();
        promise3Loop();
        promise4Device();
        promise4DeviceWrong();
        promise5Join();
        promise6Turn();
        promise7Feed();
        promise8Light();
        promise9Ticks();
        twoObjectsAreApart();
        due.end();
    }

    private static void promise1NewObject() {
        FibreLoops x = new FibreLoops();
        int[] counts = {0, 0, 0, 0, 0, 0, 0, 0, 10, 40, 20, 600, 0, 0};
        for (int what = 0; what < counts.length; what++) {
            due.is("new: count(" + what + ")", x.count(what), counts[what]);
        }
        due.is("new: ofLoop(0, 0)", x.ofLoop(0, 0), FibreLoops.NO_SUCH);
        due.is("new: ofDevice(0, 0)", x.ofDevice(0, 0), FibreLoops.NO_SUCH);
        due.is("new: ofJoin(0, 0)", x.ofJoin(0, 0), FibreLoops.NO_SUCH);
        due.is("new: undo()", x.undo(), FibreLoops.NOT_POSSIBLE);
        due.is("new: restore(0)", x.restore(0), FibreLoops.NOT_POSSIBLE);
        due.is("new: restore(1)", x.restore(1), FibreLoops.NOT_POSSIBLE);
        due.is("new: fault()", x.fault(), 0);
        due.is("new: ticks(1)", x.ticks(1), 1);
    }

    private static void promise2Set() {
        FibreLoops x = new FibreLoops();
        int[] first = {10, 40, 20, 600};
        int[] lowest = {0, 0, 0, 100};
        int[] highest = {50, 200, 200, 1000};
        for (int setting = 0; setting < 4; setting++) {
            String call = "set(" + setting + ", ";
            due.is(call + "lowest)", x.set(setting, lowest[setting]), first[setting]);
            due.is(call + "highest)", x.set(setting, highest[setting]), lowest[setting]);
            due.is(call + "the same)", x.set(setting, highest[setting]), highest[setting]);
            due.is(call + "lowest - 1)", x.set(setting, lowest[setting] - 1), FibreLoops.BAD_VALUE);
            due.is(call + "highest + 1)", x.set(setting, highest[setting] + 1), FibreLoops.BAD_VALUE);
            due.is(call + "least int)", x.set(setting, LOWEST), FibreLoops.BAD_VALUE);
            due.is(call + "greatest int)", x.set(setting, HIGHEST), FibreLoops.BAD_VALUE);
            due.is("count(" + (8 + setting) + ")", x.count(8 + setting), highest[setting]);
        }
        due.is("set(-1, 0)", x.set(-1, 0), FibreLoops.BAD_VALUE);
        due.is("set(4, 10)", x.set(4, 10), FibreLoops.BAD_VALUE);
        due.is("set(least int, 10)", x.set(LOWEST, 10), FibreLoops.BAD_VALUE);
        due.is("set(greatest int, 10)", x.set(HIGHEST, 10), FibreLoops.BAD_VALUE);
        due.is("count(13)", x.count(13), 6);
    }

    private static void promise3Loop() {
        FibreLoops x = new FibreLoops();
        int[] bad = {LOWEST, -1, 0, 3, 33, HIGHEST};
        for (int places : bad) {
            due.is("loop(" + places + ")", x.loop(places), FibreLoops.BAD_VALUE);
        }
        due.is("count(13)", x.count(13), 0);
        int[] good = {4, 32, 4, 17, 5};
        for (int i = 0; i < good.length; i++) {
            due.is("loop(" + good[i] + ")", x.loop(good[i]), i);
            due.is("count(1)", x.count(1), i + 1);
            for (int what = 0; what <= 8; what++) {
                due.is("ofLoop(" + i + ", " + what + ")", x.ofLoop(i, what), what == 0 ? good[i] : 0);
            }
        }
        due.is("the sixth loop(4)", x.loop(4), FibreLoops.TOO_MANY);
        due.is("the sixth loop(3)", x.loop(3), FibreLoops.BAD_VALUE);
        due.is("count(1)", x.count(1), 5);
        due.is("count(13)", x.count(13), 5);
    }

    private static void promise4Device() {
        FibreLoops x = new FibreLoops();
        x.loop(4);
        x.loop(32);
        int[][] good = {
            {0, 0, FibreLoops.AMPLIFIER, 1, 1}, {0, 3, FibreLoops.AMPLIFIER, 500, 2000},
            {0, 3, FibreLoops.READER, 0, 0}, {1, 31, FibreLoops.FEEDER, 0, 0},
            {1, 31, FibreLoops.CHANGER, 0, 0}, {1, 31, FibreLoops.CHANGER, 99, 99}, {1, 0, FibreLoops.CHANGER, 0, 99},
            {1, 0, FibreLoops.DROPPER, 0, 0}, {1, 0, FibreLoops.DROPPER, 99, 0},
            {1, 7, FibreLoops.AMPLIFIER, 20, 30}, {1, 7, FibreLoops.AMPLIFIER, 20, 30}, {1, 8, FibreLoops.CHANGER, 1, 2},
        };
        for (int i = 0; i < good.length; i++) {
            int[] g = good[i];
            due.is("device " + i, x.device(g[0], g[1], g[2], g[3], g[4]), i);
            due.is("count(2)", x.count(2), i + 1);
            due.is("kind of " + i, x.ofDevice(i, 0), g[2]);
            due.is("loop of " + i, x.ofDevice(i, 1), g[0]);
            due.is("place of " + i, x.ofDevice(i, 2), g[1]);
            due.is("one of " + i, x.ofDevice(i, 3), g[3]);
            due.is("two of " + i, x.ofDevice(i, 4), g[4]);
            due.is("store of " + i, x.ofDevice(i, 5), g[2] == FibreLoops.AMPLIFIER ? g[4] : 0);
            due.is("acts of " + i, x.ofDevice(i, 6), 0);
        }
        due.is("the thirteenth device", x.device(0, 0, FibreLoops.READER, 0, 0), FibreLoops.TOO_MANY);
        due.is("the thirteenth device, bad", x.device(0, 0, FibreLoops.READER, 0, 1), FibreLoops.BAD_VALUE);
        due.is("the thirteenth device, nowhere", x.device(0, 4, FibreLoops.READER, 0, 1), FibreLoops.NO_SUCH);
        due.is("count(2)", x.count(2), 12);
        due.is("count(13)", x.count(13), 6);
    }

    private static void promise4DeviceWrong() {
        FibreLoops x = new FibreLoops();
        x.loop(4);
        int[][] nowhere = {{-1, 0}, {1, 0}, {LOWEST, 0}, {HIGHEST, 0}, {0, -1}, {0, 4}, {0, LOWEST}, {0, HIGHEST}};
        for (int[] w : nowhere) {
            due.is("device(" + w[0] + ", " + w[1] + ", 9, 0, 0)", x.device(w[0], w[1], 9, 0, 0), FibreLoops.NO_SUCH);
        }
        int[][] bad = {
            {-1, 0, 0}, {5, 0, 0}, {LOWEST, 1, 1}, {HIGHEST, 1, 1},
            {0, 0, 1}, {0, 501, 1}, {0, 1, 0}, {0, 1, 2001}, {0, -1, 1}, {0, 1, -1}, {0, HIGHEST, 1}, {0, 1, LOWEST},
            {1, 1, 0}, {1, 0, 1}, {1, -1, 0}, {1, 0, -1}, {2, 1, 0}, {2, 0, 1}, {2, -1, 0}, {2, 0, -1},
            {3, -1, 0}, {3, 100, 0}, {3, 0, -1}, {3, 0, 100},
            {4, -1, 0}, {4, 100, 0}, {4, 0, 1}, {4, 0, -1},
        };
        for (int[] b : bad) {
            String call = "device(0, 0, " + b[0] + ", " + b[1] + ", " + b[2] + ")";
            due.is(call, x.device(0, 0, b[0], b[1], b[2]), FibreLoops.BAD_VALUE);
        }
        due.is("count(2)", x.count(2), 0);
        due.is("count(13)", x.count(13), 1);
    }

    private static void promise5Join() {
        FibreLoops x = new FibreLoops();
        due.is("join(0, 0, 1, 0) without loops", x.join(0, 0, 1, 0), FibreLoops.NO_SUCH);
        x.loop(4);
        x.loop(5);
        int[][] wrong = {
            {-1, 0, 1, 0}, {2, 0, 1, 0}, {0, -1, 1, 0}, {0, 4, 1, 0}, {0, 0, -1, 0}, {0, 0, 2, 0}, {0, 0, 1, -1},
            {0, 0, 1, 5}, {0, 4, 0, 0}, {0, 0, 0, 4}, {LOWEST, 0, 1, 0}, {0, HIGHEST, 1, 0}, {0, 0, HIGHEST, 0},
        };
        for (int[] w : wrong) {
            String call = "join(" + w[0] + ", " + w[1] + ", " + w[2] + ", " + w[3] + ")";
            due.is(call, x.join(w[0], w[1], w[2], w[3]), FibreLoops.NO_SUCH);
        }
        due.is("join(0, 1, 0, 2)", x.join(0, 1, 0, 2), FibreLoops.BAD_VALUE);
        due.is("join(1, 1, 1, 1)", x.join(1, 1, 1, 1), FibreLoops.BAD_VALUE);
        due.is("count(13)", x.count(13), 2);
        int[][] good = {{0, 3, 1, 4}, {1, 4, 0, 3}, {0, 3, 1, 4}, {1, 0, 0, 0}};
        for (int i = 0; i < good.length; i++) {
            int[] g = good[i];
            due.is("join " + i, x.join(g[0], g[1], g[2], g[3]), i);
            for (int what = 0; what < 4; what++) {
                due.is("ofJoin(" + i + ", " + what + ")", x.ofJoin(i, what), g[what]);
            }
            due.is("ofJoin(" + i + ", 4)", x.ofJoin(i, 4), FibreLoops.OFF);
            due.is("ofJoin(" + i + ", 5)", x.ofJoin(i, 5), 0);
            due.is("count(3)", x.count(3), i + 1);
        }
        due.is("the fifth join", x.join(0, 0, 1, 0), FibreLoops.TOO_MANY);
        due.is("the fifth join of one loop", x.join(0, 0, 0, 0), FibreLoops.BAD_VALUE);
        due.is("the fifth join of none", x.join(0, 0, 0, 4), FibreLoops.NO_SUCH);
        due.is("count(3)", x.count(3), 4);
        due.is("count(13)", x.count(13), 6);
    }

    private static void promise6Turn() {
        FibreLoops x = new FibreLoops();
        due.is("turn(0, 0) without joins", x.turn(0, 0), FibreLoops.NO_SUCH);
        x.loop(4);
        x.loop(4);
        x.join(0, 0, 1, 0);
        due.is("turn(-1, 0)", x.turn(-1, 0), FibreLoops.NO_SUCH);
        due.is("turn(1, 9)", x.turn(1, 9), FibreLoops.NO_SUCH);
        due.is("turn(greatest int, 0)", x.turn(HIGHEST, 0), FibreLoops.NO_SUCH);
        due.is("turn(0, -1)", x.turn(0, -1), FibreLoops.BAD_VALUE);
        due.is("turn(0, 3)", x.turn(0, 3), FibreLoops.BAD_VALUE);
        due.is("count(13)", x.count(13), 3);
        int[] modes = {2, 1, 1, 0, 2, 0};
        int before = FibreLoops.OFF;
        for (int mode : modes) {
            due.is("turn(0, " + mode + ")", x.turn(0, mode), before);
            due.is("ofJoin(0, 4)", x.ofJoin(0, 4), mode);
            before = mode;
        }
        due.is("count(13)", x.count(13), 6);
    }

    private static void promise7Feed() {
        FibreLoops x = new FibreLoops();
        x.loop(4);
        due.is("feed(0, 1) without devices", x.feed(0, 1), FibreLoops.NO_SUCH);
        x.device(0, 0, FibreLoops.FEEDER, 0, 0);
        int[] others = {FibreLoops.AMPLIFIER, FibreLoops.READER, FibreLoops.CHANGER, FibreLoops.DROPPER};
        for (int i = 0; i < others.length; i++) {
            int amplifier = others[i] == FibreLoops.AMPLIFIER ? 1 : 0;
            x.device(0, 1, others[i], amplifier, amplifier);
            due.is("feed(" + (i + 1) + ", 1)", x.feed(i + 1, 1), FibreLoops.NO_SUCH);
        }
        due.is("feed(-1, 1)", x.feed(-1, 1), FibreLoops.NO_SUCH);
        due.is("feed(5, 100)", x.feed(5, 100), FibreLoops.NO_SUCH);
        due.is("feed(0, -1)", x.feed(0, -1), FibreLoops.BAD_VALUE);
        due.is("feed(0, 100)", x.feed(0, 100), FibreLoops.BAD_VALUE);
        due.is("feed(0, least int)", x.feed(0, LOWEST), FibreLoops.BAD_VALUE);
        for (int i = 1; i <= 12; i++) {
            due.is("feed(0, " + (9 * (i - 1)) + ")", x.feed(0, 9 * (i - 1)), i);
        }
        due.is("the thirteenth feed(0, 99)", x.feed(0, 99), FibreLoops.TOO_MANY);
        due.is("the thirteenth feed(0, 100)", x.feed(0, 100), FibreLoops.BAD_VALUE);
        due.is("ofDevice(0, 5)", x.ofDevice(0, 5), 12);
        x.set(FibreLoops.LOSS, 0);
        x.ticks(1);
        due.is("feed(0, 99) with room again", x.feed(0, 99), 12);
        // The other places fill up, and then a dropper makes room for each value that waits.
        x.device(0, 3, FibreLoops.DROPPER, 0, 0);
        due.is("at(0, 0, 0)", x.at(0, 0, 0), 0);
        x.ticks(3);
        due.is("at(0, 0, 0)", x.at(0, 0, 0), 27);
        due.is("at(0, 1, 0)", x.at(0, 1, 0), 18);
        due.is("at(0, 2, 0)", x.at(0, 2, 0), 9);
        due.is("at(0, 3, 0)", x.at(0, 3, 0), FibreLoops.NONE);
        due.is("ofDevice(0, 5)", x.ofDevice(0, 5), 9);
    }

    private static void promise8Light() {
        FibreLoops x = new FibreLoops();
        due.is("light(0, 0, 0) without loops", x.light(0, 0, 0), FibreLoops.NO_SUCH);
        x.loop(4);
        x.loop(4);
        int[][] nowhere = {{-1, 0}, {2, 0}, {0, -1}, {0, 4}, {LOWEST, 0}, {0, HIGHEST}};
        for (int[] w : nowhere) {
            due.is("light(" + w[0] + ", " + w[1] + ", 100)", x.light(w[0], w[1], 100), FibreLoops.NO_SUCH);
        }
        due.is("light(0, 0, -1)", x.light(0, 0, -1), FibreLoops.BAD_VALUE);
        due.is("light(0, 0, 100)", x.light(0, 0, 100), FibreLoops.BAD_VALUE);
        due.is("light(0, 0, 0)", x.light(0, 0, 0), 1);
        due.is("at(0, 0, 1)", x.at(0, 0, 1), 600);
        due.is("at(0, 0, 2)", x.at(0, 0, 2), 0);
        due.is("light(0, 0, 1)", x.light(0, 0, 1), FibreLoops.NOT_POSSIBLE);
        due.is("light(0, 0, 100)", x.light(0, 0, 100), FibreLoops.BAD_VALUE);
        x.set(FibreLoops.FRESH, 1000);
        due.is("light(0, 3, 99)", x.light(0, 3, 99), 2);
        due.is("at(0, 3, 1)", x.at(0, 3, 1), 1000);
        due.is("at(0, 0, 1)", x.at(0, 0, 1), 600);
        due.is("light(1, 3, 99)", x.light(1, 3, 99), 1);
        due.is("light(0, 1, 5)", x.light(0, 1, 5), 3);
        due.is("light(0, 2, 5)", x.light(0, 2, 5), 4);
        due.is("ofLoop(0, 4)", x.ofLoop(0, 4), 4);
        due.is("ofLoop(1, 4)", x.ofLoop(1, 4), 1);
        due.is("count(5)", x.count(5), 5);
    }

    private static void promise9Ticks() {
        FibreLoops x = new FibreLoops();
        int[] bad = {LOWEST, -1, 0, 201, HIGHEST};
        for (int ticks : bad) {
            due.is("ticks(" + ticks + ")", x.ticks(ticks), FibreLoops.BAD_VALUE);
        }
        due.is("count(13)", x.count(13), 0);
        due.is("ticks(1)", x.ticks(1), 1);
        due.is("ticks(200)", x.ticks(200), 201);
        due.is("ticks(7)", x.ticks(7), 208);
        due.is("count(0)", x.count(0), 208);
        due.is("count(13)", x.count(13), 3);
    }

    private static void twoObjectsAreApart() {
        FibreLoops x = new FibreLoops();
        FibreLoops y = new FibreLoops();
        x.loop(4);
        x.set(FibreLoops.LOSS, 3);
        x.put('t');
        x.save(0);
        due.is("y.count(1)", y.count(1), 0);
        due.is("y.count(8)", y.count(8), 10);
        due.is("y.count(12)", y.count(12), 0);
        due.is("y.count(13)", y.count(13), 0);
        due.is("y.restore(0)", y.restore(0), FibreLoops.NOT_POSSIBLE);
    }
}
