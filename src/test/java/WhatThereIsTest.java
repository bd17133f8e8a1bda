/** Promises 10 to 16. */
public final class WhatThereIsTest {
    private static final int LOWEST = Integer.MIN_VALUE, HIGHEST = Integer.MAX_VALUE;
    private static final Due due = new Due("WhatThereIsTest");

    public static void main(String[] args) {
        promise10At();
        promise11OfLoop();
        promise12OfDevice();
        promise13Noted();
        promise14OfJoin();
        promise15Find();
        promise16Count();
        due.end();
    }

    private static void promise10At() {
        FibreLoops x = new FibreLoops();
        due.is("at(0, 0, 0) without loops", x.at(0, 0, 0), FibreLoops.NO_SUCH);
        x.loop(7);
        x.ticks(5);
        x.light(0, 3, 0);
        due.is("value 0", x.at(0, 3, 0), 0);
        due.is("strength", x.at(0, 3, 1), 600);
        due.is("lit now", x.at(0, 3, 2), 0);
        x.ticks(2);
        due.is("value", x.at(0, 5, 0), 0);
        due.is("strength", x.at(0, 5, 1), 580);
        due.is("lit two ticks ago", x.at(0, 5, 2), 2);
        for (int place = 0; place < 7; place++) {
            due.is("at(0, " + place + ", 3)", x.at(0, place, 3), 7 - place);
            if (place != 5) {
                due.is("at(0, " + place + ", 0)", x.at(0, place, 0), FibreLoops.NONE);
                due.is("at(0, " + place + ", 1)", x.at(0, place, 1), 0);
                due.is("at(0, " + place + ", 2)", x.at(0, place, 2), FibreLoops.NONE);
            }
        }
        int[][] nowhere = {{-1, 0}, {1, 0}, {LOWEST, 0}, {HIGHEST, 0}, {0, -1}, {0, 7}, {0, LOWEST}, {0, HIGHEST}};
        for (int[] w : nowhere) {
            due.is("at(" + w[0] + ", " + w[1] + ", 9)", x.at(w[0], w[1], 9), FibreLoops.NO_SUCH);
        }
        int[] bad = {-1, 4, LOWEST, HIGHEST};
        for (int what : bad) {
            due.is("at(0, 5, " + what + ")", x.at(0, 5, what), FibreLoops.BAD_VALUE);
            due.is("at(0, 0, " + what + ")", x.at(0, 0, what), FibreLoops.BAD_VALUE);
        }
    }

    private static void promise11OfLoop() {
        FibreLoops x = new FibreLoops();
        x.loop(4);
        x.loop(9);
        x.set(FibreLoops.FRESH, 300);
        x.light(1, 0, 1);
        x.set(FibreLoops.FRESH, 200);
        x.light(1, 1, 2);
        x.set(FibreLoops.FRESH, 250);
        x.light(1, 2, 3);
        int[] lit = {9, 3, 750, 200, 3, 0, 0, 0, 0};
        int[] empty = {4, 0, 0, 0, 0, 0, 0, 0, 0};
        for (int what = 0; what <= 8; what++) {
            due.is("ofLoop(1, " + what + ")", x.ofLoop(1, what), lit[what]);
            due.is("ofLoop(0, " + what + ")", x.ofLoop(0, what), empty[what]);
        }
        // One is dropped, one crosses over to loop 0, and one is lost there and one here.
        x.device(1, 3, FibreLoops.DROPPER, 3, 0);
        x.join(1, 2, 0, 0);
        x.turn(0, FibreLoops.MERGE);
        x.ticks(1);
        int[] far = {4, 1, 190, 190, 0, 0, 0, 1, 0};
        int[] near = {9, 1, 290, 290, 3, 0, 1, 0, 1};
        for (int what = 0; what <= 8; what++) {
            due.is("then ofLoop(0, " + what + ")", x.ofLoop(0, what), far[what]);
            due.is("then ofLoop(1, " + what + ")", x.ofLoop(1, what), near[what]);
        }
        x.turn(0, FibreLoops.OFF);
        x.ticks(50);
        int[] farAtLast = {4, 0, 0, 0, 0, 1, 0, 1, 0};
        int[] nearAtLast = {9, 0, 0, 0, 3, 1, 1, 0, 1};
        for (int what = 0; what <= 8; what++) {
            due.is("at last ofLoop(0, " + what + ")", x.ofLoop(0, what), farAtLast[what]);
            due.is("at last ofLoop(1, " + what + ")", x.ofLoop(1, what), nearAtLast[what]);
        }
        int[] nowhere = {-1, 2, LOWEST, HIGHEST};
        for (int loop : nowhere) {
            due.is("ofLoop(" + loop + ", 9)", x.ofLoop(loop, 9), FibreLoops.NO_SUCH);
        }
        int[] bad = {-1, 9, LOWEST, HIGHEST};
        for (int what : bad) {
            due.is("ofLoop(0, " + what + ")", x.ofLoop(0, what), FibreLoops.BAD_VALUE);
        }
    }

    private static void promise12OfDevice() {
        FibreLoops x = new FibreLoops();
        due.is("ofDevice(0, 0) without devices", x.ofDevice(0, 0), FibreLoops.NO_SUCH);
        x.loop(4);
        x.loop(8);
        x.set(FibreLoops.RECOVER, 0);
        x.device(1, 7, FibreLoops.AMPLIFIER, 30, 100);
        x.device(1, 6, FibreLoops.READER, 0, 0);
        x.device(1, 0, FibreLoops.FEEDER, 0, 0);
        x.device(1, 5, FibreLoops.CHANGER, 11, 12);
        x.device(1, 2, FibreLoops.DROPPER, 12, 0);
        x.light(1, 4, 11);
        x.feed(2, 1);
        x.feed(2, 2);
        x.feed(2, 3);
        x.ticks(6);
        int[][] then = {
            {0, 1, 7, 30, 100, 70, 1}, {1, 1, 6, 0, 0, 1, 1}, {2, 1, 0, 0, 0, 0, 3}, {3, 1, 5, 11, 12, 0, 1}, {4, 1, 2, 12, 0, 0, 1},
        };
        for (int device = 0; device < 5; device++) {
            for (int what = 0; what <= 6; what++) {
                due.is("ofDevice(" + device + ", " + what + ")", x.ofDevice(device, what), then[device][what]);
            }
            due.is("ofDevice(" + device + ", -1)", x.ofDevice(device, -1), FibreLoops.BAD_VALUE);
            due.is("ofDevice(" + device + ", 7)", x.ofDevice(device, 7), FibreLoops.BAD_VALUE);
            due.is("ofDevice(" + device + ", least int)", x.ofDevice(device, LOWEST), FibreLoops.BAD_VALUE);
        }
        int[] nowhere = {-1, 5, LOWEST, HIGHEST};
        for (int device : nowhere) {
            due.is("ofDevice(" + device + ", 7)", x.ofDevice(device, 7), FibreLoops.NO_SUCH);
        }
    }

    private static void promise13Noted() {
        FibreLoops x = new FibreLoops();
        due.is("noted(0, 0) without devices", x.noted(0, 0), FibreLoops.NO_SUCH);
        x.loop(4);
        x.device(0, 1, FibreLoops.READER, 0, 0);
        x.device(0, 2, FibreLoops.FEEDER, 0, 0);
        x.device(0, 3, FibreLoops.AMPLIFIER, 1, 1);
        x.device(0, 3, FibreLoops.CHANGER, 1, 1);
        x.device(0, 3, FibreLoops.DROPPER, 1, 0);
        x.feed(1, 4);
        for (int device = 1; device <= 4; device++) {
            due.is("noted(" + device + ", 0)", x.noted(device, 0), FibreLoops.NO_SUCH);
            due.is("noted(" + device + ", -1)", x.noted(device, -1), FibreLoops.NO_SUCH);
        }
        due.is("noted(-1, 0)", x.noted(-1, 0), FibreLoops.NO_SUCH);
        due.is("noted(5, 0)", x.noted(5, 0), FibreLoops.NO_SUCH);
        due.is("noted(least int, 0)", x.noted(LOWEST, 0), FibreLoops.NO_SUCH);
        due.is("noted(0, 0) of none", x.noted(0, 0), FibreLoops.NONE);
        x.light(0, 0, 60);
        x.ticks(1);
        due.is("noted(0, 0)", x.noted(0, 0), 60);
        int[] none = {-1, 1, 7, 8, LOWEST, HIGHEST};
        for (int back : none) {
            due.is("noted(0, " + back + ")", x.noted(0, back), FibreLoops.NONE);
        }
    }

    private static void promise14OfJoin() {
        FibreLoops x = new FibreLoops();
        due.is("ofJoin(0, 0) without joins", x.ofJoin(0, 0), FibreLoops.NO_SUCH);
        x.loop(4);
        x.loop(8);
        x.loop(8);
        x.join(0, 1, 1, 2);
        x.join(2, 7, 1, 6);
        x.turn(1, FibreLoops.MERGE);
        x.light(2, 6, 3);
        x.ticks(1);
        int[][] then = {{0, 1, 1, 2, 0, 0}, {2, 7, 1, 6, 2, 1}};
        for (int join = 0; join < 2; join++) {
            for (int what = 0; what <= 5; what++) {
                due.is("ofJoin(" + join + ", " + what + ")", x.ofJoin(join, what), then[join][what]);
            }
            due.is("ofJoin(" + join + ", -1)", x.ofJoin(join, -1), FibreLoops.BAD_VALUE);
            due.is("ofJoin(" + join + ", 6)", x.ofJoin(join, 6), FibreLoops.BAD_VALUE);
            due.is("ofJoin(" + join + ", greatest int)", x.ofJoin(join, HIGHEST), FibreLoops.BAD_VALUE);
        }
        int[] nowhere = {-1, 2, LOWEST, HIGHEST};
        for (int join : nowhere) {
            due.is("ofJoin(" + join + ", 6)", x.ofJoin(join, 6), FibreLoops.NO_SUCH);
        }
    }

    private static void promise15Find() {
        FibreLoops x = new FibreLoops();
        due.is("find(0, 0) without loops", x.find(0, 0), FibreLoops.NONE);
        x.loop(4);
        x.loop(8);
        x.loop(8);
        due.is("find(0, 0) without flashes", x.find(0, 0), FibreLoops.NONE);
        due.is("find(0, 2) without flashes", x.find(0, 2), FibreLoops.NONE);
        x.light(2, 0, 0);
        x.light(1, 7, 0);
        x.light(1, 3, 0);
        x.light(0, 2, 99);
        due.is("find(0, 0)", x.find(0, 0), 1);
        due.is("find(0, 1)", x.find(0, 1), 3);
        due.is("find(0, 2)", x.find(0, 2), 3);
        due.is("find(99, 0)", x.find(99, 0), 0);
        due.is("find(99, 1)", x.find(99, 1), 2);
        due.is("find(99, 2)", x.find(99, 2), 1);
        x.ticks(1);
        due.is("then find(0, 1)", x.find(0, 1), 0);
        int[] bad = {-1, 100, LOWEST, HIGHEST};
        for (int value : bad) {
            due.is("find(" + value + ", 0)", x.find(value, 0), FibreLoops.BAD_VALUE);
        }
        int[] badWhat = {-1, 3, LOWEST, HIGHEST};
        for (int what : badWhat) {
            due.is("find(0, " + what + ")", x.find(0, what), FibreLoops.BAD_VALUE);
            due.is("find(50, " + what + ")", x.find(50, what), FibreLoops.BAD_VALUE);
        }
        x.ticks(200);
        due.is("find(0, 2) when all are lost", x.find(0, 2), FibreLoops.NONE);
    }

    private static void promise16Count() {
        FibreLoops x = new FibreLoops();
        x.set(FibreLoops.LOSS, 9);
        x.set(FibreLoops.READING, 41);
        x.set(FibreLoops.RECOVER, 19);
        x.set(FibreLoops.FRESH, 100);
        x.loop(4);
        x.loop(5);
        x.loop(6);
        x.device(0, 1, FibreLoops.DROPPER, 7, 0);
        x.device(2, 0, FibreLoops.READER, 0, 0);
        x.join(0, 3, 1, 3);
        x.light(0, 0, 7);
        x.light(0, 1, 8);
        x.light(1, 0, 8);
        x.light(2, 3, 8);
        x.ticks(2);
        Texts.put(x, "t1;t2");
        // The 7 is dropped; the one of loop 2 comes to its reader in the third tick.
        int[] then = {2, 3, 2, 1, 3, 4, 0, 1, 9, 41, 19, 100, 5, 6};
        for (int what = 0; what < then.length; what++) {
            due.is("count(" + what + ")", x.count(what), then[what]);
        }
        x.ticks(6);
        due.is("flashes, after the reader's loss", x.count(4), 2);
        due.is("lost", x.count(6), 1);
        x.ticks(4);
        due.is("flashes at last", x.count(4), 0);
        due.is("lost at last", x.count(6), 3);
        int[] bad = {-1, 14, LOWEST, HIGHEST};
        for (int what : bad) {
            due.is("count(" + what + ")", x.count(what), FibreLoops.BAD_VALUE);
        }
    }
}
