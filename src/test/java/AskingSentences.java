/** The sentences of the promises 10 to 16. */
final class AskingSentences {
    private static final int LEAST = Integer.MIN_VALUE, GREATEST = Integer.MAX_VALUE;
    private final Sentences s;

    AskingSentences(Sentences s) {
        this.s = s;
    }

    void all() {
        promise10();
        promise10Ages();
        promise10ToPlace0();
        promise10Errors();
        promise11();
        promise11Tallies();
        promise11Errors();
        promise12();
        promise12Acts();
        promise12Errors();
        promise13();
        promise14();
        promise15();
        promise16();
        promise16Errors();
    }

    // ---- at

    private void promise10() {
        s.under("Promise 10: at");
        s.tell("`int at(int loop, int place, int what)`: Returns something about a place.");
        s.says("`what`: 0 the value of its flash (NONE), 1 the strength (0 if there is none), 2 the tick less that in which the"
            + " flash was put in or lit (NONE), 3 how many ticks go by until what is there would come to the place 0 of this loop,"
            + " if no join acts (1 to the places of the loop)");
        FibreLoops x = Worlds.loops(0, 4, 32);
        s.is("0 where none is", x.at(0, 3, 0), FibreLoops.NONE);
        s.is("1 where none is", x.at(0, 3, 1), 0);
        s.is("2 where none is", x.at(0, 3, 2), FibreLoops.NONE);
        s.is("3 where none is", x.at(0, 3, 3), 1);
        x.set(FibreLoops.FRESH, 1000);
        x.light(0, 0, 0);
        x.light(1, 31, 99);
        s.is("0 of a value of 0", x.at(0, 0, 0), 0);
        s.is("0 of a value of 99", x.at(1, 31, 0), 99);
        s.is("1 of a strength of 1000", x.at(1, 31, 1), 1000);
        s.is("0 one place on", x.at(0, 1, 0), FibreLoops.NONE);
        s.is("0 at that place of the other", x.at(1, 0, 0), FibreLoops.NONE);
        x = Worlds.loops(33, 4);
        x.set(FibreLoops.FRESH, 100);
        x.light(0, 0, 7);
        x.ticks(3);
        s.is("0 of a strength of 1", x.at(0, 3, 0), 7);
        s.is("1 of a strength of 1", x.at(0, 3, 1), 1);
        s.is("2 of a strength of 1", x.at(0, 3, 2), 3);
        x.ticks(1);
        s.is("0 of a lost one", x.at(0, 0, 0), FibreLoops.NONE);
        s.is("1 of a lost one", x.at(0, 0, 1), 0);
        s.is("2 of a lost one", x.at(0, 0, 2), FibreLoops.NONE);
        x = Worlds.loops(0, 4);
        x.device(0, 1, FibreLoops.DROPPER, 7, 0);
        x.light(0, 0, 7);
        x.ticks(1);
        s.is("0 of a dropped one", x.at(0, 1, 0), FibreLoops.NONE);
        s.is("1 of a dropped one", x.at(0, 1, 1), 0);
        s.is("2 of a dropped one", x.at(0, 1, 2), FibreLoops.NONE);
    }

    private void promise10Ages() {
        FibreLoops x = Worlds.loops(0, 4, 8);
        x.device(0, 3, FibreLoops.FEEDER, 0, 0);
        x.device(0, 0, FibreLoops.CHANGER, 5, 6);
        x.join(0, 2, 1, 7);
        x.turn(0, FibreLoops.CROSS);
        x.ticks(9);
        x.light(0, 3, 5);
        s.is("2 of one that was lit now", x.at(0, 3, 2), 0);
        x.feed(0, 4);
        x.ticks(1);
        s.is("2 of one that was put in by the latest tick", x.at(0, 3, 2), 1);
        s.is("2 of one that was lit a tick ago, and changed", x.at(0, 0, 2), 1);
        x.ticks(2);
        s.is("2 of one that went through a join", x.at(1, 7, 2), 3);
        s.is("2 where it came from", x.at(0, 2, 2), FibreLoops.NONE);
        x.light(0, 2, 1);
        s.is("2 of a new one there", x.at(0, 2, 2), 0);
        x.undo();
        x.undo();
        s.is("2 as it was", x.at(0, 0, 2), 1);
        x = Worlds.loops(0, 4);
        x.light(0, 0, 5);
        x.save(0);
        x.ticks(200);
        x.ticks(200);
        s.is("2 after 400 ticks", x.at(0, 0, 2), 400);
        x.restore(0);
        s.is("2 of a restored one", x.at(0, 0, 2), 0);
    }

    private void promise10ToPlace0() {
        for (int places = 4; places <= 32; places++) {
            FibreLoops x = Worlds.loops(0, places);
            for (int place = 0; place < places; place++) {
                s.is("3 of place " + place + " of " + places, x.at(0, place, 3), places - place);
            }
            x.light(0, 0, 5);
            for (int left = places; left > 1; left--) {
                s.is("3 ahead of the end of the round", x.at(0, places - left, 3), left);
                x.ticks(1);
                s.is("not yet at place 0", x.at(0, 0, 0), FibreLoops.NONE);
            }
            x.ticks(1);
            s.is("at place 0 then", x.at(0, 0, 0), 5);
        }
        // A join that acts would bring what is there to another loop, and so would a dropper end it.
        FibreLoops x = Worlds.loops(50, 4, 6);
        x.device(0, 3, FibreLoops.DROPPER, 5, 0);
        x.join(0, 2, 1, 0);
        x.turn(0, FibreLoops.MERGE);
        x.light(0, 1, 5);
        s.is("3 ahead of a join", x.at(0, 1, 3), 3);
        s.is("3 at its far end", x.at(1, 0, 3), 6);
        x.ticks(1);
        s.is("3 where the join took it away", x.at(0, 2, 3), 2);
        s.is("3 where the join brought it", x.at(1, 0, 3), 6);
    }

    private void promise10Errors() {
        s.says("Returns the number; NO_SUCH if there is no such loop or place; BAD_VALUE if what is out of range.");
        int[][] nowhere = {{-1, 0}, {2, 0}, {LEAST, 0}, {GREATEST, 0}, {0, -1}, {0, 4}, {1, 5}, {0, LEAST}, {0, GREATEST}};
        FibreLoops x = Worlds.small();
        for (int[] w : nowhere) {
            for (int what = -1; what <= 4; what++) {
                s.is("at(" + w[0] + ", " + w[1] + ", " + what + ")", x.at(w[0], w[1], what), FibreLoops.NO_SUCH);
            }
        }
        s.is("without loops", new FibreLoops().at(0, 0, 0), FibreLoops.NO_SUCH);
        int[] bad = {LEAST, -1, 4, GREATEST};
        for (int what : bad) {
            s.refuses("at(1, 4, " + what + ")", Worlds::small, y -> y.at(1, 4, what), FibreLoops.BAD_VALUE);
            s.is("at(0, 0, " + what + ")", x.at(0, 0, what), FibreLoops.BAD_VALUE);
        }
        for (int what = 0; what <= 3; what++) {
            int which = what;
            s.isNoChange("at(1, 4, " + what + ")", Worlds::small, y -> y.at(1, 4, which));
            s.holds("at(1, 4, " + what + ") is no error", x.at(1, 4, what) >= 0 || x.at(1, 4, what) == FibreLoops.NONE);
        }
    }

    // ---- ofLoop

    private void promise11() {
        s.under("Promise 11: ofLoop");
        s.tell("`int ofLoop(int loop, int what)`: Returns something about a loop.");
        s.says("`what`: 0 its places, 1 its flashes, 2 the sum of their strengths, 3 the faintest strength (0 if there are none),"
            + " 4 flashes that were put in or lit in it so far, 5 flashes that were lost in it so far, 6 flashes that were dropped"
            + " in it so far, 7 flashes that came by joins so far, 8 flashes that went away by joins so far");
        FibreLoops x = Worlds.loops(0, 4, 32);
        ofLoop(x, "a new one of 4", 0, 4, 0, 0, 0, 0, 0, 0, 0, 0);
        ofLoop(x, "a new one of 32", 1, 32, 0, 0, 0, 0, 0, 0, 0, 0);
        x.set(FibreLoops.FRESH, 1000);
        for (int place = 0; place < 32; place++) {
            x.light(1, place, 5);
        }
        x.light(1, 0, 6);
        ofLoop(x, "a full one", 1, 32, 32, 32000, 1000, 32, 0, 0, 0, 0);
        ofLoop(x, "the other", 0, 4, 0, 0, 0, 0, 0, 0, 0, 0);
        x = Worlds.loops(0, 4);
        int[] strengths = {300, 100, 101, 1000};
        int[] faintest = {300, 100, 100, 100};
        int sum = 0;
        for (int i = 0; i < 4; i++) {
            x.set(FibreLoops.FRESH, strengths[i]);
            x.light(0, i, i);
            sum += strengths[i];
            ofLoop(x, "of " + (i + 1) + " flashes", 0, 4, i + 1, sum, faintest[i], i + 1, 0, 0, 0, 0);
        }
        x.set(FibreLoops.LOSS, 33);
        x.ticks(3);
        ofLoop(x, "a faintest strength of 1", 0, 4, 4, sum - 4 * 99, 1, 4, 0, 0, 0, 0);
        x.set(FibreLoops.LOSS, 1);
        x.ticks(1);
        ofLoop(x, "when that is lost", 0, 4, 3, 200 + 1 + 900, 1, 4, 1, 0, 0, 0);
        x.set(FibreLoops.LOSS, 50);
        x.ticks(200);
        ofLoop(x, "when all are lost", 0, 4, 0, 0, 0, 4, 4, 0, 0, 0);
    }

    private void ofLoop(FibreLoops x, String what, int loop, int... due) {
        for (int i = 0; i <= 8; i++) {
            s.is(what + ": ofLoop(" + loop + ", " + i + ")", x.ofLoop(loop, i), due[i]);
        }
    }

    private void promise11Tallies() {
        // Put in by a feeder, lost by a reader, and dropped.
        FibreLoops x = Worlds.loops(0, 4, 4);
        x.device(0, 0, FibreLoops.FEEDER, 0, 0);
        x.device(0, 1, FibreLoops.DROPPER, 5, 0);
        x.device(0, 2, FibreLoops.READER, 0, 0);
        x.set(FibreLoops.FRESH, 100);
        x.set(FibreLoops.READING, 100);
        x.feed(0, 5);
        x.feed(0, 6);
        ofLoop(x, "fed alone", 0, 4, 0, 0, 0, 0, 0, 0, 0, 0);
        x.ticks(1);
        ofLoop(x, "put in", 0, 4, 1, 100, 100, 1, 0, 0, 0, 0);
        x.ticks(1);
        ofLoop(x, "dropped, and another put in", 0, 4, 1, 100, 100, 2, 0, 1, 0, 0);
        x.ticks(2);
        ofLoop(x, "lost by a reader", 0, 4, 0, 0, 0, 2, 1, 1, 0, 0);
        ofLoop(x, "the other loop", 1, 4, 0, 0, 0, 0, 0, 0, 0, 0);
        // Lit in one loop, and lost and dropped in another.
        x = Worlds.loops(10, 4, 4);
        x.join(0, 1, 1, 1);
        x.turn(0, FibreLoops.MERGE);
        x.device(1, 3, FibreLoops.DROPPER, 5, 0);
        x.light(0, 0, 5);
        x.light(0, 3, 6);
        x.ticks(2);
        ofLoop(x, "two went away", 0, 4, 0, 0, 0, 2, 0, 0, 0, 2);
        ofLoop(x, "two came", 1, 4, 2, 1160, 580, 0, 0, 0, 2, 0);
        x.ticks(200);
        ofLoop(x, "at last, near", 0, 4, 0, 0, 0, 2, 0, 0, 0, 2);
        ofLoop(x, "at last, far", 1, 4, 0, 0, 0, 0, 1, 1, 2, 0);
        crossings();
    }

    private void crossings() {
        FibreLoops x = Worlds.loops(0, 4, 4);
        x.join(0, 0, 1, 0);
        x.turn(0, FibreLoops.CROSS);
        x.ticks(4);
        s.is("CROSS of none: came", x.ofLoop(0, 7) + x.ofLoop(1, 7), 0);
        x.light(1, 3, 1);
        x.ticks(1);
        ofLoop(x, "CROSS of one at the far end: near", 0, 4, 1, 600, 600, 0, 0, 0, 1, 0);
        ofLoop(x, "CROSS of one at the far end: far", 1, 4, 0, 0, 0, 1, 0, 0, 0, 1);
        x.light(1, 0, 2);
        x.ticks(4);
        ofLoop(x, "CROSS of two: near", 0, 4, 1, 600, 600, 0, 0, 0, 2, 1);
        ofLoop(x, "CROSS of two: far", 1, 4, 1, 600, 600, 2, 0, 0, 1, 2);
        x.turn(0, FibreLoops.MERGE);
        x.ticks(4);
        ofLoop(x, "MERGE where a flash is: near", 0, 4, 1, 600, 600, 0, 0, 0, 2, 1);
        ofLoop(x, "MERGE where a flash is: far", 1, 4, 1, 600, 600, 2, 0, 0, 1, 2);
        x.turn(0, FibreLoops.OFF);
        x.ticks(4);
        ofLoop(x, "OFF: near", 0, 4, 1, 600, 600, 0, 0, 0, 2, 1);
    }

    private void promise11Errors() {
        s.says("Returns the number; NO_SUCH if there is no such loop; BAD_VALUE if what is out of range.");
        int[] none = {LEAST, -1, 2, 5, GREATEST};
        for (int loop : none) {
            for (int what = -1; what <= 9; what++) {
                s.is("ofLoop(" + loop + ", " + what + ")", Worlds.small().ofLoop(loop, what), FibreLoops.NO_SUCH);
            }
        }
        s.is("without loops", new FibreLoops().ofLoop(0, 0), FibreLoops.NO_SUCH);
        s.is("the fifth of 5", Worlds.full().ofLoop(4, 0), 4);
        s.is("the sixth of 5", Worlds.full().ofLoop(5, 0), FibreLoops.NO_SUCH);
        int[] bad = {LEAST, -1, 9, GREATEST};
        for (int what : bad) {
            s.refuses("ofLoop(1, " + what + ")", Worlds::small, x -> x.ofLoop(1, what), FibreLoops.BAD_VALUE);
        }
        for (int what = 0; what <= 8; what++) {
            int which = what;
            s.isNoChange("ofLoop(1, " + what + ")", Worlds::small, x -> x.ofLoop(1, which));
        }
    }

    // ---- ofDevice

    private static FibreLoops oneOfEach(int loss, int recover) {
        FibreLoops x = Worlds.loops(loss, 4, 8);
        x.set(FibreLoops.RECOVER, recover);
        x.device(1, 7, FibreLoops.AMPLIFIER, 30, 100);
        x.device(1, 6, FibreLoops.READER, 0, 0);
        x.device(1, 0, FibreLoops.FEEDER, 0, 0);
        x.device(1, 5, FibreLoops.CHANGER, 11, 99);
        x.device(0, 3, FibreLoops.DROPPER, 12, 0);
        return x;
    }

    private void promise12() {
        s.under("Promise 12: ofDevice");
        s.tell("`int ofDevice(int device, int what)`: Returns something about a device.");
        s.says("`what`: 0 its kind, 1 its loop, 2 its place, 3, 4 one and two, as they were given, 5 the store of an amplifier, how"
            + " many values a reader keeps, how many values wait at a feeder, 0 for others, 6 how often it did something (made a"
            + " flash stronger by 1 at least, noted, put in, changed, dropped)");
        FibreLoops x = oneOfEach(0, 0);
        int[][] first = {
            {0, 1, 7, 30, 100, 100, 0}, {1, 1, 6, 0, 0, 0, 0}, {2, 1, 0, 0, 0, 0, 0}, {3, 1, 5, 11, 99, 0, 0}, {4, 0, 3, 12, 0, 0, 0},
        };
        ofDevices(x, "at first", first);
        x.feed(2, 1);
        x.feed(2, 2);
        x.feed(2, 3);
        x.light(1, 4, 11);
        x.light(0, 2, 12);
        x.ticks(2);
        int[][] then = {
            {0, 1, 7, 30, 100, 100, 0}, {1, 1, 6, 0, 0, 1, 1}, {2, 1, 0, 0, 0, 1, 2}, {3, 1, 5, 11, 99, 0, 1}, {4, 0, 3, 12, 0, 0, 1},
        };
        ofDevices(x, "after 2 ticks", then);
        x.ticks(1);
        s.is("5 of an amplifier that used some", x.ofDevice(0, 5), 70);
        s.is("4 of an amplifier that used some", x.ofDevice(0, 4), 100);
        s.is("5 of a feeder that put all in", x.ofDevice(2, 5), 0);
    }

    private void ofDevices(FibreLoops x, String when, int[][] due) {
        for (int device = 0; device < due.length; device++) {
            for (int what = 0; what <= 6; what++) {
                s.is(when + ": ofDevice(" + device + ", " + what + ")", x.ofDevice(device, what), due[device][what]);
            }
        }
    }

    private void promise12Acts() {
        FibreLoops x = Worlds.loops(0, 4);
        x.set(FibreLoops.RECOVER, 0);
        x.device(0, 1, FibreLoops.AMPLIFIER, 1, 2);
        x.set(FibreLoops.FRESH, 1000);
        x.light(0, 0, 5);
        x.ticks(1);
        s.is("6: stronger by 0, since it has 1000", x.ofDevice(0, 6), 0);
        x.set(FibreLoops.LOSS, 1);
        x.ticks(4);
        s.is("6: stronger by 1", x.ofDevice(0, 6), 1);
        x.ticks(4);
        s.is("6: stronger by 1 twice", x.ofDevice(0, 6), 2);
        x.ticks(4);
        s.is("6: stronger by 0, since the store is empty", x.ofDevice(0, 6), 2);
        s.is("5: an empty store", x.ofDevice(0, 5), 0);
        // A reader that keeps no more than 8 notes on; one that takes the last strength notes too.
        x = Worlds.loops(0, 4);
        x.device(0, 1, FibreLoops.READER, 0, 0);
        x.light(0, 0, 5);
        for (int i = 1; i <= 15; i++) {
            x.ticks(4);
            s.is("6: noted " + i + " times", x.ofDevice(0, 6), (4 * i + 3) / 4);
            s.is("5: of " + i + " times", x.ofDevice(0, 5), Math.min(i, 8));
        }
        s.is("6: noted when it was lost too", x.ofLoop(0, 5), 1);
        x.ticks(4);
        s.is("6: not once more", x.ofDevice(0, 6), 15);
        x = Worlds.loops(0, 4);
        x.device(0, 1, FibreLoops.FEEDER, 0, 0);
        x.device(0, 1, FibreLoops.CHANGER, 3, 3);
        x.device(0, 1, FibreLoops.CHANGER, 3, 4);
        x.device(0, 1, FibreLoops.CHANGER, 3, 5);
        x.device(0, 1, FibreLoops.DROPPER, 4, 0);
        x.device(0, 1, FibreLoops.DROPPER, 4, 0);
        for (int i = 0; i < 12; i++) {
            x.feed(0, 3);
        }
        x.ticks(11);
        int[] acts = {11, 11, 11, 0, 11, 0};
        for (int device = 0; device < 6; device++) {
            s.is("6 of device " + device + " of one place", x.ofDevice(device, 6), acts[device]);
        }
        x.ticks(5);
        s.is("6 of a feeder that has no more", x.ofDevice(0, 6), 12);
    }

    private void promise12Errors() {
        s.says("Returns the number; NO_SUCH if there is no such device; BAD_VALUE if what is out of range.");
        int[] none = {LEAST, -1, 5, 12, GREATEST};
        for (int device : none) {
            for (int what = -1; what <= 7; what++) {
                s.is("ofDevice(" + device + ", " + what + ")", Worlds.small().ofDevice(device, what), FibreLoops.NO_SUCH);
            }
        }
        s.is("without devices", Worlds.loops(0, 4).ofDevice(0, 0), FibreLoops.NO_SUCH);
        s.is("the twelfth of 12", Worlds.full().ofDevice(11, 0), FibreLoops.READER);
        s.is("the thirteenth of 12", Worlds.full().ofDevice(12, 0), FibreLoops.NO_SUCH);
        int[] bad = {LEAST, -1, 7, GREATEST};
        for (int what : bad) {
            s.refuses("ofDevice(4, " + what + ")", Worlds::small, x -> x.ofDevice(4, what), FibreLoops.BAD_VALUE);
        }
        for (int what = 0; what <= 6; what++) {
            int which = what;
            s.isNoChange("ofDevice(0, " + what + ")", Worlds::small, x -> x.ofDevice(0, which));
        }
    }

    // ---- noted

    private void promise13() {
        s.under("Promise 13: noted");
        s.tell("`int noted(int device, int back)`: Returns a value that a reader noted.");
        s.says("`back`: 0 for the latest one, 1 for the one ahead of it, and so on");
        FibreLoops x = Worlds.loops(0, 12);
        x.set(FibreLoops.READING, 0);
        x.device(0, 11, FibreLoops.READER, 0, 0);
        for (int place = 0; place < 11; place++) {
            x.light(0, 10 - place, 99 - 9 * place);
        }
        for (int notes = 1; notes <= 11; notes++) {
            x.ticks(1);
            for (int back = 0; back < Math.min(notes, 8); back++) {
                s.is("noted(0, " + back + ") of " + notes, x.noted(0, back), 99 - 9 * (notes - 1 - back));
            }
            s.is("one more than kept of " + notes, x.noted(0, Math.min(notes, 8)), FibreLoops.NONE);
        }
        s.says("Returns the value; NO_SUCH if there is no such device, or it is no reader; NONE if it keeps not so many, or back is"
            + " below 0.");
        int[] none = {LEAST, -1, 0, 2, 3, 4, 5, 12, GREATEST};
        int[] backs = {LEAST, -1, 0, 1, 7, 8, GREATEST};
        FibreLoops small = Worlds.small();
        for (int device : none) {
            for (int back : backs) {
                s.is("noted(" + device + ", " + back + ")", small.noted(device, back), FibreLoops.NO_SUCH);
            }
        }
        s.is("without devices", new FibreLoops().noted(0, 0), FibreLoops.NO_SUCH);
        FibreLoops y = Worlds.loops(0, 4);
        y.device(0, 0, FibreLoops.READER, 0, 0);
        for (int back : backs) {
            s.is("of no values: noted(0, " + back + ")", y.noted(0, back), FibreLoops.NONE);
        }
        y.light(0, 3, 0);
        y.ticks(1);
        for (int back : backs) {
            s.is("of one value: noted(0, " + back + ")", y.noted(0, back), back == 0 ? 0 : FibreLoops.NONE);
        }
        int[] beyond = {LEAST, -1, 8, 9, GREATEST};
        for (int back : beyond) {
            s.is("of eight values: noted(0, " + back + ")", x.noted(0, back), FibreLoops.NONE);
        }
        s.isNoChange("noted(1, 0)", Worlds::small, z -> z.noted(1, 0));
        s.isNoChange("noted(1, -1)", Worlds::small, z -> z.noted(1, -1));
    }

    // ---- ofJoin

    private void promise14() {
        s.under("Promise 14: ofJoin");
        s.tell("`int ofJoin(int join, int what)`: Returns something about a join.");
        s.says("`what`: 0 to 3 its near loop and place, its far loop and place, 4 its mode, 5 how many flashes went through it");
        FibreLoops x = Worlds.loops(0, 4, 8, 8);
        x.join(0, 3, 1, 0);
        x.join(2, 7, 1, 6);
        ofJoin(x, "a new one", 0, 0, 3, 1, 0, FibreLoops.OFF, 0);
        ofJoin(x, "another new one", 1, 2, 7, 1, 6, FibreLoops.OFF, 0);
        x.turn(1, FibreLoops.MERGE);
        x.turn(0, FibreLoops.CROSS);
        x.ticks(8);
        ofJoin(x, "none went through", 0, 0, 3, 1, 0, FibreLoops.CROSS, 0);
        ofJoin(x, "none went through", 1, 2, 7, 1, 6, FibreLoops.MERGE, 0);
        x.light(0, 2, 1);
        x.light(2, 6, 2);
        x.ticks(1);
        ofJoin(x, "one went through by CROSS", 0, 0, 3, 1, 0, FibreLoops.CROSS, 1);
        ofJoin(x, "one went through by MERGE", 1, 2, 7, 1, 6, FibreLoops.MERGE, 1);
        x.light(0, 2, 3);
        x.light(1, 7, 4);
        x.light(2, 6, 5);
        x.light(1, 5, 6);
        x.ticks(1);
        ofJoin(x, "two went through by CROSS", 0, 0, 3, 1, 0, FibreLoops.CROSS, 3);
        ofJoin(x, "none by MERGE where a flash is", 1, 2, 7, 1, 6, FibreLoops.MERGE, 1);
        s.says("Returns the number; NO_SUCH if there is no such join; BAD_VALUE if what is out of range.");
        int[] none = {LEAST, -1, 1, 4, GREATEST};
        FibreLoops small = Worlds.small();
        for (int join : none) {
            for (int what = -1; what <= 6; what++) {
                s.is("ofJoin(" + join + ", " + what + ")", small.ofJoin(join, what), FibreLoops.NO_SUCH);
            }
        }
        s.is("without joins", new FibreLoops().ofJoin(0, 0), FibreLoops.NO_SUCH);
        s.is("the fourth of 4", Worlds.full().ofJoin(3, 0), 3);
        s.is("the fifth of 4", Worlds.full().ofJoin(4, 0), FibreLoops.NO_SUCH);
        int[] bad = {LEAST, -1, 6, GREATEST};
        for (int what : bad) {
            s.refuses("ofJoin(0, " + what + ")", Worlds::small, y -> y.ofJoin(0, what), FibreLoops.BAD_VALUE);
        }
        for (int what = 0; what <= 5; what++) {
            int which = what;
            s.isNoChange("ofJoin(0, " + what + ")", Worlds::small, y -> y.ofJoin(0, which));
        }
    }

    private void ofJoin(FibreLoops x, String what, int join, int... due) {
        for (int i = 0; i <= 5; i++) {
            s.is(what + ": ofJoin(" + join + ", " + i + ")", x.ofJoin(join, i), due[i]);
        }
    }

    // ---- find

    private void promise15() {
        s.under("Promise 15: find");
        s.says("`int find(int value, int what)`: Finds the first flash of a value, by the loops and by places.");
        FibreLoops x = Worlds.loops(0, 4, 8, 8);
        x.light(2, 0, 7);
        found(x, "the only one", 2, 0, 1);
        x.light(2, 7, 7);
        found(x, "ahead of a later place", 2, 0, 2);
        x.light(1, 7, 7);
        found(x, "the lower loop, though by a later place", 1, 7, 3);
        x.light(1, 5, 7);
        found(x, "an earlier place of it", 1, 5, 4);
        x.light(0, 3, 7);
        found(x, "the last place of the first loop", 0, 3, 5);
        x.light(0, 0, 6);
        found(x, "ahead of it another value", 0, 3, 5);
        x.ticks(1);
        found(x, "moved on to place 0", 0, 0, 5);
        s.says("`value`: 0 to 99");
        int[] bad = {LEAST, -1, 100, GREATEST};
        for (int value : bad) {
            for (int what = -1; what <= 3; what++) {
                s.is("find(" + value + ", " + what + ")", x.find(value, what), FibreLoops.BAD_VALUE);
            }
        }
        FibreLoops y = Worlds.loops(0, 4);
        y.light(0, 1, 0);
        y.light(0, 2, 99);
        s.is("find(0, 1)", y.find(0, 1), 1);
        s.is("find(99, 1)", y.find(99, 1), 2);
        s.says("`what`: 0 its loop, 1 its place, 2 how many flashes have this value");
        FibreLoops full = Worlds.loops(0, 4, 32, 32, 32, 32);
        full.light(0, 3, 5);
        for (int loop = 1; loop < 5; loop++) {
            for (int place = 0; place < 32; place++) {
                full.light(loop, place, loop == 3 ? 6 : 5);
            }
        }
        found(full, 5, "nearly all", 0, 3, 97);
        found(full, 6, "all of one loop", 3, 0, 32);
        FibreLoops same = Worlds.loops(0, 32, 32, 32, 32, 32);
        for (int i = 0; i < 160; i++) {
            same.light(i / 32, i % 32, 99);
        }
        found(same, 99, "as many as there can be", 0, 0, 160);
        s.says("Returns the number; BAD_VALUE if an argument is out of range; NONE if there is none (also for 2).");
        int[] badWhat = {LEAST, -1, 3, GREATEST};
        for (int what : badWhat) {
            s.is("find(5, " + what + "), a value that is there", full.find(5, what), FibreLoops.BAD_VALUE);
            s.is("find(9, " + what + "), a value that is not there", full.find(9, what), FibreLoops.BAD_VALUE);
            s.refuses("find(1, " + what + ")", Worlds::small, z -> z.find(1, what), FibreLoops.BAD_VALUE);
        }
        for (int what = 0; what <= 2; what++) {
            int which = what;
            s.is("find(9, " + what + "), a value that is not there", full.find(9, what), FibreLoops.NONE);
            s.is("find(0, " + what + ") without flashes", Worlds.loops(0, 4).find(0, what), FibreLoops.NONE);
            s.is("find(0, " + what + ") without loops", new FibreLoops().find(0, what), FibreLoops.NONE);
            s.isNoChange("find(1, " + what + ")", Worlds::small, z -> z.find(1, which));
        }
        y.set(FibreLoops.LOSS, 50);
        y.ticks(200);
        s.is("find(99, 2) of a lost one", y.find(99, 2), FibreLoops.NONE);
        // A value that waits, or was noted, or that a device looks for, is no flash.
        y.device(0, 0, FibreLoops.FEEDER, 0, 0);
        y.device(0, 0, FibreLoops.DROPPER, 42, 0);
        y.feed(0, 42);
        s.is("find(42, 2) of one that waits", y.find(42, 2), FibreLoops.NONE);
    }

    private void found(FibreLoops x, String what, int loop, int place, int number) {
        found(x, 7, what, loop, place, number);
    }

    private void found(FibreLoops x, int value, String what, int loop, int place, int number) {
        s.is(what + ": loop", x.find(value, 0), loop);
        s.is(what + ": place", x.find(value, 1), place);
        s.is(what + ": how many", x.find(value, 2), number);
    }

    // ---- count

    private void promise16() {
        s.under("Promise 16: count");
        s.tell("`int count(int what)`: Returns a number.");
        s.says("`what`: 0 the tick, 1 loops, 2 devices, 3 joins, 4 flashes, 5 flashes that were put in or lit so far, 6 lost ones,"
            + " 7 dropped ones, 8 to 11 the settings, 12 the length of the pad, 13 how many changes can be undone");
        counts(new FibreLoops(), "a new object", 0, 0, 0, 0, 0, 0, 0, 0, 10, 40, 20, 600, 0, 0);
        counts(Worlds.full(), "a full one", 0, 5, 12, 4, 1, 1, 0, 0, 10, 40, 20, 600, 80, 6);
        FibreLoops x = new FibreLoops();
        x.set(FibreLoops.LOSS, 50);
        x.set(FibreLoops.READING, 200);
        x.set(FibreLoops.RECOVER, 199);
        x.set(FibreLoops.FRESH, 1000);
        x.put('t');
        counts(x, "settings, a sign", 0, 0, 0, 0, 0, 0, 0, 0, 50, 200, 199, 1000, 1, 4);
        x.undo();
        counts(x, "one undone", 0, 0, 0, 0, 0, 0, 0, 0, 50, 200, 199, 600, 1, 3);
        promise16Sums();
    }

    private void promise16Errors() {
        s.says("Returns the number; BAD_VALUE if what is out of range.");
        int[] bad = {LEAST, -1, 14, GREATEST};
        for (int what : bad) {
            s.refuses("count(" + what + ")", Worlds::small, x -> x.count(what), FibreLoops.BAD_VALUE);
            s.is("count(" + what + ") of a new object", new FibreLoops().count(what), FibreLoops.BAD_VALUE);
        }
        for (int what = 0; what <= 13; what++) {
            int which = what;
            s.isNoChange("count(" + what + ")", Worlds::small, x -> x.count(which));
        }
    }

    private void counts(FibreLoops x, String what, int... due) {
        for (int i = 0; i <= 13; i++) {
            s.is(what + ": count(" + i + ")", x.count(i), due[i]);
        }
    }

    /** What is counted of flashes is of all loops together, and of all that was so far. */
    private void promise16Sums() {
        FibreLoops x = Worlds.loops(0, 4, 4, 4, 4, 4);
        x.set(FibreLoops.FRESH, 100);
        x.set(FibreLoops.READING, 100);
        for (int loop = 0; loop < 5; loop++) {
            for (int place = 0; place < 4; place++) {
                x.light(loop, place, place);
            }
        }
        x.device(1, 0, FibreLoops.FEEDER, 0, 0);
        x.device(3, 1, FibreLoops.DROPPER, 2, 0);
        x.device(4, 1, FibreLoops.DROPPER, 3, 0);
        x.device(2, 2, FibreLoops.READER, 0, 0);
        x.feed(0, 9);
        x.ticks(4);
        int[] four = {4, 5, 4, 0, 14, 20, 4, 2, 0, 100, 20, 100, 0, 6};
        counts(x, "4 ticks, each loop full at first", four);
        x.device(1, 0, FibreLoops.DROPPER, 0, 0);
        x.ticks(8);
        // The 0 of loop 1 is dropped where the feeder stands, so that it puts its 9 in a round later.
        int[] twelve = {12, 5, 5, 0, 14, 21, 4, 3, 0, 100, 20, 100, 0, 6};
        counts(x, "8 ticks more", twelve);
        x.set(FibreLoops.LOSS, 50);
        x.ticks(2);
        int[] fourteen = {14, 5, 5, 0, 0, 21, 18, 3, 50, 100, 20, 100, 0, 6};
        counts(x, "2 ticks more, by which all are lost", fourteen);
    }
}
