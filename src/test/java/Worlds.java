/** Objects with which tests begin. */
final class Worlds {
    private Worlds() {
    }

    /** Loops with these places, and this LOSS. */
    static FibreLoops loops(int loss, int... places) {
        FibreLoops x = new FibreLoops();
        x.set(FibreLoops.LOSS, loss);
        for (int p : places) {
            x.loop(p);
        }
        return x;
    }

    /**
     * Two loops with one device of each kind (in the order of their kinds) and a join, flashes, values that wait, a
     * text with a fault, a saved state in slot 0 alone, and five changes that can be undone, the latest of which was
     * not followed by an undo().
     */
    static FibreLoops small() {
        FibreLoops x = new FibreLoops();
        x.loop(4);
        x.loop(5);
        x.device(0, 1, FibreLoops.AMPLIFIER, 30, 60);
        x.device(0, 2, FibreLoops.READER, 0, 0);
        x.device(0, 3, FibreLoops.FEEDER, 0, 0);
        x.device(1, 1, FibreLoops.CHANGER, 1, 2);
        x.device(1, 4, FibreLoops.DROPPER, 2, 0);
        x.join(0, 0, 1, 0);
        x.turn(0, FibreLoops.CROSS);
        x.light(0, 0, 1);
        x.light(1, 3, 2);
        x.light(1, 2, 3);
        x.save(0);
        x.feed(2, 1);
        x.feed(2, 2);
        x.ticks(3);
        x.set(FibreLoops.LOSS, 9);
        x.set(FibreLoops.LOSS, 8);
        x.undo();
        x.undo();
        x.feed(2, 7);
        x.put('t');
        return x;
    }

    /** As many loops, devices, joins, waiting values and characters as there can be; no slot is saved. */
    static FibreLoops full() {
        FibreLoops x = new FibreLoops();
        for (int loop = 0; loop < 5; loop++) {
            x.loop(4);
        }
        for (int device = 0; device < 12; device++) {
            x.device(device % 5, 3, device == 0 ? FibreLoops.FEEDER : FibreLoops.READER, 0, 0);
        }
        for (int join = 0; join < 4; join++) {
            x.join(join, 0, join + 1, 0);
        }
        x.light(0, 0, 5);
        for (int i = 0; i < 12; i++) {
            x.feed(0, i);
        }
        for (int i = 0; i < 10; i++) {
            x.put(Texts.number("t1;t1;t1"));
        }
        return x;
    }

    /** Loops with flashes, devices of all kinds and joins that act, another lot of them by each number. */
    static FibreLoops busy(int number) {
        FibreLoops x = loops(3 + number % 20, 4 + number % 5, 6 + number % 7, 5);
        x.set(FibreLoops.READING, 10 * (number % 11));
        x.set(FibreLoops.RECOVER, 7 * (number % 13));
        x.set(FibreLoops.FRESH, 200 + 50 * (number % 17));
        x.device(0, number % 4, FibreLoops.FEEDER, 0, 0);
        x.device(1, number % 6, FibreLoops.AMPLIFIER, 20 + number % 90, 60 + 10 * (number % 30));
        x.device(1, number % 3, FibreLoops.READER, 0, 0);
        x.device(2, number % 5, FibreLoops.CHANGER, 1, 2 + number % 3);
        x.device(number % 3, 1, FibreLoops.CHANGER, 3, 1);
        x.device(number % 2, 3, FibreLoops.DROPPER, 4, 0);
        x.join(0, 2, 1, 4);
        x.join(1, 5, 2, number % 5);
        x.turn(0, number % 3);
        x.turn(1, 1 + number % 2);
        for (int i = 0; i < 6; i++) {
            x.light((number + i) % 3, (number * i) % 4, i % 5);
            x.feed(0, (number + i) % 5);
        }
        return x;
    }
}
