/**
 * What an object answers to every question about what there is, in one text. It asks only about what there is,
 * since an object is used for 512 calls at most.
 */
final class Everything {
    private static final int ASKED_OF_COUNT = 12;

    private Everything() {
    }

    /** All but the pad and the history. */
    static String of(FibreLoops x) {
        StringBuilder text = new StringBuilder();
        for (int what = 0; what < ASKED_OF_COUNT; what++) {
            add(text, x.count(what));
        }
        for (int loop = 0; loop < x.count(1); loop++) {
            loop(text, x, loop);
        }
        for (int device = 0; device < x.count(2); device++) {
            device(text, x, device);
        }
        for (int join = 0; join < x.count(3); join++) {
            for (int what = 0; what <= 5; what++) {
                add(text, x.ofJoin(join, what));
            }
        }
        return text.toString();
    }

    /** All of it, and the pad and the history as far as count() and fault() tell of them. */
    static String withPadAndHistory(FibreLoops x) {
        StringBuilder text = new StringBuilder(of(x));
        add(text, x.count(12));
        add(text, x.count(13));
        add(text, x.fault());
        return text.toString();
    }

    private static void loop(StringBuilder text, FibreLoops x, int loop) {
        for (int what = 0; what <= 8; what++) {
            add(text, x.ofLoop(loop, what));
        }
        int places = x.ofLoop(loop, 0);
        for (int place = 0; place < places; place++) {
            int strength = x.at(loop, place, 1);
            add(text, strength);
            // What a flash is and since when is asked only where there is one.
            if (strength > 0) {
                add(text, x.at(loop, place, 0));
                add(text, x.at(loop, place, 2));
            }
        }
    }

    private static void device(StringBuilder text, FibreLoops x, int device) {
        for (int what = 0; what <= 6; what++) {
            add(text, x.ofDevice(device, what));
        }
        if (x.ofDevice(device, 0) == FibreLoops.READER) {
            int kept = x.ofDevice(device, 5);
            for (int back = 0; back < kept; back++) {
                add(text, x.noted(device, back));
            }
        }
    }

    private static void add(StringBuilder text, int number) {
        text.append(number).append(' ');
    }
}
