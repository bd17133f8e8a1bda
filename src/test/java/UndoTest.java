/** Promises 26 to 28. */
public final class UndoTest {
    private static final int LOWEST = Integer.MIN_VALUE, HIGHEST = Integer.MAX_VALUE;
    private static final Due due = new Due("UndoTest");

    public static void main(String[] args) {
        promise26UndoOfEachChange();
        promise26UndoBringsEverythingBack();
        promise26UndoOfSix();
        promise26UndoLeavesPadAndSlots();
        promise26ErrorsRecordNothing();
        promise26SameStatesAreRecorded();
        promise26UndoneLoopsComeBackEmpty();
        promise26ErrorsLeaveTheOldestState();
        promise26UndoneThingsAreMadeAnew();
        promise27Save();
        promise28Restore();
        promise28RestoreIsAChange();
        due.end();
    }

    private static FibreLoops world() {
        FibreLoops x = new FibreLoops();
        x.loop(4);
        x.loop(8);
        x.device(0, 1, FibreLoops.AMPLIFIER, 30, 60);
        x.device(0, 2, FibreLoops.READER, 0, 0);
        x.device(0, 3, FibreLoops.FEEDER, 0, 0);
        x.device(1, 1, FibreLoops.CHANGER, 1, 2);
        x.device(1, 5, FibreLoops.DROPPER, 2, 0);
        x.join(0, 0, 1, 0);
        x.turn(0, FibreLoops.CROSS);
        x.light(0, 0, 1);
        x.light(1, 3, 2);
        x.feed(2, 1);
        x.feed(2, 2);
        return x;
    }

    /** Everything that can be asked, in one text. */
    private static String all(FibreLoops x) {
        StringBuilder text = new StringBuilder();
        for (int what = 0; what <= 11; what++) {
            text.append(x.count(what)).append(' ');
        }
        for (int i = 0; i < 5; i++) {
            for (int what = 0; what <= 8; what++) {
                text.append(x.ofLoop(i, what)).append(' ');
            }
            for (int place = 0; place < 32; place++) {
                for (int what = 0; what <= 3; what++) {
                    text.append(x.at(i, place, what)).append(' ');
                }
            }
        }
        for (int i = 0; i < 12; i++) {
            for (int what = 0; what <= 8; what++) {
                text.append(x.ofDevice(i, what)).append(' ').append(x.ofJoin(i, what)).append(' ').append(x.noted(i, what)).append(' ');
            }
        }
        return text.toString();
    }

    private static int change(FibreLoops x, int kind) {
        switch (kind) {
            case 0: return x.set(FibreLoops.LOSS, 4);
            case 1: return x.set(FibreLoops.FRESH, 400);
            case 2: return x.loop(5);
            case 3: return x.device(1, 1, FibreLoops.CHANGER, 1, 2);
            case 4: return x.join(1, 4, 0, 2);
            case 5: return x.turn(0, FibreLoops.MERGE);
            case 6: return x.feed(2, 3);
            case 7: return x.light(1, 7, 44);
            case 8: return x.ticks(1);
            case 9: return x.ticks(50);
            case 10: return x.restore(1);
            default: Texts.put(x, "t3;l1:0=8;j0=0;f2:1,2");
                return x.carryOut();
        }
    }

    private static void promise26UndoOfEachChange() {
        for (int kind = 0; kind <= 11; kind++) {
            FibreLoops x = world();
            x.save(1);
            x.ticks(7);
            String before = all(x);
            due.holds("change " + kind + " is no error", change(x, kind) >= 0);
            String after = all(x);
            due.holds("change " + kind + " changes", !before.equals(after));
            due.is("undo() of change " + kind, x.undo(), 5);
            due.holds("undo() of change " + kind + " brings all back", before.equals(all(x)));
            change(x, kind);
            due.holds("change " + kind + " does the same again", after.equals(all(x)));
        }
    }

    private static void promise26UndoBringsEverythingBack() {
        FibreLoops x = world();
        String[] before = new String[6];
        int[] kinds = {9, 3, 8, 7, 2, 4};
        for (int i = 0; i < 6; i++) {
            before[i] = all(x);
            change(x, kinds[i]);
        }
        for (int i = 5; i >= 0; i--) {
            due.is("undo()", x.undo(), i);
            due.holds("as it was", before[i].equals(all(x)));
        }
        due.is("no more", x.undo(), FibreLoops.NOT_POSSIBLE);
        due.holds("as it was", before[0].equals(all(x)));
    }

    private static void promise26UndoOfSix() {
        FibreLoops x = new FibreLoops();
        due.is("undo() of none", x.undo(), FibreLoops.NOT_POSSIBLE);
        for (int i = 1; i <= 9; i++) {
            x.ticks(i);
            due.is("count(13)", x.count(13), Math.min(i, 6));
        }
        int[] ticks = {36, 28, 21, 15, 10, 6};
        for (int i = 0; i < 6; i++) {
            due.is("undo()", x.undo(), 5 - i);
            due.is("count(0)", x.count(0), ticks[i]);
            due.is("count(13)", x.count(13), 5 - i);
        }
        due.is("undo() of a seventh", x.undo(), FibreLoops.NOT_POSSIBLE);
        due.is("count(0)", x.count(0), 6);
        x.ticks(100);
        due.is("undo() is no change itself", x.undo(), 0);
        due.is("count(0)", x.count(0), 6);
        // Some undone, some done anew, and past six again.
        for (int i = 1; i <= 8; i++) {
            x.ticks(1);
        }
        x.undo();
        x.undo();
        for (int i = 1; i <= 4; i++) {
            x.ticks(10);
        }
        int[] then = {42, 32, 22, 12, 11, 10};
        for (int i = 0; i < 6; i++) {
            due.is("undo()", x.undo(), 5 - i);
            due.is("count(0)", x.count(0), then[i]);
        }
        due.is("undo() of a seventh", x.undo(), FibreLoops.NOT_POSSIBLE);
    }

    private static void promise26UndoLeavesPadAndSlots() {
        FibreLoops x = new FibreLoops();
        x.ticks(5);
        Texts.put(x, "t1");
        x.save(0);
        due.is("undo()", x.undo(), 0);
        due.is("the pad", x.count(12), 2);
        due.is("the fault", x.fault(), FibreLoops.NONE);
        due.is("the slot", x.restore(0), 5);
        x.wipe();
        due.is("undo()", x.undo(), 0);
        due.is("the pad stays wiped", x.count(12), 0);
        due.is("no pad to put in", x.undo(), FibreLoops.NOT_POSSIBLE);
    }

    private static void promise26ErrorsRecordNothing() {
        FibreLoops x = world();
        while (x.count(13) > 0) {
            x.undo();
        }
        String before = all(x);
        x.set(0, 51);
        x.loop(3);
        x.device(0, 0, 9, 0, 0);
        x.join(0, 0, 0, 0);
        x.turn(9, 0);
        x.feed(0, 0);
        x.light(9, 0, 0);
        x.ticks(0);
        x.carryOut();
        x.restore(0);
        x.restore(2);
        x.undo();
        due.is("count(13)", x.count(13), 0);
        due.holds("as it was", before.equals(all(x)));
        // Neither do the calls that are no changes.
        x.put('t');
        x.wipe();
        x.fault();
        x.save(0);
        x.leftIn(5);
        due.is("count(13)", x.count(13), 0);
    }

    private static void promise26SameStatesAreRecorded() {
        FibreLoops x = new FibreLoops();
        x.set(FibreLoops.LOSS, 10);
        x.set(FibreLoops.LOSS, 10);
        due.is("count(13)", x.count(13), 2);
        x.save(0);
        x.restore(0);
        due.is("count(13)", x.count(13), 3);
        due.is("undo()", x.undo(), 2);
    }

    private static void promise26UndoneLoopsComeBackEmpty() {
        FibreLoops x = new FibreLoops();
        x.loop(4);
        x.light(0, 0, 1);
        x.device(0, 1, FibreLoops.READER, 0, 0);
        x.ticks(1);
        x.undo();
        x.undo();
        x.undo();
        x.undo();
        due.is("loops", x.count(1), 0);
        due.is("ofLoop(0, 0)", x.ofLoop(0, 0), FibreLoops.NO_SUCH);
        due.is("loop(6)", x.loop(6), 0);
        for (int what = 1; what <= 8; what++) {
            due.is("ofLoop(0, " + what + ")", x.ofLoop(0, what), 0);
        }
        due.is("device", x.device(0, 2, FibreLoops.READER, 0, 0), 0);
        due.is("noted(0, 0)", x.noted(0, 0), FibreLoops.NONE);
        due.is("acts", x.ofDevice(0, 6), 0);
        due.is("place", x.ofDevice(0, 2), 2);
    }

    private static void promise26ErrorsLeaveTheOldestState() {
        FibreLoops x = new FibreLoops();
        for (int changes = 1; changes <= 14; changes++) {
            x.set(FibreLoops.FRESH, 500 + changes);
            due.is("an error", x.set(FibreLoops.FRESH, 1), FibreLoops.BAD_VALUE);
            due.is("another", x.loop(1), FibreLoops.BAD_VALUE);
        }
        for (int i = 1; i <= 6; i++) {
            due.is("undo()", x.undo(), 6 - i);
            due.is("count(11)", x.count(11), 514 - i);
            due.is("an error", x.set(FibreLoops.FRESH, 1), FibreLoops.BAD_VALUE);
        }
    }

    private static void promise26UndoneThingsAreMadeAnew() {
        FibreLoops x = new FibreLoops();
        x.set(FibreLoops.LOSS, 0);
        x.loop(4);
        x.loop(4);
        x.loop(8);
        x.save(1);
        x.device(0, 1, FibreLoops.READER, 0, 0);
        x.join(0, 1, 1, 2);
        x.turn(0, FibreLoops.CROSS);
        x.light(0, 0, 1);
        x.ticks(3);
        String first = all(x);
        x.save(0);
        x.restore(1);
        x.device(1, 3, FibreLoops.FEEDER, 0, 0);
        x.join(2, 7, 0, 3);
        due.is("OFF again", x.ofJoin(0, 4), FibreLoops.OFF);
        due.is("none went through", x.ofJoin(0, 5), 0);
        due.is("none waits", x.ofDevice(0, 5), 0);
        due.is("it did nothing", x.ofDevice(0, 6), 0);
        due.is("its first value", x.feed(0, 50), 1);
        due.is("no flash", x.count(4), 0);
        due.is("forecast of the new ones", x.valueIn(1, 3, 1), 50);
        String second = all(x);
        x.save(1);
        x.restore(0);
        due.holds("the first ones", first.equals(all(x)));
        due.is("forecast of the first ones", x.valueIn(1, 1, 1), 1);
        due.is("forecast by the first join", x.valueIn(0, 1, 2), 1);
        x.undo();
        due.holds("the second ones", second.equals(all(x)));
        x.restore(0);
        x.restore(1);
        due.holds("the second ones", second.equals(all(x)));
        // Loops too: what was in one that was undone is not in its next.
        x = new FibreLoops();
        x.save(0);
        x.loop(32);
        x.join(0, 0, 1, 0);
        for (int place = 0; place < 32; place++) {
            x.light(0, place, place);
        }
        x.device(0, 1, FibreLoops.DROPPER, 1, 0);
        x.ticks(5);
        x.restore(0);
        x.loop(20);
        for (int what = 0; what <= 8; what++) {
            due.is("ofLoop(0, " + what + ")", x.ofLoop(0, what), what == 0 ? 20 : 0);
        }
        due.is("flashes", x.count(4), 0);
        due.is("forecast", x.leftIn(1), 0);
        due.is("lost", x.count(6), 0);
    }

    private static void promise27Save() {
        FibreLoops x = world();
        int[] bad = {-1, 2, LOWEST, HIGHEST};
        for (int slot : bad) {
            due.is("save(" + slot + ")", x.save(slot), FibreLoops.BAD_VALUE);
        }
        due.is("save(0)", x.save(0), 0);
        x.ticks(12);
        due.is("save(1)", x.save(1), 12);
        due.is("count(13)", x.count(13), 6);
        String twelve = all(x);
        x.ticks(8);
        due.is("restore(0)", x.restore(0), 0);
        due.is("restore(1)", x.restore(1), 12);
        due.holds("as it was", twelve.equals(all(x)));
        x.ticks(3);
        due.is("save(1) over it", x.save(1), 15);
        x.ticks(3);
        due.is("restore(1)", x.restore(1), 15);
        due.is("restore(0)", x.restore(0), 0);
    }

    private static void promise28Restore() {
        FibreLoops x = world();
        int[] bad = {-1, 2, LOWEST, HIGHEST};
        for (int slot : bad) {
            due.is("restore(" + slot + ")", x.restore(slot), FibreLoops.BAD_VALUE);
        }
        due.is("restore(0) of none", x.restore(0), FibreLoops.NOT_POSSIBLE);
        x.save(1);
        due.is("restore(0) of none yet", x.restore(0), FibreLoops.NOT_POSSIBLE);
        String before = all(x);
        for (int kind = 0; kind <= 11; kind++) {
            change(x, kind);
            due.is("restore(1)", x.restore(1), 0);
            due.holds("as it was", before.equals(all(x)));
        }
        x.ticks(200);
        x.restore(1);
        x.ticks(200);
        due.is("the slot keeps it", x.restore(1), 0);
        due.holds("as it was", before.equals(all(x)));
    }

    private static void promise28RestoreIsAChange() {
        FibreLoops x = new FibreLoops();
        x.ticks(4);
        x.save(0);
        x.ticks(5);
        Texts.put(x, "t1;");
        due.is("restore(0)", x.restore(0), 4);
        due.is("the pad stays", x.count(12), 3);
        due.is("the history stays", x.count(13), 3);
        due.is("undo()", x.undo(), 2);
        due.is("count(0)", x.count(0), 9);
        due.is("undo()", x.undo(), 1);
        due.is("count(0)", x.count(0), 4);
        due.is("undo()", x.undo(), 0);
        due.is("count(0)", x.count(0), 0);
    }
}
