/** What a tick does: the terms of loops, flashes, devices and joins, and with them promise 9. */
public final class TickTest {
    private static final Due due = new Due("TickTest");

    public static void main(String[] args) {
        flashesMoveInARing();
        flashesBecomeFainter();
        flashesAreLost();
        amplifierStrengthens();
        amplifierTires();
        amplifierStopsAtTheTop();
        readerNotes();
        readerKeepsEight();
        readerLoses();
        feederPutsIn();
        feederWaits();
        changerChanges();
        dropperDrops();
        devicesActInTheirOrder();
        crossExchanges();
        mergeGoesOneWay();
        joinsActInTheirOrder();
        stepsComeInTheirOrder();
        crossingKeepsAges();
        aStrengthOfOneIsAFlash();
        asMuchAsThereCanBe();
        due.end();
    }

    private static FibreLoops withLoops(int loss, int... places) {
        FibreLoops x = new FibreLoops();
        x.set(FibreLoops.LOSS, loss);
        for (int p : places) {
            x.loop(p);
        }
        return x;
    }

    private static void flashesMoveInARing() {
        FibreLoops x = withLoops(1, 4, 32);
        x.light(0, 3, 30);
        x.light(0, 0, 31);
        x.light(1, 31, 40);
        x.light(1, 15, 41);
        x.ticks(1);
        due.is("from the last place", x.at(0, 0, 0), 30);
        due.is("from place 0", x.at(0, 1, 0), 31);
        due.is("left", x.at(0, 3, 0), FibreLoops.NONE);
        due.is("from the last place of 32", x.at(1, 0, 0), 40);
        due.is("from the middle of 32", x.at(1, 16, 0), 41);
        x.ticks(63);
        due.is("round by round of 4", x.at(0, 3, 0), 30);
        due.is("round by round of 32", x.at(1, 31, 0), 40);
    }

    private static void flashesBecomeFainter() {
        FibreLoops x = withLoops(50, 4);
        x.light(0, 0, 1);
        x.ticks(1);
        due.is("by LOSS", x.at(0, 1, 1), 550);
        x.set(FibreLoops.LOSS, 0);
        x.ticks(200);
        due.is("by none", x.at(0, 1, 1), 550);
        x.set(FibreLoops.LOSS, 7);
        x.ticks(3);
        due.is("by 7", x.at(0, 0, 1), 529);
    }

    private static void flashesAreLost() {
        FibreLoops x = withLoops(10, 4);
        x.set(FibreLoops.FRESH, 100);
        x.light(0, 0, 1);
        x.ticks(9);
        due.is("faint", x.at(0, 1, 1), 10);
        due.is("not lost", x.ofLoop(0, 5), 0);
        x.ticks(1);
        due.is("lost at 0", x.at(0, 2, 1), 0);
        due.is("no value", x.at(0, 2, 0), FibreLoops.NONE);
        due.is("lost", x.ofLoop(0, 5), 1);
        due.is("flashes", x.ofLoop(0, 1), 0);
        x.set(FibreLoops.LOSS, 33);
        x.light(0, 0, 1);
        x.ticks(3);
        due.is("strength 1", x.at(0, 3, 1), 1);
        x.ticks(1);
        due.is("lost below 0", x.at(0, 0, 1), 0);
        due.is("lost", x.count(6), 2);
    }

    private static void amplifierStrengthens() {
        FibreLoops x = withLoops(10, 4);
        x.set(FibreLoops.RECOVER, 0);
        x.device(0, 2, FibreLoops.AMPLIFIER, 30, 100);
        x.light(0, 1, 5);
        x.light(0, 3, 5);
        x.ticks(1);
        due.is("by the gain", x.at(0, 2, 1), 620);
        due.is("elsewhere not", x.at(0, 0, 1), 590);
        due.is("store", x.ofDevice(0, 5), 70);
        due.is("acts", x.ofDevice(0, 6), 1);
        x.ticks(1);
        due.is("no flash there: store", x.ofDevice(0, 5), 70);
        due.is("no flash there: acts", x.ofDevice(0, 6), 1);
        x.ticks(1);
        due.is("the next one", x.at(0, 2, 1), 600);
        x.ticks(2);
        due.is("store", x.ofDevice(0, 5), 10);
        x.ticks(2);
        due.is("by what the store holds", x.at(0, 2, 1), 570);
        due.is("empty", x.ofDevice(0, 5), 0);
        due.is("acts", x.ofDevice(0, 6), 4);
        x.ticks(2);
        due.is("by nothing", x.at(0, 2, 1), 570);
        due.is("acts, none by nothing", x.ofDevice(0, 6), 4);
    }

    private static void amplifierTires() {
        FibreLoops x = withLoops(0, 4);
        x.set(FibreLoops.RECOVER, 20);
        x.device(0, 2, FibreLoops.AMPLIFIER, 50, 60);
        x.light(0, 1, 5);
        x.ticks(1);
        due.is("store, recovered by 20", x.ofDevice(0, 5), 30);
        x.ticks(1);
        due.is("store, by 20 more", x.ofDevice(0, 5), 50);
        x.ticks(1);
        due.is("store, not above full", x.ofDevice(0, 5), 60);
        x.ticks(1);
        due.is("store, full", x.ofDevice(0, 5), 60);
        x.set(FibreLoops.RECOVER, 200);
        x.ticks(1);
        due.is("strength", x.at(0, 2, 1), 700);
        due.is("store, full at once", x.ofDevice(0, 5), 60);
    }

    private static void amplifierStopsAtTheTop() {
        FibreLoops x = withLoops(10, 4);
        x.set(FibreLoops.RECOVER, 0);
        x.set(FibreLoops.FRESH, 1000);
        x.device(0, 1, FibreLoops.AMPLIFIER, 500, 2000);
        x.light(0, 0, 5);
        x.ticks(1);
        due.is("strength", x.at(0, 1, 1), 1000);
        due.is("store, less by 10 alone", x.ofDevice(0, 5), 1990);
        due.is("acts", x.ofDevice(0, 6), 1);
        x.set(FibreLoops.LOSS, 0);
        x.ticks(4);
        due.is("strength", x.at(0, 1, 1), 1000);
        due.is("store, less by none", x.ofDevice(0, 5), 1990);
        due.is("acts, none by none", x.ofDevice(0, 6), 1);
    }

    private static void readerNotes() {
        FibreLoops x = withLoops(10, 4);
        x.device(0, 2, FibreLoops.READER, 0, 0);
        x.light(0, 0, 7);
        x.light(0, 1, 0);
        x.ticks(1);
        due.is("noted a 0", x.noted(0, 0), 0);
        due.is("one alone", x.noted(0, 1), FibreLoops.NONE);
        due.is("fainter by LOSS and READING", x.at(0, 2, 1), 550);
        due.is("elsewhere by LOSS", x.at(0, 1, 1), 590);
        x.ticks(2);
        due.is("noted the latest", x.noted(0, 0), 7);
        due.is("and the one ahead", x.noted(0, 1), 0);
        due.is("keeps", x.ofDevice(0, 5), 2);
        due.is("acts", x.ofDevice(0, 6), 2);
        x.set(FibreLoops.READING, 0);
        x.ticks(2);
        due.is("by LOSS alone now", x.at(0, 2, 1), 510);
        due.is("acts", x.ofDevice(0, 6), 3);
    }

    private static void readerKeepsEight() {
        FibreLoops x = withLoops(0, 12);
        x.set(FibreLoops.READING, 1);
        x.device(0, 0, FibreLoops.READER, 0, 0);
        for (int i = 0; i < 11; i++) {
            x.light(0, 11 - i, 20 + i);
        }
        x.ticks(8);
        due.is("keeps", x.ofDevice(0, 5), 8);
        for (int back = 0; back < 8; back++) {
            due.is("noted(0, " + back + ") of 8", x.noted(0, back), 27 - back);
        }
        x.ticks(3);
        due.is("keeps 8", x.ofDevice(0, 5), 8);
        for (int back = 0; back < 8; back++) {
            due.is("noted(0, " + back + ") of 11", x.noted(0, back), 30 - back);
        }
        due.is("noted(0, 8)", x.noted(0, 8), FibreLoops.NONE);
        due.is("acts", x.ofDevice(0, 6), 11);
    }

    private static void readerLoses() {
        FibreLoops x = withLoops(0, 4);
        x.set(FibreLoops.FRESH, 100);
        x.set(FibreLoops.READING, 50);
        x.device(0, 1, FibreLoops.READER, 0, 0);
        x.device(0, 1, FibreLoops.READER, 0, 0);
        x.device(0, 1, FibreLoops.READER, 0, 0);
        x.light(0, 0, 9);
        x.ticks(1);
        due.is("lost at 0", x.at(0, 1, 0), FibreLoops.NONE);
        due.is("lost", x.ofLoop(0, 5), 1);
        due.is("dropped", x.ofLoop(0, 6), 0);
        due.is("the second noted it yet", x.noted(1, 0), 9);
        due.is("the third found none", x.noted(2, 0), FibreLoops.NONE);
        due.is("acts of the third", x.ofDevice(2, 6), 0);
        x.set(FibreLoops.READING, 51);
        x.light(0, 0, 9);
        x.ticks(1);
        due.is("lost below 0", x.count(6), 2);
        due.is("strengths", x.ofLoop(0, 2), 0);
    }

    private static void feederPutsIn() {
        FibreLoops x = withLoops(10, 4);
        x.device(0, 1, FibreLoops.FEEDER, 0, 0);
        x.ticks(5);
        due.is("nothing waits: acts", x.ofDevice(0, 6), 0);
        x.feed(0, 3);
        x.feed(0, 4);
        due.is("not ahead of a tick", x.at(0, 1, 0), FibreLoops.NONE);
        x.ticks(1);
        due.is("the first value", x.at(0, 1, 0), 3);
        due.is("fresh", x.at(0, 1, 1), 600);
        due.is("one tick since", x.at(0, 1, 2), 1);
        due.is("waits", x.ofDevice(0, 5), 1);
        x.set(FibreLoops.FRESH, 700);
        x.ticks(1);
        due.is("the second value", x.at(0, 1, 0), 4);
        due.is("freshly set", x.at(0, 1, 1), 700);
        due.is("the first one moved", x.at(0, 2, 0), 3);
        due.is("two ticks since", x.at(0, 2, 2), 2);
        due.is("none waits", x.ofDevice(0, 5), 0);
        due.is("acts", x.ofDevice(0, 6), 2);
        due.is("put in", x.ofLoop(0, 4), 2);
        x.ticks(1);
        due.is("none more", x.at(0, 1, 0), FibreLoops.NONE);
    }

    private static void feederWaits() {
        FibreLoops x = withLoops(10, 4);
        x.device(0, 1, FibreLoops.FEEDER, 0, 0);
        x.light(0, 0, 8);
        x.feed(0, 3);
        x.ticks(1);
        due.is("a flash was there", x.at(0, 1, 0), 8);
        due.is("it waits", x.ofDevice(0, 5), 1);
        due.is("acts", x.ofDevice(0, 6), 0);
        x.ticks(1);
        due.is("then it comes", x.at(0, 1, 0), 3);
    }

    private static void changerChanges() {
        FibreLoops x = withLoops(10, 4);
        x.device(0, 1, FibreLoops.CHANGER, 8, 9);
        x.device(0, 2, FibreLoops.CHANGER, 9, 9);
        x.device(0, 3, FibreLoops.CHANGER, 8, 0);
        x.light(0, 0, 8);
        x.ticks(1);
        due.is("has the second value", x.at(0, 1, 0), 9);
        due.is("as strong as before", x.at(0, 1, 1), 590);
        due.is("as old as before", x.at(0, 1, 2), 1);
        due.is("acts", x.ofDevice(0, 6), 1);
        x.ticks(1);
        due.is("both the same", x.at(0, 2, 0), 9);
        due.is("acts by both the same", x.ofDevice(1, 6), 1);
        x.ticks(1);
        due.is("another value", x.at(0, 3, 0), 9);
        due.is("acts by another value", x.ofDevice(2, 6), 0);
        due.is("put in", x.count(5), 1);
    }

    private static void dropperDrops() {
        FibreLoops x = withLoops(10, 4);
        x.device(0, 1, FibreLoops.DROPPER, 0, 0);
        x.ticks(4);
        due.is("no flash is no 0", x.ofDevice(0, 6), 0);
        x.light(0, 0, 0);
        x.light(0, 3, 1);
        x.ticks(1);
        due.is("dropped", x.at(0, 1, 0), FibreLoops.NONE);
        due.is("dropped in it", x.ofLoop(0, 6), 1);
        due.is("lost in it", x.ofLoop(0, 5), 0);
        due.is("acts", x.ofDevice(0, 6), 1);
        x.ticks(1);
        due.is("another value stays", x.at(0, 1, 0), 1);
        due.is("dropped in all", x.count(7), 1);
    }

    private static void devicesActInTheirOrder() {
        FibreLoops x = withLoops(0, 4, 4);
        x.set(FibreLoops.RECOVER, 0);
        x.device(0, 1, FibreLoops.CHANGER, 1, 2);
        x.device(0, 1, FibreLoops.CHANGER, 2, 3);
        x.device(0, 1, FibreLoops.READER, 0, 0);
        x.device(0, 1, FibreLoops.DROPPER, 3, 0);
        x.device(0, 1, FibreLoops.FEEDER, 0, 0);
        x.device(0, 1, FibreLoops.AMPLIFIER, 10, 100);
        x.device(1, 1, FibreLoops.CHANGER, 2, 3);
        x.device(1, 1, FibreLoops.CHANGER, 1, 2);
        x.feed(4, 50);
        x.light(0, 0, 1);
        x.light(1, 0, 1);
        x.ticks(1);
        due.is("changed twice, then read", x.noted(2, 0), 3);
        due.is("dropped, and fed", x.at(0, 1, 0), 50);
        due.is("then amplified", x.at(0, 1, 1), 610);
        due.is("dropped", x.ofLoop(0, 6), 1);
        due.is("the other way about: once", x.at(1, 1, 0), 2);
    }

    private static void crossExchanges() {
        FibreLoops x = withLoops(10, 4, 5);
        x.join(0, 1, 1, 2);
        x.light(0, 0, 1);
        x.light(1, 1, 2);
        x.ticks(1);
        due.is("OFF: near", x.at(0, 1, 0), 1);
        due.is("OFF: far", x.at(1, 2, 0), 2);
        x.undo();
        x.turn(0, FibreLoops.CROSS);
        x.light(0, 3, 3);
        x.light(1, 4, 4);
        x.ticks(1);
        due.is("near", x.at(0, 1, 0), 2);
        due.is("far", x.at(1, 2, 0), 1);
        due.is("strength", x.at(1, 2, 1), 590);
        due.is("age", x.at(1, 2, 2), 1);
        due.is("through", x.ofJoin(0, 5), 2);
        x.ticks(1);
        due.is("one alone, to the far end", x.at(1, 2, 0), 3);
        due.is("none came back", x.at(0, 1, 0), FibreLoops.NONE);
        due.is("through", x.ofJoin(0, 5), 3);
        x.ticks(1);
        due.is("one alone, to the near end", x.at(1, 2, 0), FibreLoops.NONE);
        due.is("it came", x.at(0, 1, 0), 4);
        due.is("through", x.ofJoin(0, 5), 4);
        x.ticks(1);
        due.is("none through", x.ofJoin(0, 5), 4);
        due.is("came to near", x.ofLoop(0, 7), 2);
        due.is("went from near", x.ofLoop(0, 8), 2);
        due.is("came to far", x.ofLoop(1, 7), 2);
        due.is("went from far", x.ofLoop(1, 8), 2);
    }

    private static void mergeGoesOneWay() {
        FibreLoops x = withLoops(10, 4, 8);
        x.join(0, 1, 1, 2);
        x.turn(0, FibreLoops.MERGE);
        x.light(0, 0, 1);
        x.light(0, 3, 2);
        x.light(1, 1, 3);
        x.light(1, 7, 4);
        x.ticks(1);
        due.is("a flash is there: it stays", x.at(0, 1, 0), 1);
        due.is("and so does that one", x.at(1, 2, 0), 3);
        due.is("through", x.ofJoin(0, 5), 0);
        x.ticks(1);
        due.is("none is there: it goes", x.at(1, 2, 0), 2);
        due.is("with its strength", x.at(1, 2, 1), 580);
        due.is("with its age", x.at(1, 2, 2), 2);
        due.is("and is no longer near", x.at(0, 1, 0), FibreLoops.NONE);
        due.is("through", x.ofJoin(0, 5), 1);
        due.is("went from near", x.ofLoop(0, 8), 1);
        due.is("came to far", x.ofLoop(1, 7), 1);
        x.ticks(1);
        due.is("none comes back", x.at(1, 2, 0), 4);
        due.is("came to near", x.ofLoop(0, 7), 0);
        due.is("went from far", x.ofLoop(1, 8), 0);
        due.is("through", x.ofJoin(0, 5), 1);
        due.is("put in near", x.ofLoop(0, 4), 2);
        due.is("put in far", x.ofLoop(1, 4), 2);
    }

    private static void joinsActInTheirOrder() {
        FibreLoops x = withLoops(0, 4, 4, 4);
        x.join(0, 1, 1, 1);
        x.join(1, 1, 2, 1);
        x.join(2, 3, 1, 3);
        x.join(1, 3, 0, 3);
        for (int join = 0; join < 4; join++) {
            x.turn(join, FibreLoops.CROSS);
        }
        x.light(0, 0, 5);
        x.light(0, 2, 6);
        x.ticks(1);
        due.is("by the first and on by the second", x.at(2, 1, 0), 5);
        due.is("not by the third, which was ahead", x.at(1, 3, 0), 6);
        due.is("came to the middle", x.ofLoop(1, 7), 2);
        due.is("went from the middle", x.ofLoop(1, 8), 1);
    }

    private static void stepsComeInTheirOrder() {
        FibreLoops x = withLoops(10, 4, 4);
        x.set(FibreLoops.RECOVER, 5);
        x.set(FibreLoops.FRESH, 100);
        x.device(0, 1, FibreLoops.AMPLIFIER, 50, 50);
        x.device(1, 1, FibreLoops.READER, 0, 0);
        x.join(0, 1, 1, 1);
        x.turn(0, FibreLoops.MERGE);
        x.light(0, 3, 9);
        x.ticks(1);
        x.set(FibreLoops.LOSS, 50);
        x.ticks(1);
        due.is("fainter, stronger, over", x.at(1, 1, 1), 90);
        due.is("the reader had acted before", x.noted(1, 0), FibreLoops.NONE);
        due.is("the store recovers last", x.ofDevice(0, 5), 5);
        x.undo();
        x.set(FibreLoops.READING, 0);
        x.ticks(1);
        due.is("again", x.at(1, 1, 1), 90);
        x.undo();
        x.undo();
        x.set(FibreLoops.LOSS, 10);
        x.ticks(8);
        x.set(FibreLoops.LOSS, 50);
        x.ticks(4);
        due.is("lost before an amplifier can help", x.count(6), 1);
    }

    private static void crossingKeepsAges() {
        FibreLoops x = withLoops(10, 4, 4);
        x.join(0, 3, 1, 3);
        x.turn(0, FibreLoops.CROSS);
        x.light(0, 0, 1);
        x.ticks(1);
        x.light(1, 1, 2);
        x.ticks(2);
        due.is("near: value", x.at(0, 3, 0), 2);
        due.is("near: strength", x.at(0, 3, 1), 580);
        due.is("near: age", x.at(0, 3, 2), 2);
        due.is("far: value", x.at(1, 3, 0), 1);
        due.is("far: strength", x.at(1, 3, 1), 570);
        due.is("far: age", x.at(1, 3, 2), 3);
    }

    private static FibreLoops withAFaintOne() {
        FibreLoops x = withLoops(33, 4, 4);
        x.set(FibreLoops.FRESH, 100);
        x.light(0, 0, 7);
        x.ticks(3);
        x.set(FibreLoops.LOSS, 0);
        return x;
    }

    private static void aStrengthOfOneIsAFlash() {
        FibreLoops x = withAFaintOne();
        due.is("value", x.at(0, 3, 0), 7);
        due.is("strength", x.at(0, 3, 1), 1);
        due.is("age", x.at(0, 3, 2), 3);
        due.is("light() there", x.light(0, 3, 8), FibreLoops.NOT_POSSIBLE);
        due.is("flashes", x.ofLoop(0, 1), 1);
        due.is("faintest", x.ofLoop(0, 3), 1);
        due.is("flashes in all", x.count(4), 1);
        due.is("find()", x.find(7, 2), 1);
        x.join(0, 0, 1, 0);
        x.join(1, 0, 0, 0);
        x.turn(0, FibreLoops.CROSS);
        x.ticks(1);
        due.is("goes by CROSS to far", x.at(1, 0, 0), 7);
        due.is("through", x.ofJoin(0, 5), 1);
        x.ticks(4);
        due.is("comes by CROSS to near", x.at(0, 0, 0), 7);
        due.is("through", x.ofJoin(0, 5), 2);
        x.turn(0, FibreLoops.MERGE);
        x.ticks(4);
        due.is("goes by MERGE", x.at(1, 0, 0), 7);
        due.is("through", x.ofJoin(0, 5), 3);
        x.light(0, 0, 9);
        x.ticks(4);
        due.is("bars a MERGE", x.at(0, 0, 0), 9);
        due.is("through", x.ofJoin(0, 5), 3);
        x = withAFaintOne();
        x.device(0, 0, FibreLoops.AMPLIFIER, 1, 1);
        x.device(0, 0, FibreLoops.READER, 0, 0);
        x.device(0, 0, FibreLoops.FEEDER, 0, 0);
        x.feed(2, 5);
        x.set(FibreLoops.READING, 1);
        x.ticks(1);
        due.is("stronger by 1", x.ofDevice(0, 6), 1);
        due.is("read", x.noted(1, 0), 7);
        due.is("still there", x.at(0, 0, 1), 1);
        due.is("bars a feeder", x.ofDevice(2, 5), 1);
        x.set(FibreLoops.RECOVER, 0);
        x.set(FibreLoops.READING, 3);
        x.ticks(4);
        due.is("read again", x.noted(1, 1), 7);
        due.is("lost by 3", x.at(0, 0, 0), FibreLoops.NONE);
        due.is("the feeder found a place behind it", x.at(0, 3, 0), 5);
    }

    private static void asMuchAsThereCanBe() {
        FibreLoops x = withLoops(1, 32, 32, 32, 32, 32);
        x.set(FibreLoops.FRESH, 1000);
        for (int device = 0; device < 12; device++) {
            x.device(device % 5, 31, FibreLoops.FEEDER, 0, 0);
            for (int i = 0; i < 12; i++) {
                due.is("feed(" + device + ", " + i + ")", x.feed(device, i), i + 1);
            }
        }
        for (int join = 0; join < 4; join++) {
            x.join(join, 31, join + 1, 31);
            x.turn(join, FibreLoops.CROSS);
        }
        due.is("ticks(200)", x.ticks(200), 200);
        due.is("flashes", x.count(4), 144);
        due.is("put in", x.count(5), 144);
        int flashes = 0;
        for (int loop = 0; loop < 5; loop++) {
            int left = x.ofLoop(loop, 4) + x.ofLoop(loop, 7) - x.ofLoop(loop, 8);
            due.is("put in and came, less went, in " + loop, left, x.ofLoop(loop, 1));
            flashes += left;
        }
        due.is("flashes of the loops", flashes, 144);
        due.is("left", x.leftIn(200), 144);
        due.is("a full loop", x.ofLoop(4, 0), 32);
        due.is("first loss", x.firstLoss(), FibreLoops.NONE);
        due.is("bearable", x.bearable(), 8);
        due.is("TOO_MANY", x.bestPlace(4, 1, 1, 0), FibreLoops.TOO_MANY);
        due.is("undo()", x.undo(), 5);
        due.is("flashes", x.count(4), 0);
    }
}
