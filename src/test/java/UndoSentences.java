/** The sentences of the promises 26 to 28. */
final class UndoSentences {
    private static final int LEAST = Integer.MIN_VALUE, GREATEST = Integer.MAX_VALUE;
    private static final int CHANGES = 12;
    private final Sentences s;

    UndoSentences(Sentences s) {
        this.s = s;
    }

    void all() {
        promise26();
        promise26History();
        promise26Errors();
        promise26Orders();
        promise26Returns();
        promise27();
        promise27Slots();
        promise28();
        promise28Slots();
    }

    /** One method that is a change, by its number; none of them is an error in the small world. */
    private static int change(FibreLoops x, int number) {
        switch (number) {
            case 0: return x.set(FibreLoops.LOSS, 4);
            case 1: return x.set(FibreLoops.FRESH, 400);
            case 2: return x.loop(5);
            case 3: return x.device(1, 1, FibreLoops.CHANGER, 1, 2);
            case 4: return x.join(1, 4, 0, 2);
            case 5: return x.turn(0, FibreLoops.MERGE);
            case 6: return x.feed(2, 3);
            case 7: return x.light(0, 1, 44);
            case 8: return x.ticks(1);
            case 9: return x.ticks(50);
            case 10: return x.restore(0);
            default:
                x.wipe();
                Texts.put(x, "t3;l1:0=8;j0=0;f2:1,2");
                return x.carryOut();
        }
    }

    private static String name(int number) {
        return "change " + number;
    }

    // ---- undo

    private void promise26() {
        s.under("Promise 26: undo");
        s.says("`int undo()`: Undoes the latest change: everything except the pad, the slots and the history is as it was before it.");
        for (int number = 0; number < CHANGES; number++) {
            int which = number;
            s.isAChange(name(number), Worlds::small, x -> change(x, which));
            theSameAgain(number);
        }
        FibreLoops x = new FibreLoops();
        x.ticks(5);
        Texts.put(x, "t1");
        x.save(0);
        x.undo();
        s.is("the pad stays: length", x.count(12), 2);
        s.is("the pad stays: fault", x.fault(), FibreLoops.NONE);
        s.is("the slot stays", x.restore(0), 5);
        x.save(1);
        x.wipe();
        x.undo();
        s.is("the pad stays empty", x.count(12), 0);
        s.is("the other slot stays", x.restore(1), 5);
        x.undo();
        s.is("the history is not as it was", x.undo(), FibreLoops.NOT_POSSIBLE);
        x.ticks(1);
        x.save(0);
        x.ticks(2);
        x.undo();
        s.is("what was saved ahead of it stays saved", x.restore(0), 1);
    }

    /** After an undo() the same change does the same. */
    private void theSameAgain(int number) {
        FibreLoops x = Worlds.small();
        int answer = change(x, number);
        int strengths = x.ofLoop(0, 2);
        x.undo();
        s.is(name(number) + ", again", change(x, number), answer);
        s.is(name(number) + ", again: strengths", x.ofLoop(0, 2), strengths);
    }

    private void promise26History() {
        s.says("A history of at most 6 states is kept: each method that is a change, and returns no error, records the state before"
            + " it (also if nothing is different then); when one more is recorded, the oldest one is dropped.");
        FibreLoops x = new FibreLoops();
        for (int i = 1; i <= 9; i++) {
            x.ticks(i);
            s.is("after " + i + " changes", x.count(13), Math.min(i, 6));
        }
        int[] ticks = {36, 28, 21, 15, 10, 6};
        for (int i = 0; i < 6; i++) {
            s.is("undo() " + i, x.undo(), 5 - i);
            s.is("the tick then", x.count(0), ticks[i]);
        }
        s.is("a seventh", x.undo(), FibreLoops.NOT_POSSIBLE);
        s.is("the tick then", x.count(0), 6);
        // Six changes, all of which can be undone; then one more, by which the first can not.
        for (int changes = 5; changes <= 7; changes++) {
            FibreLoops y = new FibreLoops();
            for (int i = 0; i < changes; i++) {
                y.set(FibreLoops.LOSS, 20 + i);
            }
            for (int i = 0; i < Math.min(changes, 6); i++) {
                y.undo();
            }
            s.is("the first state of " + changes + " changes", y.count(8), changes > 6 ? 20 : 10);
            s.is("one more undo() of " + changes + " changes", y.undo(), FibreLoops.NOT_POSSIBLE);
        }
        nothingIsDifferent();
        pastSixAgain();
    }

    private void nothingIsDifferent() {
        FibreLoops x = Worlds.loops(10, 4, 4);
        x.join(0, 0, 1, 0);
        x.save(0);
        while (x.count(13) > 0) {
            x.undo();
        }
        x.restore(0);
        s.is("set to what it is", x.set(FibreLoops.LOSS, 10), 10);
        s.is("recorded", x.count(13), 2);
        s.is("turn to what it is", x.turn(0, FibreLoops.OFF), FibreLoops.OFF);
        s.is("recorded", x.count(13), 3);
        s.is("restore what is there", x.restore(0), 0);
        s.is("recorded", x.count(13), 4);
        Texts.put(x, "t0");
        s.is("no order carried out", x.carryOut(), 0);
        s.is("recorded", x.count(13), 5);
    }

    private void pastSixAgain() {
        FibreLoops x = new FibreLoops();
        for (int i = 1; i <= 8; i++) {
            x.ticks(1);
        }
        x.undo();
        x.undo();
        for (int i = 1; i <= 4; i++) {
            x.ticks(10);
        }
        int[] then = {36, 26, 16, 6, 5, 4};
        for (int i = 0; i < 6; i++) {
            s.is("past six again: undo()", x.undo(), 5 - i);
            s.is("past six again: the tick", x.count(0), then[i]);
        }
        s.is("past six again: a seventh", x.undo(), FibreLoops.NOT_POSSIBLE);
    }

    private void promise26Errors() {
        FibreLoops x = Worlds.small();
        while (x.count(13) > 0) {
            x.undo();
        }
        int[] answers = {
            x.set(0, 51), x.set(4, 0), x.loop(3), x.device(0, 0, 9, 0, 0), x.device(9, 0, 1, 0, 0), x.join(0, 0, 0, 0), x.turn(9, 0),
            x.turn(0, 3), x.feed(0, 0), x.feed(2, 100), x.light(9, 0, 0), x.light(0, 0, 100), x.ticks(0), x.ticks(201), x.carryOut(),
            x.restore(1), x.restore(2), x.undo(),
        };
        for (int i = 0; i < answers.length; i++) {
            s.holds("call " + i + " is an error", answers[i] <= -1 && answers[i] >= -5);
        }
        s.is("errors record nothing", x.count(13), 0);
        int[] noChanges = {
            x.put('t'), x.fault(), x.wipe(), x.save(0), x.save(1), x.at(0, 0, 0), x.ofLoop(0, 0), x.ofDevice(0, 0), x.noted(1, 0),
            x.ofJoin(0, 0), x.find(1, 0), x.count(0), x.valueIn(0, 0, 9), x.leftIn(9), x.firstLoss(), x.bestPlace(0, 1, 1, 0),
            x.bearable(),
        };
        for (int i = 0; i < noChanges.length; i++) {
            s.holds("call " + i + " is no error", noChanges[i] >= 0 || noChanges[i] == FibreLoops.NONE);
        }
        s.is("what is no change records nothing", x.count(13), 0);
        // An error when the history is full drops nothing of it.
        FibreLoops y = new FibreLoops();
        for (int i = 0; i < 6; i++) {
            y.ticks(1);
            y.ticks(0);
        }
        y.ticks(0);
        y.loop(3);
        for (int i = 5; i >= 0; i--) {
            s.is("after errors: undo()", y.undo(), i);
            s.is("after errors: the tick", y.count(0), i);
        }
        for (int i = 0; i < 20; i++) {
            y.ticks(1);
            y.ticks(0);
            y.turn(0, 0);
        }
        for (int i = 5; i >= 0; i--) {
            s.is("after errors of a full history: undo()", y.undo(), i);
            s.is("after errors of a full history: the tick", y.count(0), 14 + i);
            y.ticks(0);
        }
    }

    private void promise26Orders() {
        s.says("An order of a text records nothing by itself.");
        String[] texts = {"t1", "t1;t1", "t1;t1;t1;t1;t1;t1;t1;t1", "l0:0=1;l0:1=1;f0:1,2,3;j0=1;t9", "t1;t1;t0"};
        for (String text : texts) {
            FibreLoops x = Worlds.loops(10, 4, 4);
            x.device(0, 2, FibreLoops.FEEDER, 0, 0);
            x.join(0, 3, 1, 3);
            x.undo();
            int before = x.count(13);
            Texts.put(x, text);
            x.carryOut();
            s.is("'" + text + "': count(13)", x.count(13), before + 1);
            s.is("'" + text + "': undo()", x.undo(), before);
            s.is("'" + text + "': the tick", x.count(0), 0);
            s.is("'" + text + "': flashes", x.count(4), 0);
            s.is("'" + text + "': undo() of the change ahead of it", x.undo(), before - 1);
            s.is("'" + text + "': devices then", x.count(2), 0);
        }
    }

    private void promise26Returns() {
        s.says("Returns how many changes can be undone then; NOT_POSSIBLE if there is none.");
        s.is("of a new object", new FibreLoops().undo(), FibreLoops.NOT_POSSIBLE);
        for (int changes = 1; changes <= 8; changes++) {
            FibreLoops x = new FibreLoops();
            for (int i = 0; i < changes; i++) {
                x.ticks(1);
            }
            for (int left = Math.min(changes, 6) - 1; left >= 0; left--) {
                s.is("of " + changes, x.undo(), left);
                s.is("as count(13) tells", x.count(13), left);
            }
            s.is("of none", x.undo(), FibreLoops.NOT_POSSIBLE);
            s.is("of none, again", x.undo(), FibreLoops.NOT_POSSIBLE);
            s.is("the tick", x.count(0), Math.max(changes - 6, 0));
            x.ticks(1);
            s.is("of one more", x.undo(), 0);
        }
    }

    // ---- save

    private void promise27() {
        s.under("Promise 27: save");
        s.says("`int save(int slot)`: Saves everything except the pad, the history and the slots in a slot, and overwrites what was"
            + " saved there.");
        for (int number = 0; number < CHANGES; number++) {
            FibreLoops x = Worlds.small();
            x.wipe();
            change(x, number);
            String then = Everything.of(x);
            x.save(1);
            x.ticks(200);
            x.loop(7);
            x.restore(1);
            s.holds("what was there after " + name(number), then.equals(Everything.of(x)));
        }
        FibreLoops x = new FibreLoops();
        Texts.put(x, "t1");
        x.ticks(1);
        x.save(0);
        x.wipe();
        x.ticks(1);
        x.ticks(1);
        s.is("restore(0)", x.restore(0), 1);
        s.is("not the pad", x.count(12), 0);
        s.is("not the history", x.count(13), 4);
        x.save(1);
        x.ticks(1);
        x.save(0);
        x.restore(1);
        s.is("not the slots", x.restore(0), 2);
        for (int slot = 0; slot <= 1; slot++) {
            int other = 1 - slot;
            FibreLoops y = new FibreLoops();
            y.save(other);
            for (int tick = 1; tick <= 3; tick++) {
                y.ticks(1);
                s.is("save(" + slot + ") over it", y.save(slot), tick);
                s.is("restore(" + slot + ")", y.restore(slot), tick);
            }
            s.is("restore(" + other + ")", y.restore(other), 0);
            s.is("restore(" + slot + ")", y.restore(slot), 3);
        }
    }

    private void promise27Slots() {
        s.says("`slot`: 0 or 1");
        int[] bad = {LEAST, -1, 2, GREATEST};
        for (int slot : bad) {
            s.refuses("save(" + slot + ")", Worlds::small, x -> x.save(slot), FibreLoops.BAD_VALUE);
            s.is("save(" + slot + ") of a new object", new FibreLoops().save(slot), FibreLoops.BAD_VALUE);
        }
        s.says("Returns the tick; BAD_VALUE if there is no such slot.");
        FibreLoops x = new FibreLoops();
        s.is("save(0) of a new object", x.save(0), 0);
        s.is("save(1) of a new object", x.save(1), 0);
        x.ticks(200);
        s.is("save(0)", x.save(0), 200);
        x.ticks(1);
        s.is("save(1)", x.save(1), 201);
        s.is("save(0)", x.save(0), 201);
        s.is("save() is no change", x.count(13), 2);
        x.undo();
        s.is("save(0) after undo()", x.save(0), 200);
        FibreLoops y = Worlds.full();
        String before = Everything.withPadAndHistory(y);
        y.save(0);
        s.holds("save(0) changes nothing else", before.equals(Everything.withPadAndHistory(y)));
    }

    // ---- restore

    private void promise28() {
        s.under("Promise 28: restore");
        s.says("`int restore(int slot)`: Restores what was saved last in a slot, which keeps it.");
        FibreLoops x = Worlds.small();
        x.ticks(2);
        x.save(1);
        String then = Everything.of(x);
        x.ticks(100);
        x.loop(9);
        x.device(2, 8, FibreLoops.READER, 0, 0);
        x.join(2, 0, 0, 0);
        x.set(FibreLoops.FRESH, 777);
        s.is("restore(1)", x.restore(1), 5);
        s.holds("all as it was saved", then.equals(Everything.of(x)));
        x.ticks(200);
        s.is("restore(1) again", x.restore(1), 5);
        x.ticks(200);
        x.restore(0);
        s.is("restore(1) once more", x.restore(1), 5);
        s.holds("the slot keeps it", then.equals(Everything.of(x)));
        x = new FibreLoops();
        x.ticks(3);
        x.save(0);
        x.ticks(4);
        x.save(0);
        s.is("what was saved last", x.restore(0), 7);
        // A smaller state over a greater one, and the greater one over that.
        x = Worlds.full();
        x.save(1);
        FibreLoops empty = new FibreLoops();
        empty.save(0);
        empty.loop(32);
        empty.light(0, 31, 5);
        empty.save(1);
        s.is("to a state without loops", empty.restore(0), 0);
        s.is("its loops", empty.count(1), 0);
        s.is("its flashes", empty.count(4), 0);
        s.is("its place 31", empty.at(0, 31, 0), FibreLoops.NO_SUCH);
        s.is("and back", empty.restore(1), 0);
        s.is("its place 31", empty.at(0, 31, 0), 5);
        s.says("This is a change.");
        s.isAChange("restore(0)", Worlds::small, y -> y.restore(0));
        FibreLoops z = new FibreLoops();
        z.ticks(4);
        z.save(0);
        z.ticks(5);
        Texts.put(z, "t1;");
        s.is("restore(0)", z.restore(0), 4);
        s.is("the pad stays", z.count(12), 3);
        s.is("recorded", z.count(13), 3);
        s.is("undo()", z.undo(), 2);
        s.is("the tick ahead of it", z.count(0), 9);
    }

    private void promise28Slots() {
        s.says("`slot`: 0 or 1");
        int[] bad = {LEAST, -1, 2, GREATEST};
        for (int slot : bad) {
            s.refuses("restore(" + slot + ")", Worlds::small, x -> x.restore(slot), FibreLoops.BAD_VALUE);
            s.is("restore(" + slot + ") of a new object", new FibreLoops().restore(slot), FibreLoops.BAD_VALUE);
        }
        s.says("Returns the tick then; BAD_VALUE if there is no such slot; NOT_POSSIBLE if nothing was saved in it.");
        for (int slot = 0; slot <= 1; slot++) {
            int other = 1 - slot;
            FibreLoops x = new FibreLoops();
            s.is("restore(" + slot + ") of none", x.restore(slot), FibreLoops.NOT_POSSIBLE);
            x.ticks(6);
            x.save(other);
            s.is("restore(" + slot + ") when the other was saved", x.restore(slot), FibreLoops.NOT_POSSIBLE);
            x.ticks(2);
            x.save(slot);
            s.is("restore(" + other + ")", x.restore(other), 6);
            s.is("restore(" + slot + ")", x.restore(slot), 8);
            s.is("the tick", x.count(0), 8);
            x.save(other);
            x.save(-1);
            s.is("restore(" + other + ")", x.restore(other), 8);
        }
        s.refuses("restore(1) of none", Worlds::small, x -> x.restore(1), FibreLoops.NOT_POSSIBLE);
        s.refuses("restore(0) of none", Worlds::full, x -> x.restore(0), FibreLoops.NOT_POSSIBLE);
    }
}
