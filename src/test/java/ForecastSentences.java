/** The sentences of the promises 17 to 21. */
final class ForecastSentences {
    private static final int LEAST = Integer.MIN_VALUE, GREATEST = Integer.MAX_VALUE;
    private static final int WORLDS = 40;
    private final Sentences s;

    ForecastSentences(Sentences s) {
        this.s = s;
    }

    void all() {
        promise17();
        promise18();
        promise19();
        promise19Played();
        promise20();
        promise20Played();
        promise20Errors();
        promise21();
        promise21Played();
    }

    /** Lets more than 200 ticks pass, if need be. */
    private static void pass(FibreLoops x, int ticks) {
        int left = ticks;
        while (left > 0) {
            int now = Math.min(left, 200);
            x.ticks(now);
            left -= now;
        }
    }

    // ---- valueIn

    private void promise17() {
        s.under("Promise 17: valueIn");
        s.says("`int valueIn(int loop, int place, int ticks)`: Tells which value is at a place after some ticks, if nothing else is"
            + " done.");
        for (int ticks = 1; ticks <= 200; ticks++) {
            valueInIsAsPlayed(Worlds.busy(ticks), ticks);
        }
        for (int number = 0; number < WORLDS; number++) {
            valueInIsAsPlayed(Worlds.busy(number), 1 + number % 9);
        }
        s.isNoChange("valueIn(1, 4, 200)", Worlds::small, x -> x.valueIn(1, 4, 200));
        s.isNoChange("valueIn(0, 0, 1)", Worlds::small, x -> x.valueIn(0, 0, 1));
        s.says("`ticks`: 1 to 200");
        int[] bad = {LEAST, -200, -1, 0, 201, GREATEST};
        for (int ticks : bad) {
            s.refuses("valueIn(0, 0, " + ticks + ")", Worlds::small, x -> x.valueIn(0, 0, ticks), FibreLoops.BAD_VALUE);
        }
        FibreLoops x = Worlds.loops(5, 4);
        x.set(FibreLoops.FRESH, 1000);
        x.light(0, 0, 0);
        s.is("in 1: a value of 0", x.valueIn(0, 1, 1), 0);
        s.is("in 1: where it was", x.valueIn(0, 0, 1), FibreLoops.NONE);
        s.is("in 199: a value of 0", x.valueIn(0, 3, 199), 0);
        s.is("in 200: lost", x.valueIn(0, 0, 200), FibreLoops.NONE);
        x.set(FibreLoops.LOSS, 4);
        s.is("in 200: not lost", x.valueIn(0, 0, 200), 0);
        s.says("Returns the value; NO_SUCH if there is no such loop or place; BAD_VALUE if ticks is out of range; NONE if there is"
            + " none.");
        int[][] nowhere = {{-1, 0}, {2, 0}, {LEAST, 0}, {GREATEST, 0}, {0, -1}, {0, 4}, {1, 5}, {0, LEAST}, {0, GREATEST}};
        int[] ticksOfThem = {LEAST, 0, 1, 200, 201};
        FibreLoops small = Worlds.small();
        for (int[] w : nowhere) {
            for (int ticks : ticksOfThem) {
                s.is("valueIn(" + w[0] + ", " + w[1] + ", " + ticks + ")", small.valueIn(w[0], w[1], ticks), FibreLoops.NO_SUCH);
            }
        }
        s.is("without loops", new FibreLoops().valueIn(0, 0, 1), FibreLoops.NO_SUCH);
        FibreLoops y = Worlds.loops(0, 4, 32);
        s.is("the last place of the first, without flashes", y.valueIn(0, 3, 200), FibreLoops.NONE);
        s.is("the last place of the last, without flashes", y.valueIn(1, 31, 1), FibreLoops.NONE);
        y.light(1, 30, 99);
        s.is("the last place of the last, a value of 99", y.valueIn(1, 31, 1), 99);
        s.is("place 0 behind it", y.valueIn(1, 0, 2), 99);
    }

    private void valueInIsAsPlayed(FibreLoops x, int ticks) {
        int[][] told = new int[3][];
        for (int loop = 0; loop < 3; loop++) {
            told[loop] = new int[x.ofLoop(loop, 0)];
            for (int place = 0; place < told[loop].length; place++) {
                told[loop][place] = x.valueIn(loop, place, ticks);
            }
        }
        x.ticks(ticks);
        for (int loop = 0; loop < 3; loop++) {
            for (int place = 0; place < told[loop].length; place++) {
                String call = "valueIn(" + loop + ", " + place + ", " + ticks + "), as played";
                s.is(call, told[loop][place], x.at(loop, place, 0));
            }
        }
    }

    // ---- leftIn

    private void promise18() {
        s.under("Promise 18: leftIn");
        s.says("`int leftIn(int ticks)`: Tells how many flashes there are after some ticks, if nothing else is done.");
        for (int ticks = 1; ticks <= 200; ticks++) {
            FibreLoops x = Worlds.busy(ticks * 3);
            int told = x.leftIn(ticks);
            x.ticks(ticks);
            s.is("leftIn(" + ticks + "), as played", told, x.count(4));
        }
        s.isNoChange("leftIn(200)", Worlds::small, x -> x.leftIn(200));
        s.is("without loops", new FibreLoops().leftIn(200), 0);
        s.is("without flashes", Worlds.loops(0, 4).leftIn(1), 0);
        FibreLoops full = Worlds.loops(0, 32, 32, 32, 32, 32);
        for (int i = 0; i < 160; i++) {
            full.light(i / 32, i % 32, i % 100);
        }
        s.is("with a flash at each place of all loops", full.leftIn(200), 160);
        s.says("`ticks`: 1 to 200");
        int[] bad = {LEAST, -200, -1, 0, 201, GREATEST};
        for (int ticks : bad) {
            s.refuses("leftIn(" + ticks + ")", Worlds::small, x -> x.leftIn(ticks), FibreLoops.BAD_VALUE);
        }
        FibreLoops x = Worlds.loops(5, 4);
        x.set(FibreLoops.FRESH, 1000);
        x.light(0, 0, 0);
        s.is("leftIn(199) of 1000 by 5", x.leftIn(199), 1);
        s.is("leftIn(200) of 1000 by 5", x.leftIn(200), 0);
        x.set(FibreLoops.LOSS, 4);
        s.is("leftIn(200) of 1000 by 4", x.leftIn(200), 1);
        s.says("Returns how many; BAD_VALUE if ticks is out of range.");
        FibreLoops y = Worlds.loops(50, 4, 4);
        y.set(FibreLoops.FRESH, 100);
        y.light(0, 0, 1);
        y.set(FibreLoops.FRESH, 150);
        y.light(1, 0, 1);
        y.light(1, 1, 1);
        int[] left = {3, 2, 0, 0};
        for (int ticks = 1; ticks <= 4; ticks++) {
            s.is("leftIn(" + ticks + ")", y.leftIn(ticks), left[ticks - 1]);
        }
        s.is("leftIn(0), when there are flashes", y.leftIn(0), FibreLoops.BAD_VALUE);
        s.is("leftIn(0), without loops", new FibreLoops().leftIn(0), FibreLoops.BAD_VALUE);
        s.is("leftIn(201), without loops", new FibreLoops().leftIn(201), FibreLoops.BAD_VALUE);
    }

    // ---- firstLoss

    private void promise19() {
        s.under("Promise 19: firstLoss");
        s.says("`int firstLoss()`: Tells after how many ticks a flash is lost for the first time, if nothing else is done.");
        for (int number = 0; number < WORLDS; number++) {
            firstLossIsAsPlayed(Worlds.busy(number));
        }
        s.isNoChange("firstLoss()", Worlds::small, FibreLoops::firstLoss);
        FibreLoops x = Worlds.loops(10, 4);
        x.light(0, 0, 5);
        s.is("of 600 by 10", x.firstLoss(), 60);
        x.set(FibreLoops.FRESH, 100);
        x.light(0, 1, 5);
        s.is("with a fainter one", x.firstLoss(), 10);
        x.ticks(10);
        s.is("lost so far", x.count(6), 1);
        s.is("not what was lost so far", x.firstLoss(), 50);
        x.device(0, 0, FibreLoops.DROPPER, 5, 0);
        s.is("dropped ones are not lost", x.firstLoss(), FibreLoops.NONE);
        x = Worlds.loops(0, 4);
        x.set(FibreLoops.READING, 200);
        x.device(0, 1, FibreLoops.READER, 0, 0);
        x.light(0, 0, 5);
        s.is("lost by a reader", x.firstLoss(), 9);
        x = Worlds.loops(10, 4);
        x.device(0, 0, FibreLoops.FEEDER, 0, 0);
        x.feed(0, 1);
        s.is("of one that still waits", x.firstLoss(), 61);
        s.says("Returns how many ticks, 1 to 300; NONE if it is not so within 300 ticks.");
        s.is("without loops", new FibreLoops().firstLoss(), FibreLoops.NONE);
        s.is("without flashes", Worlds.loops(10, 4).firstLoss(), FibreLoops.NONE);
        for (int fresh = 890; fresh <= 910; fresh++) {
            int due = fresh > 900 ? FibreLoops.NONE : (fresh + 2) / 3;
            s.is("of " + fresh + " by 3", lit(3, fresh).firstLoss(), due);
        }
        s.is("of 299 by 1", lit(1, 299).firstLoss(), 299);
        s.is("of 300 by 1", lit(1, 300).firstLoss(), 300);
        s.is("of 301 by 1", lit(1, 301).firstLoss(), FibreLoops.NONE);
        s.is("of 301 by 0", lit(0, 301).firstLoss(), FibreLoops.NONE);
        FibreLoops y = lit(50, 100);
        y.ticks(1);
        s.is("in the next tick", y.firstLoss(), 1);
        y = lit(1, 301);
        y.ticks(1);
        s.is("of 301 by 1, a tick later", y.firstLoss(), 300);
    }

    private static FibreLoops lit(int loss, int fresh) {
        FibreLoops x = Worlds.loops(loss, 4);
        x.set(FibreLoops.FRESH, fresh);
        x.light(0, 0, 5);
        return x;
    }

    private void firstLossIsAsPlayed(FibreLoops x) {
        int told = x.firstLoss();
        int before = x.count(6);
        if (told == FibreLoops.NONE) {
            pass(x, 300);
            s.is("no loss within 300 ticks, as played", x.count(6), before);
            return;
        }
        s.holds(told + " is 1 to 300", told >= 1 && told <= 300);
        pass(x, told - 1);
        s.is("no loss ahead of tick " + told + ", as played", x.count(6), before);
        x.ticks(1);
        s.holds("a loss in tick " + told + ", as played", x.count(6) > before);
    }

    private void promise19Played() {
        for (int number = 0; number < WORLDS; number++) {
            FibreLoops x = Worlds.busy(number);
            x.ticks(5 + number);
            firstLossIsAsPlayed(x);
        }
    }

    // ---- bestPlace

    private void promise20() {
        s.under("Promise 20: bestPlace");
        s.says("`int bestPlace(int loop, int gain, int store, int what)`: Finds the place of a loop with which, if one more amplifier"
            + " was made there now, there would be the most flashes, in all loops, after 100 ticks; of several the lowest one.");
        FibreLoops x = Worlds.loops(0, 8);
        best(x, "without flashes", 1, 1, 0, 0);
        x.light(0, 3, 5);
        best(x, "each place the same", 1, 1, 0, 1);
        // 600 by 6 are lost in the hundredth tick, and any 1 more brings a flash past that.
        x = Worlds.loops(6, 8);
        x.set(FibreLoops.RECOVER, 0);
        x.light(0, 0, 5);
        best(x, "past tick 100 by 1", 1, 1, 0, 1);
        x.undo();
        x.set(FibreLoops.FRESH, 599);
        x.light(0, 0, 5);
        best(x, "lost in tick 100 all the same", 1, 1, 0, 0);
        best(x, "past tick 100 by 2", 2, 2, 0, 1);
        // Lost in the fourth tick, at place 6: no help comes from the places 0 to 2, and from 6 on.
        x = Worlds.loops(50, 8);
        x.set(FibreLoops.FRESH, 200);
        x.set(FibreLoops.RECOVER, 200);
        x.light(0, 2, 5);
        best(x, "the lowest of three", 500, 2000, 3, 1);
        x.device(0, 3, FibreLoops.DROPPER, 9, 0);
        best(x, "with a device there", 500, 2000, 3, 1);
        x.loop(4);
        x.light(1, 0, 5);
        x.set(FibreLoops.LOSS, 0);
        s.is("of the other loop: place", x.bestPlace(1, 500, 2000, 0), 0);
        s.is("in all loops: flashes", x.bestPlace(1, 500, 2000, 1), 2);
        s.is("in all loops, by a place of another: flashes", x.bestPlace(0, 500, 2000, 1), 2);
        lastPlaceIsBest();
        eachPlaceDoesHarm();
        s.isNoChange("bestPlace(1, 500, 2000, 0)", Worlds::small, y -> y.bestPlace(1, 500, 2000, 0));
        s.isNoChange("bestPlace(0, 1, 1, 1)", Worlds::small, y -> y.bestPlace(0, 1, 1, 1));
    }

    private void lastPlaceIsBest() {
        FibreLoops x = Worlds.loops(50, 32, 4);
        x.set(FibreLoops.RECOVER, 200);
        x.join(0, 31, 1, 0);
        x.turn(0, FibreLoops.MERGE);
        x.device(1, 3, FibreLoops.AMPLIFIER, 500, 2000);
        // In the fourth tick it comes to the amplifier of the other loop, if it has more than 4 times 50.
        x.set(FibreLoops.FRESH, 201);
        x.light(0, 30, 5);
        best(x, "saved in the other loop by itself", 1, 1, 0, 1);
        x.undo();
        x.set(FibreLoops.FRESH, 200);
        x.light(0, 30, 5);
        best(x, "saved there by the last place alone", 1, 1, 31, 1);
        x.undo();
        x.set(FibreLoops.FRESH, 199);
        x.light(0, 30, 5);
        best(x, "not saved by too small a gain", 1, 2, 0, 0);
        best(x, "not saved by too small a store", 2, 1, 0, 0);
    }

    /** With no more amplifier there would be more flashes than with one at any place; yet a place is answered. */
    private void eachPlaceDoesHarm() {
        FibreLoops x = Worlds.loops(5, 4, 12);
        x.set(FibreLoops.RECOVER, 0);
        x.set(FibreLoops.FRESH, 100);
        x.device(1, 1, FibreLoops.AMPLIFIER, 200, 400);
        x.light(0, 2, 5);
        x.ticks(15);
        // It has 25 now. With 1 more it comes over the join to the amplifier there, and takes what another one needs.
        x.join(0, 1, 1, 0);
        x.turn(0, FibreLoops.MERGE);
        x.set(FibreLoops.FRESH, 350);
        x.light(1, 7, 6);
        x.light(1, 6, 7);
        s.is("without one more: flashes", x.leftIn(100), 2);
        best(x, "with one more that does harm", 1, 1, 0, 1);
    }

    private void best(FibreLoops x, String what, int gain, int store, int place, int flashes) {
        s.is(what + ": place", x.bestPlace(0, gain, store, 0), place);
        s.is(what + ": flashes", x.bestPlace(0, gain, store, 1), flashes);
    }

    private void promise20Played() {
        for (int number = 0; number < WORLDS; number++) {
            for (int loop = 0; loop < 3; loop++) {
                bestPlaceIsAsPlayed(number, loop, 1 + 37 * number % 500, 1 + 61 * number % 2000);
            }
        }
    }

    private void bestPlaceIsAsPlayed(int number, int loop, int gain, int store) {
        int best = -1;
        int most = -1;
        int places = Worlds.busy(number).ofLoop(loop, 0);
        for (int place = 0; place < places; place++) {
            FibreLoops x = Worlds.busy(number);
            x.device(loop, place, FibreLoops.AMPLIFIER, gain, store);
            x.ticks(100);
            if (x.count(4) > most) {
                most = x.count(4);
                best = place;
            }
        }
        FibreLoops x = Worlds.busy(number);
        String call = "bestPlace(" + loop + ", " + gain + ", " + store + ", ";
        s.is(call + "0), as played", x.bestPlace(loop, gain, store, 0), best);
        s.is(call + "1), as played", x.bestPlace(loop, gain, store, 1), most);
    }

    private void promise20Errors() {
        s.says("`gain`: 1 to 500");
        oneArgument("gain", 1, 500, 0);
        s.says("`store`: its full store, 1 to 2000");
        oneArgument("store", 1, 2000, 1);
        s.says("`what`: 0 the place, 1 how many flashes there are then");
        oneArgument("what", 0, 1, 2);
        FibreLoops x = Worlds.loops(0, 4);
        x.light(0, 1, 5);
        x.light(0, 2, 5);
        s.is("what 0", x.bestPlace(0, 1, 1, 0), 0);
        s.is("what 1", x.bestPlace(0, 1, 1, 1), 2);
        s.says("Returns the number; NO_SUCH if there is no such loop; BAD_VALUE if another argument is out of range; TOO_MANY if there"
            + " are 12 devices.");
        int[] none = {LEAST, -1, 2, 5, GREATEST};
        for (int loop : none) {
            s.refuses("bestPlace(" + loop + ", 1, 1, 0)", Worlds::small, y -> y.bestPlace(loop, 1, 1, 0), FibreLoops.NO_SUCH);
            s.is("bestPlace(" + loop + ", 0, 0, 2)", Worlds.small().bestPlace(loop, 0, 0, 2), FibreLoops.NO_SUCH);
        }
        s.is("without loops", new FibreLoops().bestPlace(0, 1, 1, 0), FibreLoops.NO_SUCH);
        for (int i = 0; i < 12; i++) {
            s.is("with " + i + " devices", x.bestPlace(0, 1, 1, 1), 2);
            x.device(0, 0, FibreLoops.FEEDER, 0, 0);
        }
        s.is("with 12 devices: what 0", x.bestPlace(0, 1, 1, 0), FibreLoops.TOO_MANY);
        s.is("with 12 devices: what 1", x.bestPlace(0, 1, 1, 1), FibreLoops.TOO_MANY);
        s.is("with 12 devices: what 2", x.bestPlace(0, 1, 1, 2), FibreLoops.BAD_VALUE);
        s.is("with 12 devices: loop 1", x.bestPlace(1, 1, 1, 0), FibreLoops.NO_SUCH);
        x.undo();
        s.is("with 11 devices again", x.bestPlace(0, 1, 1, 1), 2);
    }

    private void oneArgument(String name, int low, int high, int which) {
        int[] values = {LEAST, low - 2, low - 1, low, high, high + 1, GREATEST};
        for (int value : values) {
            boolean good = value >= low && value <= high;
            FibreLoops x = Worlds.loops(0, 4);
            int gain = which == 0 ? value : 1;
            int store = which == 1 ? value : 1;
            int what = which == 2 ? value : 0;
            s.is(name + " " + value, x.bestPlace(0, gain, store, what), good ? 0 : FibreLoops.BAD_VALUE);
        }
    }

    // ---- bearable

    private void promise21() {
        s.under("Promise 21: bearable");
        s.says("`int bearable()`: Finds the greatest LOSS, 0 to 50, with which no flash is lost within 100 ticks, if nothing else is"
            + " done.");
        s.is("600", lit(10, 600).bearable(), 5);
        s.is("601", lit(10, 601).bearable(), 6);
        s.is("1000", lit(10, 1000).bearable(), 9);
        s.is("100, lost in tick 100 by 1", lit(10, 100).bearable(), 0);
        s.is("101, not lost in tick 100 by 1", lit(10, 101).bearable(), 1);
        s.is("whatever LOSS is", lit(50, 600).bearable(), 5);
        s.is("whatever LOSS is", lit(0, 600).bearable(), 5);
        FibreLoops x = lit(10, 1000);
        x.set(FibreLoops.FRESH, 300);
        x.light(0, 2, 6);
        s.is("the fainter one of two", x.bearable(), 2);
        x.device(0, 3, FibreLoops.DROPPER, 6, 0);
        s.is("the other one is dropped in time", x.bearable(), 9);
        x.set(FibreLoops.FRESH, 100);
        x.light(0, 1, 6);
        s.is("another one is dropped two ticks later", x.bearable(), 9);
        s.is("LOSS stays", x.count(8), 10);
        s.isNoChange("bearable()", Worlds::small, FibreLoops::bearable);
        s.says("Returns the setting; NONE if there is none.");
        s.is("without loops", new FibreLoops().bearable(), 50);
        s.is("without flashes", Worlds.loops(7, 4).bearable(), 50);
        FibreLoops y = Worlds.loops(7, 4);
        y.device(0, 1, FibreLoops.READER, 0, 0);
        y.light(0, 0, 5);
        s.is("lost by a reader, even by a LOSS of 0", y.bearable(), FibreLoops.NONE);
        y.set(FibreLoops.READING, 24);
        s.is("lost by a reader, 25 times 24", y.bearable(), FibreLoops.NONE);
        y.set(FibreLoops.READING, 23);
        s.is("not lost by a reader, by 0", y.bearable(), 0);
        y.set(FibreLoops.READING, 19);
        s.is("not lost by a reader, by 1", y.bearable(), 1);
        y.set(FibreLoops.READING, 40);
        y.device(0, 2, FibreLoops.DROPPER, 5, 0);
        s.is("the greatest of all", y.bearable(), 50);
        FibreLoops z = Worlds.loops(0, 4);
        z.set(FibreLoops.READING, 6);
        z.set(FibreLoops.FRESH, 150);
        z.device(0, 1, FibreLoops.READER, 0, 0);
        z.light(0, 0, 5);
        s.is("lost by a reader in tick 97", z.bearable(), FibreLoops.NONE);
        z.undo();
        z.light(0, 1, 5);
        s.is("lost by a reader in tick 100", z.bearable(), FibreLoops.NONE);
        z.undo();
        z.ticks(1);
        z.set(FibreLoops.FRESH, 151);
        z.light(0, 1, 5);
        s.is("not lost by a reader in tick 100", z.bearable(), 0);
    }

    private void promise21Played() {
        for (int number = 0; number < WORLDS; number++) {
            int greatest = FibreLoops.NONE;
            for (int loss = 0; loss <= 50; loss++) {
                FibreLoops x = Worlds.busy(number);
                x.set(FibreLoops.LOSS, loss);
                int before = x.count(6);
                x.ticks(100);
                greatest = x.count(6) == before ? loss : greatest;
            }
            s.is("bearable(), as played", Worlds.busy(number).bearable(), greatest);
        }
    }
}
