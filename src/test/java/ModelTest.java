/** Runs of calls that a fixed row of numbers picks, each answered by FibreLoops and by Model. */
public final class ModelTest {
    private static final int RUNS = 1500, CALLS = 512;
    private static final Due due = new Due("ModelTest");
    private static long row = 20261118;

    private FibreLoops x;
    private Model m;
    private int calls;
    private final int boldness;
    private final String run;

    public static void main(String[] args) {
        int runs = args.length > 1 ? Integer.parseInt(args[1]) : RUNS;
        for (int run = 0; run < runs && due.wrong() < 20; run++) {
            new ModelTest(run).play();
        }
        due.end();
    }

    private ModelTest(int number) {
        run = "run " + number;
        x = new FibreLoops();
        m = new Model();
        // Some runs are all orderly, some ask much that is wrong.
        boldness = pick(4) * 4;
    }

    private static int pick(int below) {
        row = row * 6364136223846793005L + 1442695040888963407L;
        return (int) ((row >>> 33) % below);
    }

    /** Mostly a number within these bounds, sometimes one at or past their edges. */
    private int number(int low, int high) {
        if (pick(100) < boldness) {
            int[] odd = {low - 1, high + 1, low, high, -1, 0, 1, Integer.MIN_VALUE, Integer.MAX_VALUE, pick(3000)};
            return odd[pick(odd.length)];
        }
        return low + pick(Math.max(1, high - low + 1));
    }

    private int someLoop() {
        return number(0, m.count(1) - 1);
    }

    private int somePlace(int loop) {
        return number(0, Math.max(1, m.ofLoop(loop, 0)) - 1);
    }

    private int someDevice() {
        return number(0, m.count(2) - 1);
    }

    private int someValue() {
        return number(0, pick(4) == 0 ? 99 : 5);
    }

    private void is(String call, long got, long want) {
        calls++;
        due.is(run + ", call " + calls + ": " + call, got, want);
    }

    private void play() {
        int wrongBefore = due.wrong();
        if (pick(3) > 0) {
            setUp();
        }
        while (calls < CALLS && due.wrong() == wrongBefore) {
            int kind = pick(100);
            if (kind < 45) {
                change(kind);
            } else if (kind < 70) {
                ask(pick(8));
            } else if (kind < 80) {
                forecast(pick(12));
            } else if (kind < 94) {
                text(pick(8));
            } else {
                goBack(pick(8));
            }
        }
    }

    private void setUp() {
        for (int i = 0; i < 2 + pick(4); i++) {
            loop();
        }
        for (int i = 0; i < 3 + pick(12); i++) {
            device();
        }
        for (int i = 0; i < pick(6); i++) {
            join();
            turn();
        }
    }

    private void loop() {
        int places = pick(2) == 0 ? number(4, 8) : number(4, 32);
        is("loop(" + places + ")", x.loop(places), m.loop(places));
    }

    private void device() {
        int[] most = {500, 0, 0, 99, 99};
        int loop = someLoop();
        int place = somePlace(loop);
        int kind = number(0, 4);
        boolean known = kind >= 0 && kind <= 4;
        int one = !known ? 0 : kind == 0 ? number(1, pick(2) == 0 ? 60 : 500) : kind >= 3 ? someValue() : number(0, most[kind]);
        int two = kind == 0 ? number(1, pick(2) == 0 ? 200 : 2000) : kind == 3 ? someValue() : number(0, 0);
        String call = "device(" + loop + ", " + place + ", " + kind + ", " + one + ", " + two + ")";
        is(call, x.device(loop, place, kind, one, two), m.device(loop, place, kind, one, two));
    }

    private void join() {
        int loop = someLoop();
        int place = somePlace(loop);
        int other = someLoop();
        int otherPlace = somePlace(other);
        String call = "join(" + loop + ", " + place + ", " + other + ", " + otherPlace + ")";
        is(call, x.join(loop, place, other, otherPlace), m.join(loop, place, other, otherPlace));
    }

    private void turn() {
        int join = number(0, m.count(3) - 1);
        int mode = number(0, 2);
        is("turn(" + join + ", " + mode + ")", x.turn(join, mode), m.turn(join, mode));
    }

    private void change(int kind) {
        if (kind < 3) {
            loop();
        } else if (kind < 7) {
            device();
        } else if (kind < 9) {
            join();
        } else if (kind < 12) {
            turn();
        } else if (kind < 15) {
            int setting = number(0, 3);
            int value = setting == 3 ? number(100, 1000) : pick(2) == 0 ? number(0, 10) : number(0, setting == 0 ? 50 : 200);
            is("set(" + setting + ", " + value + ")", x.set(setting, value), m.set(setting, value));
        } else if (kind < 24) {
            int device = someDevice();
            int value = someValue();
            is("feed(" + device + ", " + value + ")", x.feed(device, value), m.feed(device, value));
        } else if (kind < 33) {
            int loop = someLoop();
            int place = somePlace(loop);
            int value = someValue();
            is("light(" + loop + ", " + place + ", " + value + ")", x.light(loop, place, value), m.light(loop, place, value));
        } else {
            int ticks = pick(5) == 0 ? number(1, 200) : number(1, 9);
            is("ticks(" + ticks + ")", x.ticks(ticks), m.ticks(ticks));
        }
    }

    private void ask(int kind) {
        int loop = someLoop();
        int place = somePlace(loop);
        int device = someDevice();
        int what = number(0, 8);
        switch (kind) {
            case 0: {
                int w = number(0, 3);
                is("at(" + loop + ", " + place + ", " + w + ")", x.at(loop, place, w), m.at(loop, place, w));
                break;
            }
            case 1: is("ofLoop(" + loop + ", " + what + ")", x.ofLoop(loop, what), m.ofLoop(loop, what)); break;
            case 2: {
                int w = number(0, 6);
                is("ofDevice(" + device + ", " + w + ")", x.ofDevice(device, w), m.ofDevice(device, w));
                break;
            }
            case 3: is("noted(" + device + ", " + what + ")", x.noted(device, what), m.noted(device, what)); break;
            case 4: {
                int j = number(0, m.count(3) - 1);
                int w = number(0, 5);
                is("ofJoin(" + j + ", " + w + ")", x.ofJoin(j, w), m.ofJoin(j, w));
                break;
            }
            case 5: {
                int value = someValue();
                int w = number(0, 2);
                is("find(" + value + ", " + w + ")", x.find(value, w), m.find(value, w));
                break;
            }
            case 6: {
                int w = number(0, 13);
                is("count(" + w + ")", x.count(w), m.count(w));
                break;
            }
            default: compareAll();
        }
    }

    /** Every number that can be asked for: one step of the run, however many answers. */
    private void compareAll() {
        int callsBefore = calls;
        for (int what = 0; what <= 13; what++) {
            is("count(" + what + ")", x.count(what), m.count(what));
        }
        for (int loop = 0; loop < m.count(1); loop++) {
            for (int what = 0; what <= 8; what++) {
                is("ofLoop(" + loop + ", " + what + ")", x.ofLoop(loop, what), m.ofLoop(loop, what));
            }
            for (int place = 0; place < m.ofLoop(loop, 0); place++) {
                for (int what = 0; what <= 3; what++) {
                    is("at(" + loop + ", " + place + ", " + what + ")", x.at(loop, place, what), m.at(loop, place, what));
                }
            }
        }
        for (int device = 0; device < m.count(2); device++) {
            for (int what = 0; what <= 6; what++) {
                is("ofDevice(" + device + ", " + what + ")", x.ofDevice(device, what), m.ofDevice(device, what));
            }
            for (int back = 0; back <= 8; back++) {
                is("noted(" + device + ", " + back + ")", x.noted(device, back), m.noted(device, back));
            }
        }
        for (int join = 0; join < m.count(3); join++) {
            for (int what = 0; what <= 5; what++) {
                is("ofJoin(" + join + ", " + what + ")", x.ofJoin(join, what), m.ofJoin(join, what));
            }
        }
        calls = callsBefore + 1;
    }

    private void forecast(int kind) {
        int loop = someLoop();
        int place = somePlace(loop);
        int ticks = number(1, 200);
        if (kind < 5) {
            is("valueIn(" + loop + ", " + place + ", " + ticks + ")", x.valueIn(loop, place, ticks), m.valueIn(loop, place, ticks));
        } else if (kind < 8) {
            is("leftIn(" + ticks + ")", x.leftIn(ticks), m.leftIn(ticks));
        } else if (kind < 10) {
            is("firstLoss()", x.firstLoss(), m.firstLoss());
        } else if (kind < 11) {
            int gain = number(1, 500);
            int store = number(1, 2000);
            int what = number(0, 1);
            String call = "bestPlace(" + loop + ", " + gain + ", " + store + ", " + what + ")";
            is(call, x.bestPlace(loop, gain, store, what), m.bestPlace(loop, gain, store, what));
        } else {
            is("bearable()", x.bearable(), m.bearable());
        }
    }

    private String someOrder() {
        int loop = someLoop();
        switch (pick(4)) {
            case 0: {
                StringBuilder order = new StringBuilder("f").append(someDevice()).append(':').append(someValue());
                for (int more = pick(5); more > 0; more--) {
                    order.append(',').append(someValue());
                }
                return order.toString();
            }
            case 1: return "j" + number(0, m.count(3) - 1) + "=" + number(0, 2);
            case 2: return "l" + loop + ":" + somePlace(loop) + "=" + someValue();
            default: return "t" + number(1, pick(3) == 0 ? 200 : 9);
        }
    }

    private void put(String text) {
        for (int i = 0; i < text.length(); ) {
            int length = Math.min(text.length() - i, 1 + pick(8));
            long number = Texts.number(text.substring(i, i + length));
            is("put(" + text.substring(i, i + length) + ")", x.put(number), m.put(number));
            i += length;
        }
    }

    private void text(int kind) {
        if (kind == 0) {
            is("wipe()", x.wipe(), m.wipe());
        } else if (kind == 1) {
            is("fault()", x.fault(), m.fault());
        } else if (kind == 2) {
            long odd = ((long) pick(1 << 30) << 34) ^ ((long) pick(1 << 30) << 10) ^ pick(1 << 30);
            odd >>>= 8 * pick(8);
            is("put(" + odd + ")", x.put(odd), m.put(odd));
        } else if (kind == 3) {
            // One sign that most likely cannot stand there.
            put(";:=,0123456789fjltx".substring(pick(19)).substring(0, 1));
            is("fault()", x.fault(), m.fault());
        } else {
            int orders = 1 + pick(5);
            StringBuilder text = new StringBuilder();
            for (int i = 0; i < orders; i++) {
                text.append(i == 0 ? "" : ";").append(someOrder());
            }
            if (m.count(12) > 0) {
                is("wipe()", x.wipe(), m.wipe());
            }
            put(text.toString());
            is("fault() of " + text, x.fault(), m.fault());
            is("carryOut() of " + text, x.carryOut(), m.carryOut());
        }
    }

    private void goBack(int kind) {
        int slot = number(0, 1);
        if (kind < 3) {
            is("undo()", x.undo(), m.undo());
        } else if (kind < 6) {
            is("save(" + slot + ")", x.save(slot), m.save(slot));
        } else {
            is("restore(" + slot + ")", x.restore(slot), m.restore(slot));
        }
        compareAll();
    }
}
