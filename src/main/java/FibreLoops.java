/**
 * Loops of glass fibre in which flashes of light keep circling.
 * What every call promises stands in the document; README.md says how to use the class.
 */
public final class FibreLoops {
    public static final int NO_SUCH = -1, BAD_VALUE = -2, BAD_TEXT = -3, TOO_MANY = -4, NOT_POSSIBLE = -5, NONE = -6;
    public static final int LOSS = 0, READING = 1, RECOVER = 2, FRESH = 3;
    public static final int AMPLIFIER = 0, READER = 1, FEEDER = 2, CHANGER = 3, DROPPER = 4;
    public static final int OFF = 0, CROSS = 1, MERGE = 2;

    private static final int[] LOWEST_SETTING = {0, 0, 0, 100};
    private static final int[] HIGHEST_SETTING = {50, 200, 200, 1000};
    private static final int[] FIRST_SETTING = {10, 40, 20, 600};

    private static final int MOST_LOOPS = 5, MOST_DEVICES = 12, MOST_JOINS = 4;
    private static final int FEWEST_PLACES = 4, MOST_PLACES = 32;
    private static final int HIGHEST_VALUE = 99, HIGHEST_STRENGTH = 1000;
    private static final int HIGHEST_GAIN = 500, HIGHEST_STORE = 2000;
    private static final int MOST_WAITING = 12, MOST_NOTED = 8;
    private static final int MOST_TICKS = 200, MOST_TICKS_TO_LOSS = 300, TICKS_OF_A_TRIAL = 100;
    private static final int MOST_SIGNS = 80, LOWEST_SIGN = 33, HIGHEST_SIGN = 126, SIGNS_OF_A_LONG = 8;
    private static final int MOST_UNDONE = 6, SLOTS = 2;

    // What a loop counts, in the order in which ofLoop() tells it from 4 on.
    private static final int PUT_IN = 0, LOST = 1, DROPPED = 2, CAME = 3, WENT = 4, TALLIES = 5;

    private final State now = new State();
    // All forecasts are played on this one state, so that no call makes a new one.
    private final State trial = new State();
    private final History history = new History();
    private final State[] slots = new State[SLOTS];
    private final boolean[] filled = new boolean[SLOTS];
    private final Pad pad = new Pad();
    private final OrderReader orders = new OrderReader(pad);

    public FibreLoops() {
        for (int slot = 0; slot < SLOTS; slot++) {
            slots[slot] = new State();
        }
    }

    // ---- setting up

    public int set(int setting, int value) {
        history.holdBack(now);
        return history.keepIfDone(now.changeSetting(setting, value));
    }

    public int loop(int places) {
        history.holdBack(now);
        return history.keepIfDone(now.addRing(places));
    }

    public int device(int loop, int place, int kind, int one, int two) {
        history.holdBack(now);
        return history.keepIfDone(now.addDevice(loop, place, kind, one, two));
    }

    public int join(int loop, int place, int other, int otherPlace) {
        history.holdBack(now);
        return history.keepIfDone(now.addJoin(loop, place, other, otherPlace));
    }

    public int turn(int join, int mode) {
        history.holdBack(now);
        return history.keepIfDone(now.turnJoin(join, mode));
    }

    public int feed(int device, int value) {
        history.holdBack(now);
        return history.keepIfDone(now.feedDevice(device, value));
    }

    public int light(int loop, int place, int value) {
        history.holdBack(now);
        return history.keepIfDone(now.lightFlash(loop, place, value));
    }

    public int ticks(int ticks) {
        history.holdBack(now);
        return history.keepIfDone(now.passTicks(ticks));
    }

    // ---- what there is

    public int at(int loop, int place, int what) {
        Ring ring = now.ringWith(loop, place);
        if (ring == null) {
            return NO_SUCH;
        }
        switch (what) {
            case 0: return ring.valueAt(place);
            case 1: return ring.strengthAt(place);
            case 2: return ring.strengthAt(place) > 0 ? now.tick - ring.birthAt(place) : NONE;
            case 3: return ring.places - place;
            default: return BAD_VALUE;
        }
    }

    public int ofLoop(int loop, int what) {
        Ring ring = now.ringOf(loop);
        if (ring == null) {
            return NO_SUCH;
        }
        switch (what) {
            case 0: return ring.places;
            case 1: return ring.flashes();
            case 2: return ring.strengthInAll();
            case 3: return ring.faintest();
            case 4: return ring.tally(PUT_IN);
            case 5: return ring.tally(LOST);
            case 6: return ring.tally(DROPPED);
            case 7: return ring.tally(CAME);
            case 8: return ring.tally(WENT);
            default: return BAD_VALUE;
        }
    }

    public int ofDevice(int device, int what) {
        Device asked = now.deviceOf(device);
        if (asked == null) {
            return NO_SUCH;
        }
        switch (what) {
            case 0: return asked.kind;
            case 1: return asked.ring;
            case 2: return asked.place;
            case 3: return asked.one;
            case 4: return asked.two;
            case 5: return asked.kind == AMPLIFIER ? asked.store : asked.kept;
            case 6: return asked.acts;
            default: return BAD_VALUE;
        }
    }

    public int noted(int device, int back) {
        Device reader = now.deviceOf(device);
        if (reader == null || reader.kind != READER) {
            return NO_SUCH;
        }
        return reader.keptAt(back);
    }

    public int ofJoin(int join, int what) {
        Join asked = now.joinOf(join);
        if (asked == null) {
            return NO_SUCH;
        }
        switch (what) {
            case 0: return asked.nearRing;
            case 1: return asked.nearPlace;
            case 2: return asked.farRing;
            case 3: return asked.farPlace;
            case 4: return asked.mode;
            case 5: return asked.passed;
            default: return BAD_VALUE;
        }
    }

    public int find(int value, int what) {
        if (!isValue(value) || !isBetween(what, 0, 2)) {
            return BAD_VALUE;
        }
        int firstRing = NONE;
        int firstPlace = NONE;
        int number = 0;
        for (int loop = 0; loop < now.ringCount; loop++) {
            Ring ring = now.ringOf(loop);
            if (ring == null) {
                continue;
            }
            for (int place = 0; place < ring.places; place++) {
                if (ring.valueAt(place) != value) {
                    continue;
                }
                if (number == 0) {
                    firstRing = loop;
                    firstPlace = place;
                }
                number++;
            }
        }
        if (number == 0) {
            return NONE;
        }
        return what == 0 ? firstRing : what == 1 ? firstPlace : number;
    }

    public int count(int what) {
        switch (what) {
            case 0: return now.tick;
            case 1: return now.ringCount;
            case 2: return now.deviceCount;
            case 3: return now.joinCount;
            case 4: return now.flashesInAll();
            case 5: return now.tallyInAll(PUT_IN);
            case 6: return now.tallyInAll(LOST);
            case 7: return now.tallyInAll(DROPPED);
            case 8: return now.setting(LOSS);
            case 9: return now.setting(READING);
            case 10: return now.setting(RECOVER);
            case 11: return now.setting(FRESH);
            case 12: return pad.length;
            case 13: return history.size;
            default: return BAD_VALUE;
        }
    }

    // ---- what if; nothing changes

    public int valueIn(int loop, int place, int ticks) {
        if (now.ringWith(loop, place) == null) {
            return NO_SUCH;
        }
        if (!isBetween(ticks, 1, MOST_TICKS)) {
            return BAD_VALUE;
        }
        trial.copyFrom(now);
        trial.passTicks(ticks);
        Ring then = trial.ringOf(loop);
        return then == null ? NONE : then.valueAt(place);
    }

    public int leftIn(int ticks) {
        if (!isBetween(ticks, 1, MOST_TICKS)) {
            return BAD_VALUE;
        }
        trial.copyFrom(now);
        trial.passTicks(ticks);
        return trial.flashesInAll();
    }

    public int firstLoss() {
        trial.copyFrom(now);
        return trial.ticksToLoss(MOST_TICKS_TO_LOSS);
    }

    public int bestPlace(int loop, int gain, int store, int what) {
        Ring ring = now.ringOf(loop);
        if (ring == null) {
            return NO_SUCH;
        }
        if (!fits(AMPLIFIER, gain, store) || !isBetween(what, 0, 1)) {
            return BAD_VALUE;
        }
        if (now.deviceCount >= MOST_DEVICES) {
            return TOO_MANY;
        }
        int best = 0;
        int most = -1;
        for (int place = 0; place < ring.places; place++) {
            trial.copyFrom(now);
            trial.addDevice(loop, place, AMPLIFIER, gain, store);
            trial.passTicks(TICKS_OF_A_TRIAL);
            int left = trial.flashesInAll();
            if (left > most) {
                most = left;
                best = place;
            }
        }
        return what == 0 ? best : most;
    }

    // From the greatest down, since a trial by a great LOSS ends soon, with its first lost flash.
    public int bearable() {
        for (int loss = HIGHEST_SETTING[LOSS]; loss >= LOWEST_SETTING[LOSS]; loss--) {
            trial.copyFrom(now);
            trial.changeSetting(LOSS, loss);
            if (trial.ticksToLoss(TICKS_OF_A_TRIAL) == NONE) {
                return loss;
            }
        }
        return NONE;
    }

    // ---- texts

    public int put(long characters) {
        int signs = signsIn(characters);
        if (signs == 0) {
            return BAD_VALUE;
        }
        if (pad.length + signs > MOST_SIGNS) {
            return TOO_MANY;
        }
        for (int behind = signs - 1; behind >= 0; behind--) {
            pad.append(signIn(characters, behind));
        }
        return pad.length;
    }

    public int wipe() {
        int before = pad.length;
        pad.clear();
        return before;
    }

    public int fault() {
        return orders.firstFault();
    }

    public int carryOut() {
        if (orders.firstFault() != NONE) {
            return BAD_TEXT;
        }
        history.holdBack(now);
        orders.goToStart();
        int done = 0;
        while (done < MOST_SIGNS && orders.readNext() && carryOrder()) {
            done++;
        }
        pad.clear();
        return history.keepIfDone(done);
    }

    /** Carries the order that was read last out; false if it returns an error. */
    private boolean carryOrder() {
        int first = orders.number(0);
        if (orders.letter == 'f') {
            return feedAll(first);
        }
        if (orders.letter == 'j') {
            return now.turnJoin(first, orders.number(1)) >= 0;
        }
        if (orders.letter == 'l') {
            return now.lightFlash(first, orders.number(1), orders.number(2)) >= 0;
        }
        return now.passTicks(first) >= 0;
    }

    private boolean feedAll(int device) {
        for (int i = 1; i < orders.numberCount; i++) {
            if (now.feedDevice(device, orders.number(i)) < 0) {
                return false;
            }
        }
        return true;
    }

    // ---- undo, saving

    public int undo() {
        State before = history.takeLatest();
        if (before == null) {
            return NOT_POSSIBLE;
        }
        now.copyFrom(before);
        return history.size;
    }

    public int save(int slot) {
        State saved = slotOf(slot);
        if (saved == null) {
            return BAD_VALUE;
        }
        saved.copyFrom(now);
        filled[slot] = true;
        return now.tick;
    }

    public int restore(int slot) {
        State saved = slotOf(slot);
        if (saved == null) {
            return BAD_VALUE;
        }
        if (!filled[slot]) {
            return NOT_POSSIBLE;
        }
        history.holdBack(now);
        now.copyFrom(saved);
        return history.keepIfDone(now.tick);
    }

    private State slotOf(int slot) {
        return isBetween(slot, 0, SLOTS - 1) ? slots[slot] : null;
    }

    // ---- small tools

    private static boolean isBetween(int number, int lowest, int highest) {
        return number >= lowest && number <= highest;
    }

    private static boolean isValue(int value) {
        return isBetween(value, 0, HIGHEST_VALUE);
    }

    /** Whether a device of this kind can have these two numbers; false too if there is no such kind. */
    private static boolean fits(int kind, int one, int two) {
        switch (kind) {
            case AMPLIFIER: return isBetween(one, 1, HIGHEST_GAIN) && isBetween(two, 1, HIGHEST_STORE);
            case READER:
            case FEEDER: return one == 0 && two == 0;
            case CHANGER: return isValue(one) && isValue(two);
            case DROPPER: return isValue(one) && two == 0;
            default: return false;
        }
    }

    private static char signIn(long characters, int behind) {
        return (char) ((characters >>> (8 * behind)) & 255);
    }

    /** How many characters such a number of put() has; 0 if it is not one. */
    private static int signsIn(long characters) {
        int signs = 0;
        while (signs < SIGNS_OF_A_LONG && isBetween(signIn(characters, signs), LOWEST_SIGN, HIGHEST_SIGN)) {
            signs++;
        }
        // A long shifted by 64 bits is not shifted at all, so 8 characters are told apart here.
        if (signs < SIGNS_OF_A_LONG && (characters >>> (8 * signs)) != 0) {
            return 0;
        }
        return signs;
    }

    private static void copyRow(int[] from, int[] to) {
        System.arraycopy(from, 0, to, 0, Math.min(from.length, to.length));
    }

    /** Moves each number of the row's used part on by one, and the last one to its start. */
    private static void turnRow(int[] row, int used) {
        if (used < 1 || used > row.length) {
            return;
        }
        int last = row[used - 1];
        System.arraycopy(row, 0, row, 1, used - 1);
        row[0] = last;
    }

    /** Everything that undo() and restore() bring back. */
    private static final class State {
        private final int[] settings = new int[FRESH + 1];
        private final Ring[] rings = new Ring[MOST_LOOPS];
        private final Device[] devices = new Device[MOST_DEVICES];
        private final Join[] joins = new Join[MOST_JOINS];
        private int tick;
        private int ringCount;
        private int deviceCount;
        private int joinCount;

        private State() {
            copyRow(FIRST_SETTING, settings);
            for (int i = 0; i < MOST_LOOPS; i++) {
                rings[i] = new Ring();
            }
            for (int i = 0; i < MOST_DEVICES; i++) {
                devices[i] = new Device();
            }
            for (int i = 0; i < MOST_JOINS; i++) {
                joins[i] = new Join();
            }
        }

        // What stands behind the counts is left as it is: begin() clears it before it is used.
        private void copyFrom(State other) {
            copyRow(other.settings, settings);
            tick = other.tick;
            ringCount = other.ringCount;
            deviceCount = other.deviceCount;
            joinCount = other.joinCount;
            for (int i = 0; i < ringCount; i++) {
                rings[i].copyFrom(other.rings[i]);
            }
            for (int i = 0; i < deviceCount; i++) {
                devices[i].copyFrom(other.devices[i]);
            }
            for (int i = 0; i < joinCount; i++) {
                joins[i].copyFrom(other.joins[i]);
            }
        }

        private Ring ringOf(int loop) {
            return loop >= 0 && loop < ringCount ? rings[loop] : null;
        }

        /** The loop if it has this place too; null otherwise. */
        private Ring ringWith(int loop, int place) {
            Ring ring = ringOf(loop);
            return ring != null && ring.has(place) ? ring : null;
        }

        private Device deviceOf(int device) {
            return device >= 0 && device < deviceCount ? devices[device] : null;
        }

        private Join joinOf(int join) {
            return join >= 0 && join < joinCount ? joins[join] : null;
        }

        private int setting(int setting) {
            return isBetween(setting, LOSS, FRESH) ? settings[setting] : 0;
        }

        private int changeSetting(int setting, int value) {
            if (!isBetween(setting, LOSS, FRESH)) {
                return BAD_VALUE;
            }
            if (!isBetween(value, LOWEST_SETTING[setting], HIGHEST_SETTING[setting])) {
                return BAD_VALUE;
            }
            int before = settings[setting];
            settings[setting] = value;
            return before;
        }

        private int addRing(int places) {
            if (!isBetween(places, FEWEST_PLACES, MOST_PLACES)) {
                return BAD_VALUE;
            }
            if (ringCount >= MOST_LOOPS) {
                return TOO_MANY;
            }
            rings[ringCount].begin(places);
            ringCount++;
            return ringCount - 1;
        }

        private int addDevice(int loop, int place, int kind, int one, int two) {
            if (ringWith(loop, place) == null) {
                return NO_SUCH;
            }
            if (!fits(kind, one, two)) {
                return BAD_VALUE;
            }
            if (deviceCount >= MOST_DEVICES) {
                return TOO_MANY;
            }
            devices[deviceCount].begin(loop, place, kind, one, two);
            deviceCount++;
            return deviceCount - 1;
        }

        private int addJoin(int loop, int place, int other, int otherPlace) {
            if (ringWith(loop, place) == null || ringWith(other, otherPlace) == null) {
                return NO_SUCH;
            }
            if (loop == other) {
                return BAD_VALUE;
            }
            if (joinCount >= MOST_JOINS) {
                return TOO_MANY;
            }
            joins[joinCount].begin(loop, place, other, otherPlace);
            joinCount++;
            return joinCount - 1;
        }

        private int turnJoin(int join, int mode) {
            Join turned = joinOf(join);
            if (turned == null) {
                return NO_SUCH;
            }
            if (!isBetween(mode, OFF, MERGE)) {
                return BAD_VALUE;
            }
            int before = turned.mode;
            turned.mode = mode;
            return before;
        }

        private int feedDevice(int device, int value) {
            Device feeder = deviceOf(device);
            if (feeder == null || feeder.kind != FEEDER) {
                return NO_SUCH;
            }
            if (!isValue(value)) {
                return BAD_VALUE;
            }
            if (feeder.kept >= MOST_WAITING) {
                return TOO_MANY;
            }
            feeder.keepAsLast(value);
            return feeder.kept;
        }

        private int lightFlash(int loop, int place, int value) {
            Ring ring = ringWith(loop, place);
            if (ring == null) {
                return NO_SUCH;
            }
            if (!isValue(value)) {
                return BAD_VALUE;
            }
            if (ring.strengthAt(place) > 0) {
                return NOT_POSSIBLE;
            }
            ring.putIn(place, value, setting(FRESH), tick);
            return ring.flashes();
        }

        private int passTicks(int ticks) {
            if (!isBetween(ticks, 1, MOST_TICKS)) {
                return BAD_VALUE;
            }
            for (int passed = 0; passed < ticks; passed++) {
                passOne();
            }
            return tick;
        }

        /** Lets ticks pass, up to the first loss: how many those are, NONE if there is none within the limit. */
        private int ticksToLoss(int limit) {
            int lostBefore = tallyInAll(LOST);
            for (int passed = 1; passed <= limit; passed++) {
                passOne();
                if (tallyInAll(LOST) > lostBefore) {
                    return passed;
                }
            }
            return NONE;
        }

        private void passOne() {
            for (int i = 0; i < ringCount; i++) {
                rings[i].moveOn(setting(LOSS));
            }
            for (int i = 0; i < deviceCount; i++) {
                Ring ring = ringOf(devices[i].ring);
                if (ring != null) {
                    devices[i].actOn(ring, this);
                }
            }
            for (int i = 0; i < joinCount; i++) {
                Ring near = ringOf(joins[i].nearRing);
                Ring far = ringOf(joins[i].farRing);
                if (near != null && far != null) {
                    joins[i].actOn(near, far);
                }
            }
            for (int i = 0; i < deviceCount; i++) {
                devices[i].rest(setting(RECOVER));
            }
            tick++;
        }

        private int flashesInAll() {
            int flashes = 0;
            for (int i = 0; i < ringCount; i++) {
                flashes += rings[i].flashes();
            }
            return flashes;
        }

        private int tallyInAll(int which) {
            int sum = 0;
            for (int i = 0; i < ringCount; i++) {
                sum += rings[i].tally(which);
            }
            return sum;
        }
    }

    /** One loop, with its flashes and what it counted. */
    private static final class Ring {
        private int places;
        private final int[] values = new int[MOST_PLACES];
        // A strength of 0 means that no flash is there; the value and the birth mean nothing then.
        private final int[] strengths = new int[MOST_PLACES];
        private final int[] births = new int[MOST_PLACES];
        private final int[] tallies = new int[TALLIES];

        private void begin(int placesOfIt) {
            places = placesOfIt;
            for (int place = 0; place < MOST_PLACES; place++) {
                strengths[place] = 0;
            }
            for (int which = 0; which < TALLIES; which++) {
                tallies[which] = 0;
            }
        }

        private void copyFrom(Ring other) {
            places = other.places;
            copyRow(other.values, values);
            copyRow(other.strengths, strengths);
            copyRow(other.births, births);
            copyRow(other.tallies, tallies);
        }

        private boolean has(int place) {
            return place >= 0 && place < places;
        }

        private int strengthAt(int place) {
            return has(place) ? strengths[place] : 0;
        }

        private int valueAt(int place) {
            return has(place) && strengths[place] > 0 ? values[place] : NONE;
        }

        private int birthAt(int place) {
            return has(place) ? births[place] : 0;
        }

        private int tally(int which) {
            return isBetween(which, 0, TALLIES - 1) ? tallies[which] : 0;
        }

        private int flashes() {
            int flashes = 0;
            for (int place = 0; place < places; place++) {
                if (strengths[place] > 0) {
                    flashes++;
                }
            }
            return flashes;
        }

        private int strengthInAll() {
            int sum = 0;
            for (int place = 0; place < places; place++) {
                sum += strengths[place];
            }
            return sum;
        }

        private int faintest() {
            int faintest = 0;
            for (int place = 0; place < places; place++) {
                int strength = strengths[place];
                if (strength > 0 && (faintest == 0 || strength < faintest)) {
                    faintest = strength;
                }
            }
            return faintest;
        }

        private void moveOn(int loss) {
            turnRow(values, places);
            turnRow(strengths, places);
            turnRow(births, places);
            for (int place = 0; place < places; place++) {
                if (strengths[place] > 0) {
                    fade(place, loss);
                }
            }
        }

        private void fade(int place, int by) {
            if (!has(place)) {
                return;
            }
            strengths[place] -= by;
            if (strengths[place] <= 0) {
                strengths[place] = 0;
                tallies[LOST]++;
            }
        }

        private void strengthen(int place, int by) {
            if (has(place)) {
                strengths[place] += by;
            }
        }

        private void changeValue(int place, int value) {
            if (has(place)) {
                values[place] = value;
            }
        }

        private void putIn(int place, int value, int strength, int tick) {
            if (has(place)) {
                values[place] = value;
                strengths[place] = strength;
                births[place] = tick;
                tallies[PUT_IN]++;
            }
        }

        private void drop(int place) {
            if (has(place)) {
                strengths[place] = 0;
                tallies[DROPPED]++;
            }
        }

        private void exchange(int place, Ring other, int otherPlace) {
            if (!has(place) || !other.has(otherPlace)) {
                return;
            }
            int value = values[place];
            int strength = strengths[place];
            int birth = births[place];
            values[place] = other.values[otherPlace];
            strengths[place] = other.strengths[otherPlace];
            births[place] = other.births[otherPlace];
            other.values[otherPlace] = value;
            other.strengths[otherPlace] = strength;
            other.births[otherPlace] = birth;
        }

        /** Counts a flash that went from this loop to the other one by a join. */
        private void tellCrossing(Ring other) {
            tallies[WENT]++;
            other.tallies[CAME]++;
        }
    }

    /** One device of any kind. */
    private static final class Device {
        private int kind;
        private int ring;
        private int place;
        private int one;
        private int two;
        private int store;
        private int acts;
        // What waits at a feeder, the first one first, or what a reader noted, the latest one first.
        private final int[] row = new int[MOST_WAITING];
        private int kept;

        private void begin(int ringOfIt, int placeOfIt, int kindOfIt, int oneOfIt, int twoOfIt) {
            ring = ringOfIt;
            place = placeOfIt;
            kind = kindOfIt;
            one = oneOfIt;
            two = twoOfIt;
            store = kindOfIt == AMPLIFIER ? twoOfIt : 0;
            acts = 0;
            kept = 0;
        }

        private void copyFrom(Device other) {
            kind = other.kind;
            ring = other.ring;
            place = other.place;
            one = other.one;
            two = other.two;
            store = other.store;
            acts = other.acts;
            kept = other.kept;
            copyRow(other.row, row);
        }

        private int keptAt(int index) {
            return index >= 0 && index < kept ? row[index] : NONE;
        }

        private void keepAsLast(int value) {
            if (kept < MOST_WAITING) {
                row[kept] = value;
                kept++;
            }
        }

        private void removeFirst() {
            if (kept > 0) {
                System.arraycopy(row, 1, row, 0, kept - 1);
                kept--;
            }
        }

        private void actOn(Ring at, State state) {
            switch (kind) {
                case AMPLIFIER: amplify(at); break;
                case READER: note(at, state.setting(READING)); break;
                case FEEDER: putNext(at, state.setting(FRESH), state.tick); break;
                case CHANGER: change(at); break;
                case DROPPER: dropValue(at); break;
                default: break;
            }
        }

        private void amplify(Ring at) {
            int strength = at.strengthAt(place);
            if (strength == 0) {
                return;
            }
            int by = Math.min(Math.min(one, store), HIGHEST_STRENGTH - strength);
            if (by > 0) {
                at.strengthen(place, by);
                store -= by;
                acts++;
            }
        }

        private void note(Ring at, int reading) {
            if (at.strengthAt(place) == 0) {
                return;
            }
            // When as many as it keeps are there, the turned row brings the oldest one to the start.
            kept = Math.min(kept + 1, MOST_NOTED);
            turnRow(row, kept);
            row[0] = at.valueAt(place);
            at.fade(place, reading);
            acts++;
        }

        private void putNext(Ring at, int fresh, int tick) {
            if (kept > 0 && at.strengthAt(place) == 0) {
                at.putIn(place, row[0], fresh, tick);
                removeFirst();
                acts++;
            }
        }

        private void change(Ring at) {
            if (at.valueAt(place) == one) {
                at.changeValue(place, two);
                acts++;
            }
        }

        private void dropValue(Ring at) {
            if (at.valueAt(place) == one) {
                at.drop(place);
                acts++;
            }
        }

        private void rest(int recover) {
            if (kind == AMPLIFIER) {
                store = Math.min(store + recover, two);
            }
        }
    }

    /** One join of two loops. */
    private static final class Join {
        private int nearRing;
        private int nearPlace;
        private int farRing;
        private int farPlace;
        private int mode;
        private int passed;

        private void begin(int ring, int place, int otherRing, int otherPlace) {
            nearRing = ring;
            nearPlace = place;
            farRing = otherRing;
            farPlace = otherPlace;
            mode = OFF;
            passed = 0;
        }

        private void copyFrom(Join other) {
            nearRing = other.nearRing;
            nearPlace = other.nearPlace;
            farRing = other.farRing;
            farPlace = other.farPlace;
            mode = other.mode;
            passed = other.passed;
        }

        private void actOn(Ring near, Ring far) {
            boolean nearLit = near.strengthAt(nearPlace) > 0;
            boolean farLit = far.strengthAt(farPlace) > 0;
            if (mode == OFF || (mode == MERGE && farLit)) {
                return;
            }
            near.exchange(nearPlace, far, farPlace);
            if (nearLit) {
                near.tellCrossing(far);
                passed++;
            }
            if (farLit) {
                far.tellCrossing(near);
                passed++;
            }
        }
    }

    /** The states that can come back by undo(), the oldest one first. */
    private static final class History {
        // One more than can be undone: behind the kept ones stands the state that is held back.
        private final State[] states = new State[MOST_UNDONE + 1];
        private int size;

        private History() {
            for (int i = 0; i <= MOST_UNDONE; i++) {
                states[i] = new State();
            }
        }

        /** Holds the state back that is to be kept if the change that comes now is no error. */
        private void holdBack(State before) {
            states[size].copyFrom(before);
        }

        /** Keeps what was held back, unless the answer of the change is an error; hands the answer on. */
        private int keepIfDone(int answer) {
            if (answer < 0) {
                return answer;
            }
            if (size < MOST_UNDONE) {
                size++;
            } else {
                dropOldest();
            }
            return answer;
        }

        private void dropOldest() {
            State oldest = states[0];
            for (int i = 0; i < MOST_UNDONE; i++) {
                states[i] = states[i + 1];
            }
            // The dropped state's room is used again for the next one that is held back.
            states[MOST_UNDONE] = oldest;
        }

        private State takeLatest() {
            if (size == 0) {
                return null;
            }
            size--;
            return states[size];
        }
    }

    /** The text of orders. */
    private static final class Pad {
        private final char[] signs = new char[MOST_SIGNS];
        private int length;

        private void append(char sign) {
            if (length < MOST_SIGNS) {
                signs[length] = sign;
                length++;
            }
        }

        private void clear() {
            length = 0;
        }

        /** The sign at an index; 0, which no pad has, where there is none. */
        private char signAt(int index) {
            return index >= 0 && index < length ? signs[index] : 0;
        }
    }

    /** Reads the pad from left to right, and stays at the first sign that cannot stand at its place. */
    private static final class OrderReader {
        private final Pad pad;
        private int next;
        // The order that was read last: its letter, and its numbers as they stand in it.
        private char letter;
        private final int[] numbers = new int[MOST_SIGNS];
        private int numberCount;

        private OrderReader(Pad read) {
            pad = read;
        }

        private void goToStart() {
            next = 0;
        }

        private int number(int index) {
            return index >= 0 && index < numberCount ? numbers[index] : 0;
        }

        private int firstFault() {
            goToStart();
            for (int orders = 0; orders < MOST_SIGNS; orders++) {
                if (!readOrder()) {
                    return next;
                }
                if (next == pad.length) {
                    return NONE;
                }
                if (!take(';')) {
                    return next;
                }
            }
            return next;
        }

        /** Reads the next order of a pad without a fault; false if there is no more. */
        private boolean readNext() {
            take(';');
            return readOrder();
        }

        private boolean readOrder() {
            letter = pad.signAt(next);
            numberCount = 0;
            if (take('f')) {
                return readNumber() && take(':') && readValues();
            }
            if (take('j')) {
                return readNumber() && take('=') && readMode();
            }
            if (take('l')) {
                return readNumber() && take(':') && readNumber() && take('=') && readNumber();
            }
            return take('t') && readNumber();
        }

        private boolean take(char sign) {
            if (pad.signAt(next) != sign) {
                return false;
            }
            next++;
            return true;
        }

        private boolean readValues() {
            for (int values = 0; values < MOST_SIGNS; values++) {
                if (!readNumber()) {
                    return false;
                }
                if (!take(',')) {
                    return true;
                }
            }
            return false;
        }

        /** The digit that is next; NONE if none is. */
        private int digit() {
            char sign = pad.signAt(next);
            return isBetween(sign, '0', '9') ? sign - '0' : NONE;
        }

        // A digit behind a first 0, or behind three digits, is left unread: nothing that may stand
        // behind a number is a digit, so it becomes the fault.
        private boolean readNumber() {
            int number = digit();
            if (number < 0) {
                return false;
            }
            next++;
            for (int more = 0; more < 2 && number > 0 && digit() >= 0; more++) {
                number = number * 10 + digit();
                next++;
            }
            return keep(number);
        }

        private boolean readMode() {
            int mode = digit();
            if (!isBetween(mode, OFF, MERGE)) {
                return false;
            }
            next++;
            return keep(mode);
        }

        private boolean keep(int number) {
            if (numberCount >= MOST_SIGNS) {
                return false;
            }
            numbers[numberCount] = number;
            numberCount++;
            return true;
        }
    }
}
