import java.util.ArrayDeque;
import java.util.ArrayList;
import java.util.Arrays;
import java.util.Deque;
import java.util.List;
import java.util.regex.Matcher;
import java.util.regex.Pattern;

/**
 * The document said a second time, in another way and with the whole Java library: flashes are objects, every
 * tick builds its rings anew, states are deep copies, and the texts are left to regular expressions.
 */
final class Model {
    private static final int NO_SUCH = -1, BAD_VALUE = -2, BAD_TEXT = -3, TOO_MANY = -4, NOT_POSSIBLE = -5, NONE = -6;

    private static final class Flash {
        int value, strength, born;

        Flash(int value, int strength, int born) {
            this.value = value;
            this.strength = strength;
            this.born = born;
        }

        Flash copy() {
            return new Flash(value, strength, born);
        }
    }

    private static final class Loop {
        Flash[] flashes;
        int put, lost, dropped, came, went;

        Loop copy() {
            Loop c = new Loop();
            c.flashes = new Flash[flashes.length];
            for (int i = 0; i < flashes.length; i++) {
                c.flashes[i] = flashes[i] == null ? null : flashes[i].copy();
            }
            c.put = put;
            c.lost = lost;
            c.dropped = dropped;
            c.came = came;
            c.went = went;
            return c;
        }
    }

    private static final class Device {
        int kind, loop, place, one, two, store, done;
        List<Integer> list = new ArrayList<>();

        Device copy() {
            Device c = new Device();
            c.kind = kind;
            c.loop = loop;
            c.place = place;
            c.one = one;
            c.two = two;
            c.store = store;
            c.done = done;
            c.list = new ArrayList<>(list);
            return c;
        }
    }

    private static final class World {
        int[] settings = {10, 40, 20, 600};
        int tick;
        List<Loop> loops = new ArrayList<>();
        List<Device> devices = new ArrayList<>();
        List<int[]> joins = new ArrayList<>();

        World copy() {
            World c = new World();
            c.settings = settings.clone();
            c.tick = tick;
            loops.forEach(l -> c.loops.add(l.copy()));
            devices.forEach(d -> c.devices.add(d.copy()));
            joins.forEach(j -> c.joins.add(j.clone()));
            return c;
        }

        boolean isPlace(int loop, int place) {
            return loop >= 0 && loop < loops.size() && place >= 0 && place < loops.get(loop).flashes.length;
        }

        Flash get(int loop, int place) {
            return loops.get(loop).flashes[place];
        }

        int flashes() {
            int n = 0;
            for (Loop l : loops) {
                n += flashesOf(l);
            }
            return n;
        }

        int lost() {
            return loops.stream().mapToInt(l -> l.lost).sum();
        }

        void tick() {
            for (Loop l : loops) {
                int n = l.flashes.length;
                Flash[] moved = new Flash[n];
                for (int i = 0; i < n; i++) {
                    moved[(i + 1) % n] = l.flashes[i];
                }
                l.flashes = moved;
                for (int i = 0; i < n; i++) {
                    fainter(l, i, settings[0]);
                }
            }
            for (Device d : devices) {
                act(d);
            }
            for (int[] j : joins) {
                join(j);
            }
            for (Device d : devices) {
                if (d.kind == 0) {
                    d.store = Math.min(d.two, d.store + settings[2]);
                }
            }
            tick++;
        }

        private void fainter(Loop l, int place, int by) {
            Flash f = l.flashes[place];
            if (f != null && (f.strength -= by) <= 0) {
                l.flashes[place] = null;
                l.lost++;
            }
        }

        private void act(Device d) {
            Loop l = loops.get(d.loop);
            Flash f = l.flashes[d.place];
            if (d.kind == 2) {
                if (f == null && !d.list.isEmpty()) {
                    l.flashes[d.place] = new Flash(d.list.remove(0), settings[3], tick);
                    l.put++;
                    d.done++;
                }
                return;
            }
            if (f == null) {
                return;
            }
            if (d.kind == 0) {
                int wanted = Math.min(1000, f.strength + Math.min(d.one, d.store));
                d.store -= wanted - f.strength;
                d.done += wanted > f.strength ? 1 : 0;
                f.strength = wanted;
            } else if (d.kind == 1) {
                d.list.add(f.value);
                if (d.list.size() > 8) {
                    d.list.remove(0);
                }
                d.done++;
                fainter(l, d.place, settings[1]);
            } else if (f.value == d.one) {
                d.done++;
                if (d.kind == 3) {
                    f.value = d.two;
                } else {
                    l.flashes[d.place] = null;
                    l.dropped++;
                }
            }
        }

        /** A join is {near loop, near place, far loop, far place, mode, passed}. */
        private void join(int[] j) {
            Loop near = loops.get(j[0]);
            Loop far = loops.get(j[2]);
            Flash there = near.flashes[j[1]];
            Flash back = far.flashes[j[3]];
            if (j[4] == 1) {
                near.flashes[j[1]] = back;
                far.flashes[j[3]] = there;
                cross(j, near, far, there);
                cross(j, far, near, back);
            } else if (j[4] == 2 && there != null && back == null) {
                near.flashes[j[1]] = null;
                far.flashes[j[3]] = there;
                cross(j, near, far, there);
            }
        }

        private void cross(int[] j, Loop from, Loop to, Flash flash) {
            if (flash != null) {
                from.went++;
                to.came++;
                j[5]++;
            }
        }
    }

    private static int flashesOf(Loop l) {
        return (int) Arrays.stream(l.flashes).filter(f -> f != null).count();
    }

    private World w = new World();
    private final Deque<World> history = new ArrayDeque<>();
    private final World[] slots = new World[2];
    private String pad = "";
    private boolean recording = true;

    private static boolean in(int x, int low, int high) {
        return low <= x && x <= high;
    }

    private void record() {
        if (recording) {
            history.addLast(w.copy());
            if (history.size() > 6) {
                history.removeFirst();
            }
        }
    }

    int set(int setting, int value) {
        int[][] ranges = {{0, 50}, {0, 200}, {0, 200}, {100, 1000}};
        if (!in(setting, 0, 3) || !in(value, ranges[setting][0], ranges[setting][1])) {
            return BAD_VALUE;
        }
        record();
        int was = w.settings[setting];
        w.settings[setting] = value;
        return was;
    }

    int loop(int places) {
        if (!in(places, 4, 32)) {
            return BAD_VALUE;
        }
        if (w.loops.size() == 5) {
            return TOO_MANY;
        }
        record();
        Loop l = new Loop();
        l.flashes = new Flash[places];
        w.loops.add(l);
        return w.loops.size() - 1;
    }

    int device(int loop, int place, int kind, int one, int two) {
        if (!w.isPlace(loop, place)) {
            return NO_SUCH;
        }
        int[][] ranges = {{1, 500, 1, 2000}, {0, 0, 0, 0}, {0, 0, 0, 0}, {0, 99, 0, 99}, {0, 99, 0, 0}};
        if (!in(kind, 0, 4) || !in(one, ranges[kind][0], ranges[kind][1]) || !in(two, ranges[kind][2], ranges[kind][3])) {
            return BAD_VALUE;
        }
        if (w.devices.size() == 12) {
            return TOO_MANY;
        }
        record();
        add(w, loop, place, kind, one, two);
        return w.devices.size() - 1;
    }

    private static void add(World to, int loop, int place, int kind, int one, int two) {
        Device d = new Device();
        d.loop = loop;
        d.place = place;
        d.kind = kind;
        d.one = one;
        d.two = two;
        d.store = kind == 0 ? two : 0;
        to.devices.add(d);
    }

    int join(int loop, int place, int other, int otherPlace) {
        if (!w.isPlace(loop, place) || !w.isPlace(other, otherPlace)) {
            return NO_SUCH;
        }
        if (loop == other) {
            return BAD_VALUE;
        }
        if (w.joins.size() == 4) {
            return TOO_MANY;
        }
        record();
        w.joins.add(new int[] {loop, place, other, otherPlace, 0, 0});
        return w.joins.size() - 1;
    }

    int turn(int join, int mode) {
        if (!in(join, 0, w.joins.size() - 1)) {
            return NO_SUCH;
        }
        if (!in(mode, 0, 2)) {
            return BAD_VALUE;
        }
        record();
        int was = w.joins.get(join)[4];
        w.joins.get(join)[4] = mode;
        return was;
    }

    int feed(int device, int value) {
        if (!in(device, 0, w.devices.size() - 1) || w.devices.get(device).kind != 2) {
            return NO_SUCH;
        }
        if (!in(value, 0, 99)) {
            return BAD_VALUE;
        }
        if (w.devices.get(device).list.size() == 12) {
            return TOO_MANY;
        }
        record();
        w.devices.get(device).list.add(value);
        return w.devices.get(device).list.size();
    }

    int light(int loop, int place, int value) {
        if (!w.isPlace(loop, place)) {
            return NO_SUCH;
        }
        if (!in(value, 0, 99)) {
            return BAD_VALUE;
        }
        if (w.get(loop, place) != null) {
            return NOT_POSSIBLE;
        }
        record();
        Loop l = w.loops.get(loop);
        l.flashes[place] = new Flash(value, w.settings[3], w.tick);
        l.put++;
        return flashesOf(l);
    }

    int ticks(int ticks) {
        if (!in(ticks, 1, 200)) {
            return BAD_VALUE;
        }
        record();
        for (int i = 0; i < ticks; i++) {
            w.tick();
        }
        return w.tick;
    }

    int at(int loop, int place, int what) {
        if (!w.isPlace(loop, place)) {
            return NO_SUCH;
        }
        if (!in(what, 0, 3)) {
            return BAD_VALUE;
        }
        Flash f = w.get(loop, place);
        if (what == 3) {
            int n = w.loops.get(loop).flashes.length;
            int steps = 1;
            while ((place + steps) % n != 0) {
                steps++;
            }
            return steps;
        }
        if (f == null) {
            return what == 1 ? 0 : NONE;
        }
        return new int[] {f.value, f.strength, w.tick - f.born}[what];
    }

    int ofLoop(int loop, int what) {
        if (!in(loop, 0, w.loops.size() - 1)) {
            return NO_SUCH;
        }
        if (!in(what, 0, 8)) {
            return BAD_VALUE;
        }
        Loop l = w.loops.get(loop);
        int[] strengths = Arrays.stream(l.flashes).filter(f -> f != null).mapToInt(f -> f.strength).toArray();
        int faintest = Arrays.stream(strengths).min().orElse(0);
        return new int[] {l.flashes.length, strengths.length, Arrays.stream(strengths).sum(), faintest, l.put, l.lost,
            l.dropped, l.came, l.went}[what];
    }

    int ofDevice(int device, int what) {
        if (!in(device, 0, w.devices.size() - 1)) {
            return NO_SUCH;
        }
        if (!in(what, 0, 6)) {
            return BAD_VALUE;
        }
        Device d = w.devices.get(device);
        int has = d.kind == 0 ? d.store : d.list.size();
        return new int[] {d.kind, d.loop, d.place, d.one, d.two, has, d.done}[what];
    }

    int noted(int device, int back) {
        if (!in(device, 0, w.devices.size() - 1) || w.devices.get(device).kind != 1) {
            return NO_SUCH;
        }
        List<Integer> list = w.devices.get(device).list;
        return in(back, 0, list.size() - 1) ? list.get(list.size() - 1 - back) : NONE;
    }

    int ofJoin(int join, int what) {
        if (!in(join, 0, w.joins.size() - 1)) {
            return NO_SUCH;
        }
        return in(what, 0, 5) ? w.joins.get(join)[what] : BAD_VALUE;
    }

    int find(int value, int what) {
        if (!in(value, 0, 99) || !in(what, 0, 2)) {
            return BAD_VALUE;
        }
        List<int[]> found = new ArrayList<>();
        for (int l = 0; l < w.loops.size(); l++) {
            for (int p = 0; p < w.loops.get(l).flashes.length; p++) {
                if (w.get(l, p) != null && w.get(l, p).value == value) {
                    found.add(new int[] {l, p});
                }
            }
        }
        return found.isEmpty() ? NONE : what == 2 ? found.size() : found.get(0)[what];
    }

    int count(int what) {
        if (!in(what, 0, 13)) {
            return BAD_VALUE;
        }
        return new int[] {w.tick, w.loops.size(), w.devices.size(), w.joins.size(), w.flashes(),
            w.loops.stream().mapToInt(l -> l.put).sum(), w.lost(), w.loops.stream().mapToInt(l -> l.dropped).sum(),
            w.settings[0], w.settings[1], w.settings[2], w.settings[3], pad.length(), history.size()}[what];
    }

    int valueIn(int loop, int place, int ticks) {
        if (!w.isPlace(loop, place)) {
            return NO_SUCH;
        }
        if (!in(ticks, 1, 200)) {
            return BAD_VALUE;
        }
        World later = w.copy();
        for (int i = 0; i < ticks; i++) {
            later.tick();
        }
        return later.get(loop, place) == null ? NONE : later.get(loop, place).value;
    }

    int leftIn(int ticks) {
        if (!in(ticks, 1, 200)) {
            return BAD_VALUE;
        }
        World later = w.copy();
        for (int i = 0; i < ticks; i++) {
            later.tick();
        }
        return later.flashes();
    }

    private static int lossIn(World later, int limit) {
        int before = later.lost();
        for (int i = 1; i <= limit; i++) {
            later.tick();
            if (later.lost() != before) {
                return i;
            }
        }
        return NONE;
    }

    int firstLoss() {
        return lossIn(w.copy(), 300);
    }

    int bestPlace(int loop, int gain, int store, int what) {
        if (!in(loop, 0, w.loops.size() - 1)) {
            return NO_SUCH;
        }
        if (!in(gain, 1, 500) || !in(store, 1, 2000) || !in(what, 0, 1)) {
            return BAD_VALUE;
        }
        if (w.devices.size() == 12) {
            return TOO_MANY;
        }
        int[] left = new int[w.loops.get(loop).flashes.length];
        for (int p = 0; p < left.length; p++) {
            World later = w.copy();
            add(later, loop, p, 0, gain, store);
            for (int i = 0; i < 100; i++) {
                later.tick();
            }
            left[p] = later.flashes();
        }
        int most = Arrays.stream(left).max().getAsInt();
        int place = 0;
        while (left[place] != most) {
            place++;
        }
        return what == 0 ? place : most;
    }

    int bearable() {
        int best = NONE;
        for (int loss = 0; loss <= 50; loss++) {
            World later = w.copy();
            later.settings[0] = loss;
            if (lossIn(later, 100) == NONE) {
                best = loss;
            }
        }
        return best;
    }

    int put(long characters) {
        StringBuilder text = new StringBuilder();
        for (int shift = 56; shift >= 0; shift -= 8) {
            char c = (char) (characters >>> shift & 0xff);
            if (c != 0 || text.length() > 0) {
                text.append(c);
            }
        }
        if (text.length() == 0 || !text.chars().allMatch(c -> c >= 33 && c <= 126)) {
            return BAD_VALUE;
        }
        if (pad.length() + text.length() > 80) {
            return TOO_MANY;
        }
        pad += text;
        return pad.length();
    }

    int wipe() {
        int was = pad.length();
        pad = "";
        return was;
    }

    private static final String NUMBER = "(0|[1-9][0-9]{0,2})";
    private static final String ORDER = "(f" + NUMBER + ":" + NUMBER + "(," + NUMBER + ")*|j" + NUMBER + "=[012]|l"
        + NUMBER + ":" + NUMBER + "=" + NUMBER + "|t" + NUMBER + ")";
    private static final Pattern TEXT = Pattern.compile(ORDER + "(;" + ORDER + ")*");

    int fault() {
        if (TEXT.matcher(pad).matches()) {
            return NONE;
        }
        for (int i = 0; i < pad.length(); i++) {
            // A start of a text is one that is a text itself, or could become one with more behind it.
            Matcher start = TEXT.matcher(pad.substring(0, i + 1));
            if (!start.matches() && !start.hitEnd()) {
                return i;
            }
        }
        return pad.length();
    }

    int carryOut() {
        if (!TEXT.matcher(pad).matches()) {
            return BAD_TEXT;
        }
        record();
        recording = false;
        int done = 0;
        for (String order : pad.split(";")) {
            if (!carry(order)) {
                break;
            }
            done++;
        }
        recording = true;
        pad = "";
        return done;
    }

    private boolean carry(String order) {
        int[] n = Arrays.stream(order.substring(1).split("[:=,]")).mapToInt(Integer::parseInt).toArray();
        switch (order.charAt(0)) {
            case 'f':
                for (int i = 1; i < n.length; i++) {
                    if (feed(n[0], n[i]) < 0) {
                        return false;
                    }
                }
                return true;
            case 'j':
                return turn(n[0], n[1]) >= 0;
            case 'l':
                return light(n[0], n[1], n[2]) >= 0;
            default:
                return ticks(n[0]) >= 0;
        }
    }

    int undo() {
        if (history.isEmpty()) {
            return NOT_POSSIBLE;
        }
        w = history.removeLast();
        return history.size();
    }

    int save(int slot) {
        if (!in(slot, 0, 1)) {
            return BAD_VALUE;
        }
        slots[slot] = w.copy();
        return w.tick;
    }

    int restore(int slot) {
        if (!in(slot, 0, 1)) {
            return BAD_VALUE;
        }
        if (slots[slot] == null) {
            return NOT_POSSIBLE;
        }
        record();
        w = slots[slot].copy();
        return w.tick;
    }
}
