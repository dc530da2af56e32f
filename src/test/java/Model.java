import java.io.ByteArrayOutputStream;
import java.util.ArrayDeque;
import java.util.ArrayList;
import java.util.Arrays;
import java.util.Deque;
import java.util.HashMap;
import java.util.List;
import java.util.Map;

/** The document told a second time, as plainly as can be and without a thought for room or speed. */
final class Model {
    static final class Load {
        int x;
        int weight;
        int price;
        int how;
        int high;
        int silk = -2;
        int hook = -2;
    }

    static final class Silk {
        int size;
        int pull;
        int load = -2;
        int times;
    }

    static final class Hook {
        int x;
        int reach;
        int hands;
        int caught;
    }

    static final class World {
        final List<Load> loads = new ArrayList<>();
        final List<Silk> silks = new ArrayList<>();
        final List<Hook> hooks = new ArrayList<>();
        int hour;
        int earned;
        int paid;

        World copy() {
            World w = new World();
            for (Load l : loads) {
                Load n = new Load();
                n.x = l.x;
                n.weight = l.weight;
                n.price = l.price;
                n.how = l.how;
                n.high = l.high;
                n.silk = l.silk;
                n.hook = l.hook;
                w.loads.add(n);
            }
            for (Silk s : silks) {
                Silk n = new Silk();
                n.size = s.size;
                n.pull = s.pull;
                n.load = s.load;
                n.times = s.times;
                w.silks.add(n);
            }
            for (Hook h : hooks) {
                Hook n = new Hook();
                n.x = h.x;
                n.reach = h.reach;
                n.hands = h.hands;
                n.caught = h.caught;
                w.hooks.add(n);
            }
            w.hour = hour;
            w.earned = earned;
            w.paid = paid;
            return w;
        }

        int bits(int how) {
            int bits = 0;
            for (int i = 0; i < loads.size(); i++) {
                bits += loads.get(i).how == how ? 1 << i : 0;
            }
            return bits;
        }

        int up() {
            return Integer.bitCount(bits(1));
        }

        int stored() {
            return Integer.bitCount(bits(2));
        }

        /** This, with nothing in the air. */
        World clear() {
            World w = copy();
            for (Load l : w.loads) {
                if (l.how == 1) {
                    w.silks.get(l.silk).load = -2;
                    l.silk = -2;
                    l.how = 3;
                }
            }
            return w;
        }
    }

    private ByteArrayOutputStream tape = new ByteArrayOutputStream();
    private ModelText text = new ModelText(new byte[0]);
    private World world = new World();
    private int place = -1;
    private final Deque<World> done = new ArrayDeque<>();
    private final World[] slots = new World[3];
    private final List<int[]> told = new ArrayList<>();

    private int law(World w, int which, Object... vars) {
        Map<String, Integer> v = new HashMap<>();
        v.put("hour", w.hour % 24);
        v.put("day", w.hour / 24);
        v.put("up", w.up());
        v.put("stored", w.stored());
        for (int i = 0; i < vars.length; i += 2) {
            v.put((String) vars[i], (Integer) vars[i + 1]);
        }
        int value = text.laws[which].of(v);
        int[][] held = {{-9, 9}, {-3, 3}, {0, 99}, {0, 99}};
        return Math.max(held[which][0], Math.min(held[which][1], value));
    }

    private int lift(World w, int size, int weight, int high, int x) {
        return law(w, 0, "size", size, "weight", weight, "high", high, "across", x);
    }

    private int wind(World w, int high, int x) {
        return law(w, 1, "high", high, "across", x);
    }

    private int ties(World w, int load, int silk) {
        return law(w, 2, "size", w.silks.get(silk).size, "weight", w.loads.get(load).weight);
    }

    private int pays(World w, int load) {
        return law(w, 3, "price", w.loads.get(load).price, "weight", w.loads.get(load).weight);
    }

    private boolean gust(int hour, int seed) {
        return ThingsTest.lot(seed, 4 * hour) < text.gusts;
    }

    /** The HOOK that would take what is at x, if each has so many hands left. */
    private int nearest(World w, int x, int[] left) {
        int nearest = -2;
        for (int i = 0; i < w.hooks.size(); i++) {
            Hook h = w.hooks.get(i);
            boolean can = left[i] > 0 && Math.abs(h.x - x) <= h.reach;
            if (can && (nearest == -2 || Math.abs(h.x - x) < Math.abs(w.hooks.get(nearest).x - x))) {
                nearest = i;
            }
        }
        return nearest;
    }

    private void hour(World w, boolean gust) {
        World began = w.copy();
        for (int i = 0; i < w.loads.size(); i++) {
            Load l = w.loads.get(i);
            if (l.how == 1) {
                Silk s = w.silks.get(l.silk);
                int wind = wind(began, l.high, l.x);
                l.high += lift(began, s.size, l.weight, began.loads.get(i).high, l.x);
                int aside = s.pull + wind;
                if (gust && wind != 0) {
                    aside += wind > 0 ? 1 : -1;
                }
                l.x = Math.min(19, Math.max(0, l.x + aside));
            }
        }
        int[] left = new int[w.hooks.size()];
        for (int i = 0; i < left.length; i++) {
            left[i] = w.hooks.get(i).hands;
        }
        for (int i = 0; i < w.loads.size(); i++) {
            Load l = w.loads.get(i);
            if (l.how != 1 || l.high > 0 && l.high < text.rim) {
                continue;
            }
            if (l.high <= 0) {
                l.how = 0;
            } else {
                l.hook = nearest(w, l.x, left);
                l.how = l.hook == -2 ? 3 : 2;
                if (l.hook != -2) {
                    left[l.hook]--;
                    w.hooks.get(l.hook).caught += 1 << i;
                    w.earned += pays(began, i);
                }
            }
            l.high = 0;
            w.silks.get(l.silk).load = -2;
            l.silk = -2;
        }
        w.hour++;
    }

    private void tieIn(World w, int load, int silk) {
        Load l = w.loads.get(load);
        Silk s = w.silks.get(silk);
        w.paid += ties(w, load, silk);
        l.how = 1;
        l.high = 0;
        l.silk = silk;
        s.load = load;
        s.times++;
    }

    /** Behind how many HOURS, how, by which HOOK, at which X, what is earned. */
    private int[] fly(World w, int load, int silk, int most) {
        int ahead = w.earned;
        tieIn(w, load, silk);
        int hours = 0;
        while (hours < most && w.loads.get(load).how == 1) {
            hour(w, false);
            hours++;
        }
        Load l = w.loads.get(load);
        int how = new int[] {3, 0, 1, 2}[l.how];
        return new int[] {how == 0 ? 0 : hours, how, l.hook, l.x, w.earned - ahead};
    }

    private int[] flightOf(int load, int silk, int wait) {
        World w = world.clear();
        w.hour += wait;
        return fly(w, load, silk, 48);
    }

    /** The flight of one that is neither a LOAD nor by a SILK of the text. */
    private int[] flightOfOther(int size, int weight, int pull, int x, int most) {
        World w = world.clear();
        Load l = new Load();
        l.weight = weight;
        l.x = x;
        w.loads.add(l);
        Silk s = new Silk();
        s.size = size;
        s.pull = pull;
        w.silks.add(s);
        return fly(w, w.loads.size() - 1, w.silks.size() - 1, most);
    }

    private boolean isPair(int load, int silk) {
        return load >= 0 && load < world.loads.size() && silk >= 0 && silk < world.silks.size();
    }

    private boolean isReady(int load, int silk) {
        return isPair(load, silk) && world.loads.get(load).how == 0 && world.silks.get(silk).load == -2;
    }

    private static boolean in(int value, int least, int most) {
        return value >= least && value <= most;
    }

    private void keep() {
        done.addLast(world.copy());
        if (done.size() > 40) {
            done.removeFirst();
        }
    }

    int feed(int... words) {
        if (tape.size() + 20 > 2000) {
            return -1;
        }
        for (int word : words) {
            tape.write(word >> 24);
            tape.write(word >> 16);
            tape.write(word >> 8);
            tape.write(word);
        }
        return tape.size();
    }

    int back(int n) {
        if (n < 0 || n > tape.size()) {
            return -1;
        }
        byte[] all = tape.toByteArray();
        tape = new ByteArrayOutputStream();
        tape.write(all, 0, all.length - n);
        return tape.size();
    }

    int read() {
        ModelText read = new ModelText(tape.toByteArray());
        tape = new ByteArrayOutputStream();
        place = read.place;
        if (read.fault != 0) {
            return read.fault;
        }
        text = read;
        world = new World();
        for (int[] a : read.loads) {
            Load l = new Load();
            l.x = a[0];
            l.weight = a[1];
            l.price = a[2];
            world.loads.add(l);
        }
        for (int[] a : read.silks) {
            Silk s = new Silk();
            s.size = a[0];
            s.pull = a[1];
            world.silks.add(s);
        }
        for (int[] a : read.hooks) {
            Hook h = new Hook();
            h.x = a[0];
            h.reach = a[1];
            h.hands = a[2];
            world.hooks.add(h);
        }
        done.clear();
        told.clear();
        Arrays.fill(slots, null);
        return 0;
    }

    int place() {
        return place;
    }

    private static int pick(int what, int... of) {
        return in(what, 0, of.length - 1) ? of[what] : -1;
    }

    int load(int load, int what) {
        if (!in(load, 0, world.loads.size() - 1)) {
            return -1;
        }
        Load l = world.loads.get(load);
        return pick(what, l.x, l.weight, l.price, l.how, l.high, l.silk, l.hook);
    }

    int silk(int silk, int what) {
        if (!in(silk, 0, world.silks.size() - 1)) {
            return -1;
        }
        Silk s = world.silks.get(silk);
        return pick(what, s.size, s.load, s.times);
    }

    int pull(int silk) {
        return in(silk, 0, world.silks.size() - 1) ? world.silks.get(silk).pull : -100;
    }

    int hook(int hook, int what) {
        if (!in(hook, 0, world.hooks.size() - 1)) {
            return -1;
        }
        Hook h = world.hooks.get(hook);
        return pick(what, h.x, h.reach, h.hands, h.caught);
    }

    int tells(int load, int silk, int what) {
        if (!in(load, 0, world.loads.size() - 1) || what < 0 || what > 3 || what % 2 == 0 && !isPair(load, silk)) {
            return -100;
        }
        Load l = world.loads.get(load);
        switch (what) {
            case 0:
                return lift(world, world.silks.get(silk).size, l.weight, 0, l.x);
            case 1:
                return wind(world, 0, l.x);
            case 2:
                return ties(world, load, silk);
            default:
                return pays(world, load);
        }
    }

    int tie(int load, int silk) {
        if (!isPair(load, silk)) {
            return -1;
        }
        if (!isReady(load, silk)) {
            return -2;
        }
        keep();
        int ahead = world.paid;
        tieIn(world, load, silk);
        return world.paid - ahead;
    }

    int move(int hook, int x) {
        if (!in(hook, 0, world.hooks.size() - 1) || !in(x, 0, 19) || world.hooks.get(hook).x == x) {
            return 0;
        }
        keep();
        world.hooks.get(hook).x = x;
        return 1;
    }

    int patch(int silk, boolean more) {
        if (!in(silk, 0, world.silks.size() - 1) || world.silks.get(silk).load != -2
                || world.silks.get(silk).pull == (more ? 3 : -3)) {
            return 0;
        }
        keep();
        world.silks.get(silk).pull += more ? 1 : -1;
        return 1;
    }

    private void pass(World w, int n, int seed) {
        for (int i = 0; i < n; i++) {
            hour(w, gust(w.hour, seed));
        }
    }

    int hours(int n) {
        if (!in(n, 0, 72)) {
            return -1;
        }
        if (n > 0) {
            keep();
            pass(world, n, text.seed);
        }
        return world.hour;
    }

    int undo() {
        if (done.isEmpty()) {
            return 0;
        }
        world = done.removeLast();
        return 1;
    }

    int flight(int load, int silk, int w, int what) {
        if (!isPair(load, silk) || !in(w, 0, 24) || !in(what, 0, 3)) {
            return -1;
        }
        return isReady(load, silk) ? flightOf(load, silk, w)[what] : -2;
    }

    int soon(int load, int silk, int hook) {
        if (!isReady(load, silk) || !in(hook, 0, world.hooks.size() - 1)) {
            return -1;
        }
        for (int w = 0; w <= 24; w++) {
            int[] flight = flightOf(load, silk, w);
            if (flight[1] == 1 && flight[2] == hook) {
                return w;
            }
        }
        return -2;
    }

    int patches(int load, int silk, int hook) {
        if (!isReady(load, silk) || !in(hook, 0, world.hooks.size() - 1)) {
            return -1000;
        }
        int own = world.silks.get(silk).pull;
        int best = -100;
        for (int pull = -3; pull <= 3; pull++) {
            World w = world.clear();
            w.silks.get(silk).pull = pull;
            int[] flight = fly(w, load, silk, 48);
            if (flight[2] == hook && (best == -100 || Math.abs(pull - own) < Math.abs(best - own))) {
                best = pull;
            }
        }
        return best;
    }

    int near(int x) {
        if (!in(x, 0, 19)) {
            return -1;
        }
        int[] left = new int[world.hooks.size()];
        Arrays.fill(left, 1);
        return nearest(world, x, left);
    }

    int lifts(int silk, int x) {
        if (!in(silk, 0, world.silks.size() - 1) || world.silks.get(silk).load != -2 || !in(x, 0, 19)) {
            return -1;
        }
        int best = -2;
        Silk s = world.silks.get(silk);
        for (int weight = 1; weight <= 9; weight++) {
            int how = flightOfOther(s.size, weight, s.pull, x, 48)[1];
            if (how == 1 || how == 2) {
                best = weight;
            }
        }
        return best;
    }

    private int bestSum;
    private int[] bestSilks;

    private void fillFrom(int load, int[] silks, int sum, int[][] gains) {
        if (load == silks.length) {
            if (bestSilks == null || sum > bestSum) {
                bestSum = sum;
                bestSilks = silks.clone();
            }
            return;
        }
        for (int silk = 0; silk < world.silks.size(); silk++) {
            boolean taken = false;
            for (int i = 0; i < load; i++) {
                taken |= silks[i] == silk;
            }
            if (!taken && gains[load][silk] > Integer.MIN_VALUE) {
                silks[load] = silk;
                fillFrom(load + 1, silks, sum + gains[load][silk], gains);
            }
        }
        silks[load] = -2;
        fillFrom(load + 1, silks, sum, gains);
    }

    int fill(int load) {
        if (!in(load, -1, world.loads.size() - 1)) {
            return -100000;
        }
        int[][] gains = new int[world.loads.size()][world.silks.size()];
        for (int l = 0; l < gains.length; l++) {
            for (int s = 0; s < gains[l].length; s++) {
                gains[l][s] = Integer.MIN_VALUE;
                if (isReady(l, s)) {
                    int[] flight = flightOf(l, s, 0);
                    if (flight[1] == 1) {
                        gains[l][s] = flight[4] - ties(world, l, s);
                    }
                }
            }
        }
        bestSilks = null;
        fillFrom(0, new int[gains.length], 0, gains);
        return load == -1 ? bestSum : bestSilks[load];
    }

    private int hookedBy(int set) {
        int loads = 0;
        for (int l = 0; l < world.loads.size(); l++) {
            for (int s = 0; s < world.silks.size(); s++) {
                if (isReady(l, s)) {
                    World w = world.clear();
                    for (int h = 0; h < w.hooks.size(); h++) {
                        if ((set >> h & 1) == 0) {
                            w.hooks.get(h).x = 1000;
                        }
                    }
                    if (fly(w, l, s, 48)[1] == 1) {
                        loads |= 1 << l;
                    }
                }
            }
        }
        return loads;
    }

    int fewest() {
        int all = (1 << world.hooks.size()) - 1;
        int loads = hookedBy(all);
        for (int count = 0; count <= 5; count++) {
            for (int set = 0; set <= all; set++) {
                if (Integer.bitCount(set) == count && hookedBy(set) == loads) {
                    return set;
                }
            }
        }
        return -7;
    }

    int waits(int load, int silk, int what) {
        if (!isReady(load, silk) || !in(what, 0, 1)) {
            return -100000;
        }
        int[] best = null;
        for (int w = 0; w <= 24; w++) {
            World then = world.clear();
            then.hour += w;
            int much = flightOf(load, silk, w)[4] - ties(then, load, silk) - w;
            if (best == null || much > best[1]) {
                best = new int[] {w, much};
            }
        }
        return best[what];
    }

    int then(int load, int n, int what) {
        if (!in(load, 0, world.loads.size() - 1) || !in(n, 0, 72) || !in(what, 0, 2)) {
            return -1;
        }
        World w = world.copy();
        pass(w, n, text.seed);
        Load l = w.loads.get(load);
        return pick(what, l.how, l.x, l.high);
    }

    int earns(int n) {
        if (!in(n, 0, 72)) {
            return -1;
        }
        World w = world.copy();
        pass(w, n, text.seed);
        return w.earned - world.earned;
    }

    int year(int load, int n, int s) {
        if (!in(load, 0, world.loads.size() - 1) || !in(n, 0, 72) || !in(s, 1, 20)) {
            return -1;
        }
        int count = 0;
        for (int i = 0; i < s; i++) {
            World w = world.copy();
            pass(w, n, text.seed + i);
            count += w.loads.get(load).how == 2 ? 1 : 0;
        }
        return count;
    }

    int tell(int size, int weight, int x, int n, int at) {
        if (!in(size, 1, 9) || !in(weight, 1, 9) || !in(x, 0, 19) || !in(n, 1, 9) || !in(at, 0, 19) || told.size() == 20) {
            return -1;
        }
        told.add(new int[] {size, weight, x, n, at});
        return told.size() - 1;
    }

    int forget() {
        int n = told.size();
        told.clear();
        return n;
    }

    private List<Integer> pullsBy(int k) {
        List<Integer> pulls = new ArrayList<>();
        for (int pull = -3; pull <= 3; pull++) {
            boolean fits = true;
            for (int[] t : told.subList(0, k)) {
                int[] flight = flightOfOther(t[0], t[1], pull, t[2], t[3]);
                fits &= flight[1] == 0 && flight[3] == t[4];
            }
            if (fits) {
                pulls.add(pull);
            }
        }
        return pulls;
    }

    int pulls(int k, int what) {
        if (!in(k, 0, told.size()) || !in(what, 0, 1)) {
            return -1;
        }
        int bits = 0;
        for (int pull : pullsBy(k)) {
            bits += 1 << (pull + 3);
        }
        return what == 0 ? pullsBy(k).size() : bits;
    }

    int sure(int k) {
        if (!in(k, 0, told.size())) {
            return -1000;
        }
        List<Integer> pulls = pullsBy(k);
        return pulls.size() == 1 ? pulls.get(0) : -100;
    }

    int hold(int slot) {
        if (!in(slot, 0, 2)) {
            return 0;
        }
        slots[slot] = world.copy();
        return 1;
    }

    int restore(int slot) {
        if (!in(slot, 0, 2) || slots[slot] == null) {
            return 0;
        }
        world = slots[slot].copy();
        done.clear();
        return 1;
    }

    int count(int what) {
        int held = 0;
        for (World slot : slots) {
            held += slot == null ? 0 : 1;
        }
        return pick(what, world.loads.size(), world.silks.size(), world.hooks.size(), world.hour, world.bits(0), world.bits(1),
                world.bits(2), world.bits(3), world.earned, world.paid, tape.size(), done.size(), told.size(), held,
                gust(world.hour, text.seed) ? 1 : 0, text.rim);
    }
}
