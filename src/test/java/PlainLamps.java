import java.util.ArrayList;
import java.util.Arrays;
import java.util.HashMap;
import java.util.HashSet;
import java.util.List;
import java.util.Map;
import java.util.NoSuchElementException;
import java.util.Set;

/**
 * The document once more, word by word and without any thought of speed, so that random runs of
 * calls can be compared with the class. It shares no code with it.
 */
public final class PlainLamps {
    public static final int NONE = -1;
    static final long WHOLE = 27720;

    /** A lamp: from, to, volts. */
    record Lamp(int from, int to, int volts) {
    }

    record Seen(int high, int low, long lamps) {
    }

    record Kept(List<Lamp> lamps, int high, int low, long[] pictures, List<Seen> seen) {
    }

    /** What a setting makes of the board: all lights, all paths that carry. */
    record Way(List<Integer> lamps, int start, int end, long amount) {
    }

    int wide = 4;
    int[] ohms = {1, 1, 1, 1, 1, 1, 1, 1, 1, 1};
    List<Lamp> lamps = new ArrayList<>();
    int supply = 5;
    int depth = 2;
    int faint = 0;
    int high = 0;
    int low = 0;
    long[] pictures = new long[4];
    List<Seen> seen = new ArrayList<>();
    List<int[]> tests = new ArrayList<>();
    String text = "";
    List<Long> row = new ArrayList<>();
    Kept[] kept = new Kept[2];

    // ---------------------------------------------------------------- paths and light

    /** As a setting and a fault leave it: states 0 let go, 1 high, 2 low; a lamp that is null is off. */
    static final class Scene {
        int[] states;
        int[] ohms;
        List<Lamp> lamps;
        boolean dark = false;
    }

    Scene scene(int h, int l) {
        Scene scene = new Scene();
        scene.states = new int[10];
        for (int w = 0; w < 10; w++) {
            scene.states[w] = (h >> w & 1) == 1 ? 1 : (l >> w & 1) == 1 ? 2 : 0;
        }
        scene.ohms = ohms.clone();
        scene.lamps = new ArrayList<>(lamps);
        return scene;
    }

    List<Way> ways(Scene scene) {
        List<Way> found = new ArrayList<>();
        if (scene.dark) {
            return found;
        }
        for (int w = 0; w < wide; w++) {
            if (scene.states[w] == 1) {
                extend(scene, new ArrayList<>(), new ArrayList<>(List.of(w)), found);
            }
        }
        return found;
    }

    void extend(Scene scene, List<Integer> taken, List<Integer> wires, List<Way> found) {
        int at = wires.get(wires.size() - 1);
        if (!taken.isEmpty() && scene.states[at] == 2) {
            int sum = 0;
            for (int lamp : taken) {
                sum += scene.lamps.get(lamp).volts();
            }
            if (supply > sum) {
                int parts = scene.ohms[wires.get(0)] + scene.ohms[at] + taken.size();
                if (WHOLE % parts != 0) {
                    throw new AssertionError("not whole");
                }
                found.add(new Way(new ArrayList<>(taken), wires.get(0), at, WHOLE * (supply - sum) / parts));
            }
            return;
        }
        if (taken.size() == depth || !taken.isEmpty() && scene.states[at] != 0) {
            return;
        }
        for (int k = 0; k < scene.lamps.size(); k++) {
            Lamp lamp = scene.lamps.get(k);
            if (lamp != null && lamp.from() == at && !wires.contains(lamp.to())) {
                taken.add(k);
                wires.add(lamp.to());
                extend(scene, taken, wires, found);
                taken.remove(taken.size() - 1);
                wires.remove(wires.size() - 1);
            }
        }
    }

    long[] lights(List<Way> ways) {
        long[] light = new long[60];
        for (Way way : ways) {
            for (int lamp : way.lamps()) {
                light[lamp] += way.amount();
            }
        }
        return light;
    }

    long glow(Scene scene) {
        long[] light = lights(ways(scene));
        long glow = 0;
        for (int k = 0; k < lamps.size(); k++) {
            if (light[k] > 0 && light[k] * 100 >= faint * WHOLE) {
                glow |= 1L << k;
            }
        }
        return glow;
    }

    long glow(int h, int l) {
        return glow(scene(h, l));
    }

    long asked(int h, int l) {
        long set = 0;
        for (int k = 0; k < lamps.size(); k++) {
            if ((h >> lamps.get(k).from() & 1) == 1 && (l >> lamps.get(k).to() & 1) == 1) {
                set |= 1L << k;
            }
        }
        return set;
    }

    int settings() {
        return (int) Math.round(Math.pow(3, wide));
    }

    /** High and low of a setting's number. */
    int[] opened(int number) {
        String digits = Integer.toString(number, 3);
        while (digits.length() < wide) {
            digits = "0" + digits;
        }
        int h = 0;
        int l = 0;
        for (int w = 0; w < wide; w++) {
            h |= digits.charAt(w) == '1' ? 1 << w : 0;
            l |= digits.charAt(w) == '2' ? 1 << w : 0;
        }
        return new int[] {h, l};
    }

    String cacheKey = "";
    long[] cacheGlow;
    boolean[] cacheClean;

    void fill() {
        String key = wide + " " + Arrays.toString(ohms) + lamps + supply + " " + depth + " " + faint;
        if (key.equals(cacheKey)) {
            return;
        }
        cacheKey = key;
        cacheGlow = new long[settings()];
        cacheClean = new boolean[settings()];
        for (int s = 0; s < settings(); s++) {
            int[] hl = opened(s);
            cacheGlow[s] = glow(hl[0], hl[1]);
            cacheClean[s] = (cacheGlow[s] & ~asked(hl[0], hl[1])) == 0;
        }
    }

    // ---------------------------------------------------------------- what is there

    boolean isWire(int w) {
        return w >= 0 && w < wide;
    }

    boolean isLamp(int k) {
        return k >= 0 && k < lamps.size();
    }

    boolean isSet(long set) {
        for (int k = 0; k < 64; k++) {
            if ((set >>> k & 1) == 1 && k >= lamps.size()) {
                return false;
            }
        }
        return true;
    }

    boolean isSetting(int h, int l) {
        for (int w = 0; w < 32; w++) {
            boolean inHigh = (h >>> w & 1) == 1;
            boolean inLow = (l >>> w & 1) == 1;
            if (inHigh && inLow || (inHigh || inLow) && w >= wide) {
                return false;
            }
        }
        return true;
    }

    boolean tooWide() {
        return wide > 7;
    }

    void tell(long... numbers) {
        row = new ArrayList<>();
        for (long number : numbers) {
            row.add(number);
        }
    }

    // ---------------------------------------------------------------- the board

    public int sign(int v) {
        if (text.length() > 76) {
            return NONE;
        }
        text += "" + (char) (v >>> 24 & 255) + (char) (v >>> 16 & 255) + (char) (v >>> 8 & 255) + (char) (v & 255);
        return text.length();
    }

    public boolean end(int n) {
        if (n < 0 || n > text.length()) {
            return false;
        }
        text = text.substring(0, n);
        return true;
    }

    /** Goes sign by sign by a little table of what a line wants: W wire, V other wire, N number. */
    public int board() {
        String all = text;
        text = "";
        if (all.isEmpty()) {
            return 0;
        }
        String first = all.length() > 76 ? all.substring(0, 76) : all;
        int draftWide = wide;
        int draftLamps = lamps.size();
        List<int[]> lines = new ArrayList<>();
        int p = 0;
        while (true) {
            if (p >= first.length()) {
                return -1 - p;
            }
            char c = first.charAt(p);
            String wants;
            if (c == 'w') {
                wants = "wN";
            } else if (c == 'r') {
                wants = "rW,N";
            } else if (c >= '0' && c <= '9') {
                if (draftLamps == 60) {
                    return -1 - p;
                }
                wants = "W>V*N";
            } else {
                return -1 - p;
            }
            int[] line = {c, -1, -1, -1};
            for (int k = 0; k < wants.length(); k++) {
                char want = wants.charAt(k);
                if (p >= first.length()) {
                    return -1 - p;
                }
                char sign = first.charAt(p);
                boolean digit = sign >= '0' && sign <= '9';
                if (want == 'W' || want == 'V') {
                    int wire = sign - '0';
                    if (!digit || wire >= draftWide || want == 'V' && wire == line[1]) {
                        return -1 - p;
                    }
                    line[want == 'W' ? 1 : 2] = wire;
                    p++;
                } else if (want == 'N') {
                    if (!digit) {
                        return -1 - p;
                    }
                    int q = p + 1;
                    if (q < first.length() && first.charAt(q) >= '0' && first.charAt(q) <= '9') {
                        q++;
                    }
                    int value = Integer.parseInt(first.substring(p, q));
                    int least = c == 'w' ? 2 : c == 'r' ? 0 : 1;
                    int most = c == 'w' ? 10 : c == 'r' ? 4 : 9;
                    if (value < least || value > most) {
                        return -1 - (q - 1);
                    }
                    line[3] = value;
                    p = q;
                } else if (sign != want) {
                    return -1 - p;
                } else {
                    p++;
                }
            }
            lines.add(line);
            if (c == 'w') {
                draftWide = line[3];
                draftLamps = 0;
            } else if (c != 'r') {
                draftLamps++;
            }
            if (p == first.length()) {
                break;
            }
            if (first.charAt(p) != ';') {
                return -1 - p;
            }
            p++;
        }
        if (all.length() > 76) {
            return -77;
        }
        for (int[] line : lines) {
            if (line[0] == 'w') {
                wide = line[3];
                lamps = new ArrayList<>();
                seen = new ArrayList<>();
                pictures = new long[4];
                tests = new ArrayList<>();
                high = 0;
                low = 0;
                kept = new Kept[2];
            } else if (line[0] == 'r') {
                ohms[line[1]] = line[3];
            } else {
                lamps.add(new Lamp(line[1], line[2], line[3]));
            }
        }
        return lines.size();
    }

    public int set(int what, int v) {
        int was;
        switch (what) {
            case 0:
                was = supply;
                if (v < 1 || v > 20) {
                    return NONE;
                }
                supply = v;
                return was;
            case 1:
                was = depth;
                if (v < 1 || v > 3) {
                    return NONE;
                }
                depth = v;
                return was;
            case 2:
                was = faint;
                if (v < 0 || v > 99) {
                    return NONE;
                }
                faint = v;
                return was;
            default:
                return NONE;
        }
    }

    public int lamp(int lamp, int what) {
        if (!isLamp(lamp) || what < 0 || what > 2) {
            throw new NoSuchElementException();
        }
        Lamp it = lamps.get(lamp);
        return new int[] {it.from(), it.to(), it.volts()}[what];
    }

    public int ohms(int wire) {
        return isWire(wire) ? ohms[wire] : NONE;
    }

    public int sheet(int kind, int n, int f, int step) {
        if (kind < 0 || kind > 3 || n > 60) {
            return NONE;
        }
        if (kind < 3 && n < 0) {
            return -2;
        }
        int[] entries = new int[kind == 3 ? 0 : n];
        int value = f;
        for (int k = 0; k < entries.length; k++) {
            entries[k] = kind == 0 ? (byte) value : kind == 1 ? (short) value : value;
            value += step;
        }
        int sum = 0;
        for (int k = 0; k < lamps.size(); k++) {
            int volts = k >= entries.length || entries[k] < 1 ? 1 : entries[k] > 9 ? 9 : entries[k];
            lamps.set(k, new Lamp(lamps.get(k).from(), lamps.get(k).to(), volts));
            sum += volts;
        }
        return kind == 3 ? -3 : sum;
    }

    public boolean swap(int a, int b) {
        if (!isLamp(a) || !isLamp(b) || a == b) {
            return false;
        }
        lamps = swapped(a, b);
        return true;
    }

    List<Lamp> swapped(int a, int b) {
        List<Lamp> result = new ArrayList<>(lamps);
        result.set(a, new Lamp(lamps.get(b).from(), lamps.get(b).to(), lamps.get(a).volts()));
        result.set(b, new Lamp(lamps.get(a).from(), lamps.get(a).to(), lamps.get(b).volts()));
        return result;
    }

    // ---------------------------------------------------------------- what glows

    public int put(int h, int l) {
        if (!isSetting(h, l)) {
            return NONE;
        }
        high = h;
        low = l;
        return Long.bitCount(glow(h, l));
    }

    public long glows() {
        return glow(high, low);
    }

    public long ghosts() {
        return glow(high, low) & ~asked(high, low);
    }

    List<Way> through(int lamp) {
        List<Way> result = new ArrayList<>();
        for (Way way : ways(scene(high, low))) {
            if (way.lamps().contains(lamp)) {
                result.add(way);
            }
        }
        return result;
    }

    public long light(int lamp) {
        if (!isLamp(lamp)) {
            return NONE;
        }
        long sum = 0;
        long most = 0;
        List<Way> mine = through(lamp);
        for (Way way : mine) {
            sum += way.amount();
            most = Math.max(most, way.amount());
        }
        tell(mine.size(), most);
        return sum;
    }

    static int compare(List<Integer> a, List<Integer> b) {
        for (int k = 0; k < Math.min(a.size(), b.size()); k++) {
            if (!a.get(k).equals(b.get(k))) {
                return a.get(k) - b.get(k);
            }
        }
        return a.size() - b.size();
    }

    public long why(int lamp) {
        if (!isLamp(lamp)) {
            return NONE;
        }
        List<Way> mine = through(lamp);
        if (mine.isEmpty()) {
            return -2;
        }
        mine.sort((a, b) -> a.amount() != b.amount() ? Long.compare(b.amount(), a.amount())
            : a.lamps().size() != b.lamps().size() ? a.lamps().size() - b.lamps().size()
            : compare(a.lamps(), b.lamps()));
        row = new ArrayList<>();
        for (int k : mine.get(0).lamps()) {
            row.add((long) k);
        }
        return mine.get(0).amount();
    }

    public long draws(int wire) {
        if (!isWire(wire)) {
            return NONE;
        }
        long sum = 0;
        for (Way way : ways(scene(high, low))) {
            sum += way.start() == wire || way.end() == wire ? way.amount() : 0;
        }
        return sum;
    }

    public int brightest() {
        long glow = glow(high, low);
        long[] light = lights(ways(scene(high, low)));
        int bright = -1;
        int dim = -1;
        for (int k = 0; k < lamps.size(); k++) {
            if ((glow >> k & 1) == 1) {
                if (bright < 0 || light[k] > light[bright]) {
                    bright = k;
                }
                if (dim < 0 || light[k] < light[dim]) {
                    dim = k;
                }
            }
        }
        if (bright < 0) {
            return -2;
        }
        tell(light[bright], dim, light[dim]);
        return bright;
    }

    // ---------------------------------------------------------------- settings that show

    public int shows(long set) {
        if (!isSet(set)) {
            return NONE;
        }
        if (tooWide()) {
            return -3;
        }
        fill();
        List<Integer> those = new ArrayList<>();
        for (int s = 0; s < settings(); s++) {
            if (cacheGlow[s] == set) {
                those.add(s);
            }
        }
        if (those.isEmpty()) {
            return -2;
        }
        int[] hl = opened(those.get(0));
        tell(hl[0], hl[1], those.size());
        return those.get(0);
    }

    public int bars(long set) {
        if (!isSet(set)) {
            return NONE;
        }
        if (tooWide()) {
            return -3;
        }
        fill();
        for (int others = 0; others <= 60; others++) {
            for (int s = 0; s < settings(); s++) {
                if ((cacheGlow[s] & set) == set && Long.bitCount(cacheGlow[s] ^ set) == others) {
                    tell(s, others == 0 ? NONE : Long.numberOfTrailingZeros(cacheGlow[s] ^ set));
                    return others;
                }
            }
        }
        return -2;
    }

    public int most() {
        if (tooWide()) {
            return -3;
        }
        fill();
        for (int many = 60; many >= 0; many--) {
            for (int s = 0; s < settings(); s++) {
                if (cacheClean[s] && Long.bitCount(cacheGlow[s]) == many) {
                    tell(s);
                    return many;
                }
            }
        }
        throw new AssertionError();
    }

    public int sets() {
        if (tooWide()) {
            return -3;
        }
        fill();
        Set<Long> all = new HashSet<>();
        Set<Long> clean = new HashSet<>();
        for (int s = 0; s < settings(); s++) {
            all.add(cacheGlow[s]);
            if (cacheClean[s]) {
                clean.add(cacheGlow[s]);
            }
        }
        tell(clean.size());
        return all.size();
    }

    public int fits(int a, int b) {
        if (!isLamp(a) || !isLamp(b) || a == b) {
            return NONE;
        }
        if (tooWide()) {
            return -3;
        }
        fill();
        for (int s = 0; s < settings(); s++) {
            if (cacheClean[s] && (cacheGlow[s] >> a & 1) == 1 && (cacheGlow[s] >> b & 1) == 1) {
                return 1;
            }
        }
        return 0;
    }

    public long alone() {
        if (tooWide()) {
            return -3;
        }
        fill();
        long result = 0;
        for (int s = 0; s < settings(); s++) {
            if (Long.bitCount(cacheGlow[s]) == 1) {
                result |= cacheGlow[s];
            }
        }
        return result;
    }

    public int twins() {
        if (tooWide()) {
            return -3;
        }
        fill();
        int pairs = 0;
        row = new ArrayList<>();
        for (int a = 0; a < lamps.size(); a++) {
            for (int b = a + 1; b < lamps.size(); b++) {
                boolean same = true;
                boolean some = false;
                for (int s = 0; s < settings() && same; s++) {
                    same = (cacheGlow[s] >> a & 1) == (cacheGlow[s] >> b & 1);
                    some |= (cacheGlow[s] >> a & 1) == 1;
                }
                if (same && some) {
                    if (pairs == 0) {
                        tell(a, b);
                    }
                    pairs++;
                }
            }
        }
        return pairs;
    }

    public int range(int h, int l) {
        if (!isSetting(h, l)) {
            return NONE;
        }
        long now = glow(h, l);
        int was = supply;
        int result = 0;
        for (supply = 1; supply <= 20; supply++) {
            result |= glow(h, l) == now ? 1 << supply : 0;
        }
        supply = was;
        return result;
    }

    // ---------------------------------------------------------------- pictures

    public int picture(int i, long set) {
        if (i < 0 || i > 3 || !isSet(set)) {
            return NONE;
        }
        pictures[i] = set;
        return Long.bitCount(set);
    }

    List<Integer> turns(long picture) {
        fill();
        List<Integer> result = new ArrayList<>();
        for (int s = 0; s < settings(); s++) {
            if (cacheClean[s] && cacheGlow[s] != 0 && (cacheGlow[s] & picture) == cacheGlow[s]) {
                result.add(s);
            }
        }
        return result;
    }

    /** Rising rows of k turns in their order; the first that covers; null if there is none. */
    List<Integer> cover(List<Integer> turns, int from, int k, long left) {
        if (left == 0 && k == 0) {
            return new ArrayList<>();
        }
        if (k == 0) {
            return null;
        }
        int widest = 0;
        for (int t = from; t < turns.size(); t++) {
            widest = Math.max(widest, Long.bitCount(cacheGlow[turns.get(t)] & left));
        }
        if ((long) widest * k < Long.bitCount(left)) {
            return null;
        }
        for (int t = from; t < turns.size(); t++) {
            List<Integer> rest = cover(turns, t + 1, k - 1, left & ~cacheGlow[turns.get(t)]);
            if (rest != null) {
                rest.add(0, turns.get(t));
                return rest;
            }
        }
        return null;
    }

    /** The fewest turns; null if it can't be. */
    List<Integer> part(long picture) {
        List<Integer> turns = turns(picture);
        long all = 0;
        for (int s : turns) {
            all |= cacheGlow[s];
        }
        if (all != picture) {
            return null;
        }
        for (int k = 0;; k++) {
            List<Integer> found = cover(turns, 0, k, picture);
            if (found != null) {
                return found;
            }
        }
    }

    int partRefused(int i) {
        if (i < 0 || i > 3) {
            return NONE;
        }
        if (tooWide()) {
            return -3;
        }
        return Long.bitCount(pictures[i]) > 12 ? -4 : 0;
    }

    public int parted(int i) {
        if (partRefused(i) != 0) {
            return partRefused(i);
        }
        List<Integer> found = part(pictures[i]);
        if (found == null) {
            return -2;
        }
        row = new ArrayList<>();
        for (int s : found) {
            row.add((long) s);
        }
        return found.size();
    }

    public int proof(int i) {
        if (partRefused(i) != 0) {
            return partRefused(i);
        }
        long best = 0;
        List<Integer> turns = turns(pictures[i]);
        long set = 0;
        do {
            boolean apart = Long.bitCount(set) > Long.bitCount(best);
            for (int t = 0; t < turns.size() && apart; t++) {
                apart = Long.bitCount(cacheGlow[turns.get(t)] & set) < 2;
            }
            best = apart ? set : best;
            set = (set - pictures[i]) & pictures[i];
        } while (set != 0);
        tell(best);
        return Long.bitCount(best);
    }

    public long never(int i) {
        if (i < 0 || i > 3) {
            return NONE;
        }
        if (tooWide()) {
            return -3;
        }
        long left = pictures[i];
        for (int s : turns(pictures[i])) {
            left &= ~cacheGlow[s];
        }
        return left;
    }

    int changesOf(List<Integer> order) {
        int sum = 0;
        int[] before = {0, 0};
        for (int s : order) {
            int[] hl = opened(s);
            for (int w = 0; w < wide; w++) {
                boolean same = (hl[0] >> w & 1) == (before[0] >> w & 1) && (hl[1] >> w & 1) == (before[1] >> w & 1);
                sum += same ? 0 : 1;
            }
            before = hl;
        }
        return sum;
    }

    void orders(List<Integer> taken, List<Integer> left, List<List<Integer>> result) {
        if (left.isEmpty()) {
            result.add(new ArrayList<>(taken));
        }
        for (int k = 0; k < left.size(); k++) {
            List<Integer> rest = new ArrayList<>(left);
            taken.add(rest.remove(k));
            orders(taken, rest, result);
            taken.remove(taken.size() - 1);
        }
    }

    public int changes(int i) {
        if (partRefused(i) != 0) {
            return partRefused(i);
        }
        List<Integer> found = part(pictures[i]);
        if (found == null) {
            return -2;
        }
        if (found.size() > 6) {
            return -5;
        }
        List<List<Integer>> all = new ArrayList<>();
        orders(new ArrayList<>(), found, all);
        all.sort((a, b) -> changesOf(a) != changesOf(b) ? changesOf(a) - changesOf(b) : compare(a, b));
        row = new ArrayList<>();
        for (int s : all.get(0)) {
            row.add((long) s);
        }
        return changesOf(all.get(0));
    }

    public long even(int i, int n) {
        if (i < 0 || i > 3 || n < 1 || n > 200) {
            return NONE;
        }
        if (partRefused(i) != 0) {
            return partRefused(i);
        }
        List<Integer> found = part(pictures[i]);
        if (found == null || n < found.size()) {
            return -2;
        }
        List<long[]> lights = new ArrayList<>();
        for (int s : found) {
            int[] hl = opened(s);
            lights.add(lights(ways(scene(hl[0], hl[1]))));
        }
        long[] slots = new long[found.size()];
        Arrays.fill(slots, 1);
        if (pictures[i] == 0) {
            tell();
            return 0;
        }
        for (int given = found.size();; given++) {
            int dim = -1;
            long least = 0;
            for (int k = 0; k < lamps.size(); k++) {
                if ((pictures[i] >> k & 1) == 1) {
                    long sum = 0;
                    for (int t = 0; t < slots.length; t++) {
                        sum += slots[t] * lights.get(t)[k];
                    }
                    if (dim < 0 || sum < least) {
                        dim = k;
                        least = sum;
                    }
                }
            }
            if (given == n) {
                tell(slots);
                return least;
            }
            int best = 0;
            for (int t = 0; t < slots.length; t++) {
                best = lights.get(t)[dim] > lights.get(best)[dim] ? t : best;
            }
            slots[best]++;
        }
    }

    public int better(int i) {
        if (i < 0 || i > 3 || lamps.size() < 2) {
            return NONE;
        }
        if (wide > 4 || lamps.size() > 12) {
            return -3;
        }
        List<Lamp> was = lamps;
        List<Integer> now = part(pictures[i]);
        int least = -2;
        int[] pair = null;
        for (int a = 0; a < was.size(); a++) {
            for (int b = a + 1; b < was.size(); b++) {
                lamps = was;
                lamps = swapped(a, b);
                List<Integer> then = part(pictures[i]);
                if (then != null && (pair == null || then.size() < least)) {
                    least = then.size();
                    pair = new int[] {a, b};
                }
            }
        }
        lamps = was;
        if (pair != null) {
            tell(pair[0], pair[1], now == null ? -2 : now.size());
        }
        return least;
    }

    // ---------------------------------------------------------------- faults

    /** All faults in their order: kind, first, second. */
    List<int[]> list() {
        List<int[]> result = new ArrayList<>();
        result.add(new int[] {0, NONE, NONE});
        for (int w = 0; w < wide; w++) {
            result.add(new int[] {1, w, NONE});
        }
        for (int a = 0; a < wide; a++) {
            for (int b = a + 1; b < wide; b++) {
                result.add(new int[] {2, a, b});
            }
        }
        for (int k = 0; k < lamps.size(); k++) {
            result.add(new int[] {3, k, NONE});
        }
        return result;
    }

    boolean isFault(int f) {
        return f >= 0 && f < list().size();
    }

    long with(int f, int h, int l) {
        int[] fault = list().get(f);
        Scene scene = scene(h, l);
        if (fault[0] == 1) {
            scene.states[fault[1]] = 0;
            for (int k = 0; k < lamps.size(); k++) {
                if (lamps.get(k).from() == fault[1] || lamps.get(k).to() == fault[1]) {
                    scene.lamps.set(k, null);
                }
            }
        } else if (fault[0] == 2) {
            touch(scene, fault[1], fault[2]);
        } else if (fault[0] == 3) {
            Lamp lamp = lamps.get(fault[1]);
            scene.lamps.set(fault[1], new Lamp(lamp.to(), lamp.from(), lamp.volts()));
        }
        return glow(scene);
    }

    void touch(Scene scene, int a, int b) {
        if (scene.states[a] != 0 && scene.states[b] != 0 && scene.states[a] != scene.states[b]) {
            scene.dark = true;
            return;
        }
        if (scene.states[a] == 0) {
            scene.states[a] = scene.states[b];
            scene.ohms[a] = scene.ohms[b];
        }
        scene.states[b] = 0;
        for (int k = 0; k < lamps.size(); k++) {
            Lamp lamp = lamps.get(k);
            int from = lamp.from() == b ? a : lamp.from();
            int to = lamp.to() == b ? a : lamp.to();
            scene.lamps.set(k, from == to ? null : new Lamp(from, to, lamp.volts()));
        }
    }

    public int faults() {
        tell(1 + wide, 1 + wide + wide * (wide - 1) / 2);
        return list().size();
    }

    public int fault(int fault, int what) {
        if (!isFault(fault) || what < 0 || what > 2) {
            throw new NoSuchElementException();
        }
        return list().get(fault)[what];
    }

    public long would(int fault, int h, int l) {
        return isFault(fault) && isSetting(h, l) ? with(fault, h, l) : NONE;
    }

    List<Integer> parting(int a, int b, boolean onlyFirst) {
        List<Integer> result = new ArrayList<>();
        for (int s = 0; s < settings(); s++) {
            int[] hl = opened(s);
            if (with(a, hl[0], hl[1]) != with(b, hl[0], hl[1])) {
                result.add(s);
                if (onlyFirst) {
                    return result;
                }
            }
        }
        return result;
    }

    public int tells(int fault) {
        if (!isFault(fault)) {
            return NONE;
        }
        if (tooWide()) {
            return -3;
        }
        List<Integer> those = parting(0, fault, false);
        tell();
        if (!those.isEmpty()) {
            tell(those.get(0));
        }
        return those.size();
    }

    public int hidden() {
        if (tooWide()) {
            return -3;
        }
        tell();
        int many = 0;
        for (int f = 1; f < list().size(); f++) {
            if (parting(0, f, true).isEmpty()) {
                many++;
                if (row.size() < 8) {
                    row.add((long) f);
                }
            }
        }
        return many;
    }

    public int alike(int a, int b) {
        if (!isFault(a) || !isFault(b)) {
            return NONE;
        }
        if (tooWide()) {
            return -3;
        }
        List<Integer> those = parting(a, b, true);
        if (those.isEmpty()) {
            return 1;
        }
        tell(those.get(0));
        return 0;
    }

    public int seen(int h, int l, long set) {
        if (!isSetting(h, l) || !isSet(set) || seen.size() == 12) {
            return NONE;
        }
        seen.add(new Seen(h, l, set));
        return seen.size();
    }

    public int forget() {
        if (seen.isEmpty()) {
            return NONE;
        }
        seen.remove(seen.size() - 1);
        return seen.size();
    }

    List<Integer> agreeing() {
        List<Integer> result = new ArrayList<>();
        for (int f = 0; f < list().size(); f++) {
            if (judge(f) == -2) {
                result.add(f);
            }
        }
        return result;
    }

    public int which() {
        List<Integer> those = agreeing();
        tell();
        for (int f : those) {
            if (row.size() < 8) {
                row.add((long) f);
            }
        }
        return those.size();
    }

    public int judge(int fault) {
        if (!isFault(fault)) {
            return NONE;
        }
        for (int k = 0; k < seen.size(); k++) {
            if (with(fault, seen.get(k).high(), seen.get(k).low()) != seen.get(k).lamps()) {
                return k;
            }
        }
        return -2;
    }

    public int next() {
        if (tooWide()) {
            return -3;
        }
        List<Integer> those = agreeing();
        if (those.isEmpty()) {
            return -2;
        }
        int least = Integer.MAX_VALUE;
        int at = -1;
        for (int s = 0; s < settings(); s++) {
            int[] hl = opened(s);
            Map<Long, Integer> left = new HashMap<>();
            for (int f : those) {
                left.merge(with(f, hl[0], hl[1]), 1, Integer::sum);
            }
            int worst = 0;
            for (int many : left.values()) {
                worst = Math.max(worst, many);
            }
            if (worst < least) {
                least = worst;
                at = s;
            }
        }
        tell(at);
        return least;
    }

    public int test(int h, int l) {
        if (!isSetting(h, l) || tests.size() == 8) {
            return NONE;
        }
        tests.add(new int[] {h, l});
        return tests.size() - 1;
    }

    /** What the tests show for each fault. */
    Map<Integer, List<Long>> results(List<Integer> those) {
        Map<Integer, List<Long>> result = new HashMap<>();
        for (int f : those) {
            List<Long> shown = new ArrayList<>();
            for (int[] test : tests) {
                shown.add(with(f, test[0], test[1]));
            }
            result.put(f, shown);
        }
        return result;
    }

    Map<List<Integer>, Integer> depths = new HashMap<>();

    List<List<Integer>> split(List<Integer> those, Map<Integer, List<Long>> results, int t) {
        Map<Long, List<Integer>> groups = new HashMap<>();
        for (int f : those) {
            groups.computeIfAbsent(results.get(f).get(t), g -> new ArrayList<>()).add(f);
        }
        return new ArrayList<>(groups.values());
    }

    int depthOf(List<Integer> those, Map<Integer, List<Long>> results) {
        if (depths.containsKey(those)) {
            return depths.get(those);
        }
        boolean one = true;
        for (int f : those) {
            one &= results.get(f).equals(results.get(those.get(0)));
        }
        int least = one ? 0 : Integer.MAX_VALUE;
        for (int t = 0; t < tests.size() && !one; t++) {
            least = Math.min(least, depthBy(those, results, t));
        }
        depths.put(those, least);
        return least;
    }

    /** The depth if this test comes first; no end of it, if it parts nothing. */
    int depthBy(List<Integer> those, Map<Integer, List<Long>> results, int t) {
        List<List<Integer>> groups = split(those, results, t);
        if (groups.size() == 1) {
            return Integer.MAX_VALUE;
        }
        int worst = 0;
        for (List<Integer> group : groups) {
            worst = Math.max(worst, 1 + depthOf(group, results));
        }
        return worst;
    }

    int firstTest(List<Integer> those, Map<Integer, List<Long>> results) {
        int depth = depthOf(those, results);
        for (int t = 0; t < tests.size() && depth > 0; t++) {
            if (depthBy(those, results, t) == depth) {
                return t;
            }
        }
        return NONE;
    }

    public int tree() {
        List<Integer> those = agreeing();
        if (those.isEmpty()) {
            return -2;
        }
        depths.clear();
        Map<Integer, List<Long>> results = results(those);
        tell(firstTest(those, results), new HashSet<>(results.values()).size());
        return depthOf(those, results);
    }

    public int path(int fault) {
        List<Integer> those = agreeing();
        if (!those.contains(fault)) {
            return NONE;
        }
        depths.clear();
        Map<Integer, List<Long>> results = results(those);
        tell();
        int steps = 0;
        int test = firstTest(those, results);
        while (test != NONE) {
            row.add((long) test);
            steps++;
            for (List<Integer> group : split(those, results, test)) {
                if (group.contains(fault)) {
                    those = group;
                }
            }
            test = firstTest(those, results);
        }
        row.add((long) those.size());
        return steps;
    }

    // ---------------------------------------------------------------- kept

    public boolean keep(int i) {
        if (i < 0 || i > 1) {
            return false;
        }
        kept[i] = new Kept(new ArrayList<>(lamps), high, low, pictures.clone(), new ArrayList<>(seen));
        return true;
    }

    public boolean again(int i) {
        if (i < 0 || i > 1 || kept[i] == null) {
            return false;
        }
        lamps = new ArrayList<>(kept[i].lamps());
        high = kept[i].high();
        low = kept[i].low();
        pictures = kept[i].pictures().clone();
        seen = new ArrayList<>(kept[i].seen());
        return true;
    }

    public int count(int what) {
        int[] all = {wide, lamps.size(), supply, high, low, seen.size(), tests.size(), row.size(), text.length()};
        return what < 0 || what >= all.length ? NONE : all[what];
    }

    public long row(int i) {
        if (i < 0 || i >= row.size()) {
            throw new NoSuchElementException();
        }
        return row.get(i);
    }
}
