import java.util.NoSuchElementException;
import java.util.Random;

/** Random runs of calls, on the class and on the plain model of the document: all answers agree. */
public final class RandomRunsTest {
    static final int CALLS = 200;

    final Random dice;
    final NinetyLamps real = new NinetyLamps();
    final PlainLamps plain = new PlainLamps();
    final StringBuilder told = new StringBuilder();
    final int widest;
    final int mostLamps;
    /** Runs of pictures on a board with lamps between all wires, where many turns are needed. */
    final boolean full;
    String wrong = null;

    RandomRunsTest(long seed) {
        dice = new Random(seed);
        int kind = dice.nextInt(10);
        widest = kind < 5 ? 4 : kind < 8 ? 5 : kind < 9 ? 7 : 10;
        mostLamps = dice.nextInt(4) == 0 ? 60 : 1 + dice.nextInt(12);
        full = seed % 4 == 0;
    }

    public static void main(String[] args) {
        int runs = args.length > 0 ? Integer.parseInt(args[0]) : 400;
        long first = args.length > 1 ? Long.parseLong(args[1]) : 1;
        int bad = 0;
        for (long seed = first; seed < first + runs && bad < 5; seed++) {
            RandomRunsTest run = new RandomRunsTest(seed);
            run.go();
            if (run.wrong != null) {
                bad++;
                System.out.println("seed " + seed + ": " + run.wrong);
                System.out.println(run.told);
            }
        }
        System.out.println(bad == 0 ? "random runs agree" : "random runs do not agree");
        System.exit(bad == 0 ? 0 : 1);
    }

    void fillBoard() {
        int wide = 3 + dice.nextInt(4);
        int missing = dice.nextInt(4);
        write("w" + wide);
        for (int a = 0; a < wide; a++) {
            for (int b = 0; b < wide; b++) {
                if (a != b && dice.nextInt(10) >= missing) {
                    write(a + ">" + b + "*" + (1 + dice.nextInt(4)));
                }
            }
        }
        int depth = 1 + dice.nextInt(10) / 7;
        same("set(1, " + depth + ")", real.set(1, depth), plain.set(1, depth));
        for (int n = 0; n < 5; n++) {
            int[] hl = setting();
            same("test(" + hl[0] + ", " + hl[1] + ")", real.test(hl[0], hl[1]), plain.test(hl[0], hl[1]));
        }
    }

    void go() {
        if (full) {
            fillBoard();
        }
        for (int n = 0; n < CALLS && wrong == null; n++) {
            step();
        }
    }

    int small(int limit) {
        return dice.nextInt(12) == 0 ? odd() : dice.nextInt(Math.max(1, limit));
    }

    int odd() {
        int[] odds = {-1, -2, Integer.MIN_VALUE, Integer.MAX_VALUE, 60, 61, 64, 100, 200, 201, 1 << 20};
        return dice.nextInt(3) == 0 ? dice.nextInt() : odds[dice.nextInt(odds.length)];
    }

    int[] setting() {
        int h = 0;
        int l = 0;
        for (int w = 0; w < plain.wide; w++) {
            int state = dice.nextInt(3);
            h |= state == 1 ? 1 << w : 0;
            l |= state == 2 ? 1 << w : 0;
        }
        if (dice.nextInt(15) == 0) {
            h ^= 1 << dice.nextInt(32);
        }
        if (dice.nextInt(15) == 0) {
            l ^= 1 << dice.nextInt(32);
        }
        return new int[] {h, l};
    }

    long lampSet() {
        int many = plain.lamps.size();
        if (dice.nextInt(20) == 0) {
            return dice.nextLong();
        }
        if (full && many > 0) {
            long few = 0;
            int size = 1 + dice.nextInt(9);
            for (int n = 0; n < size; n++) {
                few |= 1L << dice.nextInt(many);
            }
            return few;
        }
        if (dice.nextInt(3) == 0) {
            int[] hl = setting();
            return plain.isSetting(hl[0], hl[1]) ? plain.glow(hl[0], hl[1]) : 0;
        }
        long set = many == 0 ? 0 : dice.nextLong() & (1L << many) - 1;
        if (dice.nextBoolean()) {
            set &= dice.nextLong();
        }
        for (int k = 0; Long.bitCount(set) > 12 && k < 3; k++) {
            set &= dice.nextLong();
        }
        return set;
    }

    int fault() {
        return small(plain.list().size());
    }

    String line() {
        int kind = dice.nextInt(60);
        if (kind == 0) {
            return "w" + (2 + dice.nextInt(widest - 1));
        }
        if (kind < 6) {
            return "r" + dice.nextInt(plain.wide) + "," + dice.nextInt(5);
        }
        if (kind == 6) {
            return dice.nextBoolean() ? "w0" + dice.nextInt(10) : "w" + dice.nextInt(14);
        }
        int a = dice.nextInt(plain.wide);
        int b = dice.nextInt(plain.wide);
        b = a == b && dice.nextInt(10) > 0 ? (a + 1) % plain.wide : b;
        int volts = dice.nextInt(3) > 0 ? 1 + dice.nextInt(3) : dice.nextInt(11);
        return a + ">" + b + "*" + (dice.nextInt(12) == 0 ? "0" : "") + volts;
    }

    String text() {
        StringBuilder text = new StringBuilder();
        if (dice.nextInt(20) == 0) {
            text.append("w").append(2 + dice.nextInt(widest - 1)).append(';');
            int was = plain.wide;
            plain.wide = text.charAt(1) - '0';
            text.append(line());
            plain.wide = was;
        } else {
            text.append(line());
        }
        int more = dice.nextInt(4) == 0 ? 14 : dice.nextInt(4);
        for (int n = 0; n < more; n++) {
            text.append(';').append(line());
        }
        if (dice.nextInt(12) == 0) {
            text.setCharAt(dice.nextInt(text.length()), ";w r,>*05x\u00ff\u0000".charAt(dice.nextInt(12)));
        }
        if (dice.nextInt(12) == 0) {
            text.setLength(dice.nextInt(text.length()));
        }
        if (dice.nextInt(20) == 0) {
            text.append(";");
        }
        return text.toString();
    }

    void tellBoard() {
        String text = text();
        if (plain.lamps.size() >= mostLamps && dice.nextInt(3) > 0) {
            text = "";
        }
        write(text.length() > 80 ? text.substring(0, 70 + dice.nextInt(11)) : text);
    }

    void write(String text) {
        for (int k = 0; k < text.length(); k += 4) {
            int v = 0;
            for (int n = 0; n < 4; n++) {
                v = v << 8 | (k + n < text.length() ? text.charAt(k + n) : dice.nextInt(256));
            }
            same("sign(" + v + ")", real.sign(v), plain.sign(v));
        }
        int n = Math.min(text.length(), plain.text.length());
        same("end(" + n + ")", real.end(n) ? 1 : 0, plain.end(n) ? 1 : 0);
        same("board() of " + text, real.board(), plain.board());
    }

    void same(String call, long got, long due) {
        told.append("  ").append(call).append(" = ").append(got).append('\n');
        if (got != due && wrong == null) {
            wrong = call + " answered " + got + ", due is " + due;
        }
        for (int what = -1; what < 10; what++) {
            if (real.count(what) != plain.count(what) && wrong == null) {
                wrong = call + ": then count(" + what + ") answered " + real.count(what) + ", due is " + plain.count(what);
            }
        }
        for (int k = 0; k < plain.row.size() && wrong == null; k++) {
            if (real.row(k) != plain.row(k)) {
                wrong = call + ": then row(" + k + ") answered " + real.row(k) + ", due is " + plain.row(k);
            }
        }
    }

    static final int THROWN = 123456789;

    long realLamp(int a, int b) {
        try {
            return real.lamp(a, b);
        } catch (NoSuchElementException e) {
            return THROWN;
        }
    }

    long plainLamp(int a, int b) {
        try {
            return plain.lamp(a, b);
        } catch (NoSuchElementException e) {
            return THROWN;
        }
    }

    long realFault(int a, int b) {
        try {
            return real.fault(a, b);
        } catch (NoSuchElementException e) {
            return THROWN;
        }
    }

    long plainFault(int a, int b) {
        try {
            return plain.fault(a, b);
        } catch (NoSuchElementException e) {
            return THROWN;
        }
    }

    long realRow(int a) {
        try {
            return real.row(a);
        } catch (NoSuchElementException e) {
            return THROWN;
        }
    }

    long plainRow(int a) {
        try {
            return plain.row(a);
        } catch (NoSuchElementException e) {
            return THROWN;
        }
    }

    boolean heavy() {
        return Math.pow(3, plain.wide) * plain.lamps.size() * plain.depth > 30000;
    }

    void step() {
        int call = full && dice.nextInt(8) > 0 ? 31 + dice.nextInt(25) : dice.nextInt(56);
        if (call < 8 || plain.lamps.isEmpty() && dice.nextInt(3) > 0) {
            tellBoard();
        } else if (call < 24) {
            light(call);
        } else if (call < 40) {
            search(call);
        } else {
            fault(call);
        }
    }

    void light(int call) {
        int[] hl = setting();
        int lamp = small(plain.lamps.size());
        int other = small(plain.lamps.size());
        int wire = small(plain.wide);
        int what = small(4);
        switch (call) {
            case 8: {
                int v = what == 0 ? 1 + small(24) : small(4);
                v = what == 2 && dice.nextBoolean() ? dice.nextInt(100) : v;
                same("set(" + what + ", " + v + ")", real.set(what, v), plain.set(what, v));
                break;
            }
            case 9:
                same("set(0, 12)", real.set(0, 12), plain.set(0, 12));
                break;
            case 10:
                same("lamp(" + lamp + ", " + what + ")", realLamp(lamp, what), plainLamp(lamp, what));
                same("ohms(" + wire + ")", real.ohms(wire), plain.ohms(wire));
                break;
            case 11: {
                int n = small(62);
                int f = dice.nextBoolean() ? odd() : dice.nextInt(12);
                int step = dice.nextBoolean() ? odd() : dice.nextInt(3);
                same("sheet(" + what + ", " + n + ", " + f + ", " + step + ")",
                    real.sheet(what, n, f, step), plain.sheet(what, n, f, step));
                break;
            }
            case 12:
                same("swap(" + lamp + ", " + other + ")", real.swap(lamp, other) ? 1 : 0, plain.swap(lamp, other) ? 1 : 0);
                break;
            case 13:
            case 14:
            case 15:
                same("put(" + hl[0] + ", " + hl[1] + ")", real.put(hl[0], hl[1]), plain.put(hl[0], hl[1]));
                break;
            case 16:
                same("glows()", real.glows(), plain.glows());
                same("ghosts()", real.ghosts(), plain.ghosts());
                break;
            case 17:
                same("light(" + lamp + ")", real.light(lamp), plain.light(lamp));
                break;
            case 18:
                same("why(" + lamp + ")", real.why(lamp), plain.why(lamp));
                break;
            case 19:
                same("draws(" + wire + ")", real.draws(wire), plain.draws(wire));
                break;
            case 20:
                same("brightest()", real.brightest(), plain.brightest());
                break;
            case 21:
                same("keep(" + (what - 1) + ")", real.keep(what - 1) ? 1 : 0, plain.keep(what - 1) ? 1 : 0);
                break;
            case 22:
                same("again(" + (what - 1) + ")", real.again(what - 1) ? 1 : 0, plain.again(what - 1) ? 1 : 0);
                break;
            default: {
                int i = small(14);
                same("row(" + i + ")", realRow(i), plainRow(i));
                same("range(" + hl[0] + ", " + hl[1] + ")", real.range(hl[0], hl[1]), plain.range(hl[0], hl[1]));
                break;
            }
        }
    }

    void search(int call) {
        long set = lampSet();
        int lamp = small(plain.lamps.size());
        int other = small(plain.lamps.size());
        int i = small(4);
        switch (call) {
            case 24:
                same("shows(" + set + ")", real.shows(set), plain.shows(set));
                break;
            case 25:
                same("bars(" + set + ")", real.bars(set), plain.bars(set));
                break;
            case 26:
                same("most()", real.most(), plain.most());
                break;
            case 27:
                same("sets()", real.sets(), plain.sets());
                break;
            case 28:
                same("fits(" + lamp + ", " + other + ")", real.fits(lamp, other), plain.fits(lamp, other));
                break;
            case 29:
                same("alone()", real.alone(), plain.alone());
                break;
            case 30:
                same("twins()", real.twins(), plain.twins());
                break;
            case 31:
            case 32:
            case 33:
                same("picture(" + i + ", " + set + ")", real.picture(i, set), plain.picture(i, set));
                break;
            case 34:
                same("parted(" + i + ")", real.parted(i), plain.parted(i));
                break;
            case 35:
                same("proof(" + i + ")", real.proof(i), plain.proof(i));
                break;
            case 36:
                same("never(" + i + ")", real.never(i), plain.never(i));
                break;
            case 37:
                same("changes(" + i + ")", real.changes(i), plain.changes(i));
                break;
            case 38: {
                int n = small(dice.nextBoolean() ? 8 : 202);
                same("even(" + i + ", " + n + ")", real.even(i, n), plain.even(i, n));
                break;
            }
            default:
                same("better(" + i + ")", real.better(i), plain.better(i));
                break;
        }
    }

    void fault(int call) {
        int f = fault();
        int g = fault();
        int[] hl = setting();
        int what = small(3);
        switch (call) {
            case 40:
                same("faults()", real.faults(), plain.faults());
                break;
            case 41:
                same("fault(" + f + ", " + what + ")", realFault(f, what), plainFault(f, what));
                break;
            case 42:
            case 43:
                same("would(" + f + ", " + hl[0] + ", " + hl[1] + ")", real.would(f, hl[0], hl[1]), plain.would(f, hl[0], hl[1]));
                break;
            case 44:
                same("tells(" + f + ")", real.tells(f), plain.tells(f));
                break;
            case 45:
                if (!heavy()) {
                    same("hidden()", real.hidden(), plain.hidden());
                }
                break;
            case 46:
                same("alike(" + f + ", " + g + ")", real.alike(f, g), plain.alike(f, g));
                break;
            case 47: {
                long set = lampSet();
                if (dice.nextInt(4) > 0 && plain.isFault(f) && plain.isSetting(hl[0], hl[1])) {
                    set = plain.with(f, hl[0], hl[1]);
                }
                same("seen(" + hl[0] + ", " + hl[1] + ", " + set + ")", real.seen(hl[0], hl[1], set), plain.seen(hl[0], hl[1], set));
                break;
            }
            case 48:
                same("forget()", real.forget(), plain.forget());
                break;
            case 49:
                same("which()", real.which(), plain.which());
                break;
            case 50:
                same("judge(" + f + ")", real.judge(f), plain.judge(f));
                break;
            case 51:
                if (!heavy()) {
                    same("next()", real.next(), plain.next());
                }
                break;
            case 52:
            case 53:
                same("test(" + hl[0] + ", " + hl[1] + ")", real.test(hl[0], hl[1]), plain.test(hl[0], hl[1]));
                break;
            case 54:
                same("tree()", real.tree(), plain.tree());
                break;
            default:
                same("path(" + f + ")", real.path(f), plain.path(f));
                break;
        }
    }
}
