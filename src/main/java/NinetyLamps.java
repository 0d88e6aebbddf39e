import java.util.Arrays;
import java.util.NoSuchElementException;

/**
 * Lamps between wires that are high, low or let go: what glows, which settings show a set, how
 * pictures part into turns, and which fault explains what was seen.
 */
public final class NinetyLamps {
    public static final int NONE = -1;

    private static final int NO_WAY = -2;
    private static final int TOO_WIDE = -3;
    private static final int TOO_MANY_LAMPS = -4;
    private static final int TOO_MANY_TURNS = -5;
    private static final int MISSING = -3;
    private static final int BELOW_ZERO = -2;

    private static final int MOST_WIRES = 10;
    private static final int MOST_LAMPS = 60;
    /** One for each bit of a set of lamps, so that a bit's place is always an index. */
    private static final int LAMP_ROOM = 64;
    private static final int MOST_SUPPLY = 20;
    private static final int MOST_DEPTH = 3;
    private static final int MOST_VOLTS = 9;
    private static final int PICTURES = 4;
    private static final int MOST_SEEN = 12;
    private static final int MOST_TESTS = 8;
    private static final int SEARCH_WIDE = 7;
    private static final int SEARCH_SETTINGS = 2187;
    private static final int BETTER_WIDE = 4;
    private static final int PART_LAMPS = 12;
    private static final int PART_SETS = 4096;
    /** 1 none, 10 wires cut, 45 pairs that touch, 60 lamps turned. */
    private static final int MOST_FAULTS = 116;
    private static final int FIRST_FEW = 8;
    private static final long WHOLE = 27720L;

    private final Board board = new Board();
    private final Text text = new Text();
    private final Reader reader = new Reader(text);
    private final Told told = new Told();
    private final Flow flow = new Flow(board);
    private final Notes notes = new Notes();
    private final Table table = new Table(board, flow);
    private final Parting parting = new Parting(table, flow);
    private final Suspects suspects = new Suspects(table, flow, notes);
    private final Plan plan = new Plan(suspects);
    private final Kept[] kept = {new Kept(), new Kept()};

    public NinetyLamps() {
    }

    // ---- the board

    public int sign(int v) {
        return text.append(v) ? text.size : NONE;
    }

    public boolean end(int n) {
        if (n < 0 || n > text.size) {
            return false;
        }
        text.size = n;
        return true;
    }

    public int board() {
        int bad = reader.read(board.wide, board.lamps);
        text.size = 0;
        if (bad != NONE) {
            return -1 - bad;
        }
        for (int line = 0; line < reader.lines; line++) {
            takeLine(line);
        }
        table.fresh = false;
        return reader.lines;
    }

    public int set(int what, int v) {
        int was = NONE;
        if (what == 0 && v >= 1 && v <= MOST_SUPPLY) {
            was = board.supply;
            board.supply = v;
        } else if (what == 1 && v >= 1 && v <= MOST_DEPTH) {
            was = board.depth;
            board.depth = v;
        } else if (what == 2 && v >= 0 && v <= 99) {
            was = board.faint;
            board.faint = v;
        }
        if (was != NONE) {
            table.fresh = false;
        }
        return was;
    }

    public int lamp(int lamp, int what) throws NoSuchElementException {
        if (!board.hasLamp(lamp) || what < 0 || what > 2) {
            throw new NoSuchElementException();
        }
        if (what == 0) {
            return board.from[lamp];
        }
        return what == 1 ? board.goal[lamp] : board.volts[lamp];
    }

    public int ohms(int wire) {
        return board.hasWire(wire) ? board.ohms[wire] : NONE;
    }

    public int sheet(int kind, int n, int f, int step) {
        if (kind < 0 || kind > 3 || n > MOST_LAMPS) {
            return NONE;
        }
        if (kind != 3 && n < 0) {
            return BELOW_ZERO;
        }
        int entries = kind == 3 ? 0 : n;
        int sum = 0;
        for (int lamp = 0; lamp < board.lamps; lamp++) {
            int volts = lamp < entries ? entryAs(kind, f + lamp * step) : 1;
            board.volts[lamp] = Math.max(1, Math.min(MOST_VOLTS, volts));
            sum += board.volts[lamp];
        }
        table.fresh = false;
        return kind == 3 ? MISSING : sum;
    }

    public boolean swap(int a, int b) {
        if (!board.hasPair(a, b)) {
            return false;
        }
        board.trade(a, b);
        table.fresh = false;
        return true;
    }

    // ---- what glows

    public int put(int high, int low) {
        if (!board.hasSetting(high, low)) {
            return NONE;
        }
        notes.high = high;
        notes.low = low;
        return Long.bitCount(flow.glowing(high, low));
    }

    public long glows() {
        return flow.glowing(notes.high, notes.low);
    }

    public long ghosts() {
        long glow = flow.glowing(notes.high, notes.low);
        return glow & ~board.asked(notes.high, notes.low);
    }

    public long light(int lamp) {
        if (!board.hasLamp(lamp)) {
            return NONE;
        }
        flow.watch(lamp, notes.high, notes.low);
        told.clear();
        told.add(flow.passing);
        told.add(flow.best);
        return flow.light[lamp];
    }

    public long why(int lamp) {
        if (!board.hasLamp(lamp)) {
            return NONE;
        }
        flow.watch(lamp, notes.high, notes.low);
        if (flow.passing == 0) {
            return NO_WAY;
        }
        told.clear();
        for (int k = 0; k < flow.bestSize; k++) {
            told.add(flow.bestWay[k]);
        }
        return flow.best;
    }

    public long draws(int wire) {
        if (!board.hasWire(wire)) {
            return NONE;
        }
        flow.glowing(notes.high, notes.low);
        return flow.drawn[wire];
    }

    public int brightest() {
        long glow = flow.glowing(notes.high, notes.low);
        if (glow == 0) {
            return NO_WAY;
        }
        int bright = Long.numberOfTrailingZeros(glow);
        int dim = bright;
        for (int lamp = bright + 1; lamp < board.lamps; lamp++) {
            if ((glow >>> lamp & 1) == 0) {
                continue;
            }
            bright = flow.light[lamp] > flow.light[bright] ? lamp : bright;
            dim = flow.light[lamp] < flow.light[dim] ? lamp : dim;
        }
        told.clear();
        told.add(flow.light[bright]);
        told.add(dim);
        told.add(flow.light[dim]);
        return bright;
    }

    // ---- settings that show

    public int shows(long lamps) {
        if (!board.hasLamps(lamps)) {
            return NONE;
        }
        if (!openTable()) {
            return TOO_WIDE;
        }
        int first = NO_WAY;
        int times = 0;
        for (int s = 0; s < table.size; s++) {
            if (table.glow[s] == lamps) {
                first = times == 0 ? s : first;
                times++;
            }
        }
        if (times > 0) {
            told.clear();
            told.add(table.high[first]);
            told.add(table.low[first]);
            told.add(times);
        }
        return first;
    }

    public int bars(long lamps) {
        if (!board.hasLamps(lamps)) {
            return NONE;
        }
        if (!openTable()) {
            return TOO_WIDE;
        }
        int least = NO_WAY;
        int at = NONE;
        for (int s = 0; s < table.size; s++) {
            if ((lamps & ~table.glow[s]) == 0) {
                int others = Long.bitCount(table.glow[s] & ~lamps);
                if (at == NONE || others < least) {
                    least = others;
                    at = s;
                }
            }
        }
        if (at != NONE) {
            told.clear();
            told.add(at);
            told.add(least == 0 ? NONE : Long.numberOfTrailingZeros(table.glow[at] & ~lamps));
        }
        return least;
    }

    public int most() {
        if (!openTable()) {
            return TOO_WIDE;
        }
        int most = 0;
        int at = 0;
        for (int s = 0; s < table.size; s++) {
            int lamps = Long.bitCount(table.glow[s]);
            if (table.clean[s] && lamps > most) {
                most = lamps;
                at = s;
            }
        }
        told.clear();
        told.add(at);
        return most;
    }

    public int sets() {
        if (!openTable()) {
            return TOO_WIDE;
        }
        Arrays.fill(table.slots, 0);
        int clean = table.newSets(true);
        int others = table.newSets(false);
        told.clear();
        told.add(clean);
        return clean + others;
    }

    public int fits(int a, int b) {
        if (!board.hasPair(a, b)) {
            return NONE;
        }
        if (!openTable()) {
            return TOO_WIDE;
        }
        long both = 1L << a | 1L << b;
        for (int s = 0; s < table.size; s++) {
            if (table.clean[s] && (both & ~table.glow[s]) == 0) {
                return 1;
            }
        }
        return 0;
    }

    public long alone() {
        if (!openTable()) {
            return TOO_WIDE;
        }
        long lamps = 0;
        for (int s = 0; s < table.size; s++) {
            long glow = table.glow[s];
            if ((glow & glow - 1) == 0) {
                lamps |= glow;
            }
        }
        return lamps;
    }

    public int twins() {
        if (!openTable()) {
            return TOO_WIDE;
        }
        told.clear();
        int pairs = 0;
        for (int lamp = 0; lamp < board.lamps; lamp++) {
            long like = table.likeBehind(lamp);
            if (pairs == 0 && like != 0) {
                told.add(lamp);
                told.add(Long.numberOfTrailingZeros(like));
            }
            pairs += Long.bitCount(like);
        }
        return pairs;
    }

    public int range(int high, int low) {
        if (!board.hasSetting(high, low)) {
            return NONE;
        }
        long now = flow.glowing(high, low);
        int supply = board.supply;
        int same = 0;
        for (int s = 1; s <= MOST_SUPPLY; s++) {
            board.supply = s;
            if (flow.glowing(high, low) == now) {
                same |= 1 << s;
            }
        }
        board.supply = supply;
        return same;
    }

    // ---- pictures

    public int picture(int i, long lamps) {
        if (!isPicture(i) || !board.hasLamps(lamps)) {
            return NONE;
        }
        notes.pictures[i] = lamps;
        return Long.bitCount(lamps);
    }

    public int parted(int i) {
        int turns = partInto(i);
        if (turns >= 0) {
            tellTurns(parting.chosen, turns);
        }
        return turns;
    }

    public int proof(int i) {
        int refusal = openParting(i);
        if (refusal != 0) {
            return refusal;
        }
        long apart = parting.mostApart();
        told.clear();
        told.add(apart);
        return Long.bitCount(apart);
    }

    public long never(int i) {
        if (!isPicture(i)) {
            return NONE;
        }
        if (!openTable()) {
            return TOO_WIDE;
        }
        long picture = notes.pictures[i];
        long left = picture;
        for (int s = 0; s < table.size; s++) {
            if (table.isTurn(s, picture)) {
                left &= ~table.glow[s];
            }
        }
        return left;
    }

    public int changes(int i) {
        int turns = partInto(i);
        if (turns < 0) {
            return turns;
        }
        if (turns > Parting.MOST_ORDERED) {
            return TOO_MANY_TURNS;
        }
        int fewest = parting.putInOrder();
        tellTurns(parting.order, turns);
        return fewest;
    }

    public long even(int i, int n) {
        if (!isPicture(i) || n < 1 || n > 200) {
            return NONE;
        }
        int turns = partInto(i);
        if (turns < 0) {
            return turns;
        }
        if (n < turns) {
            return NO_WAY;
        }
        long least = parting.giveSlots(n);
        tellTurns(parting.slots, turns);
        return least;
    }

    public int better(int i) {
        if (!isPicture(i) || board.lamps < 2) {
            return NONE;
        }
        if (board.wide > BETTER_WIDE || board.lamps > PART_LAMPS) {
            return TOO_WIDE;
        }
        int now = partInto(i);
        int least = NO_WAY;
        int first = NONE;
        int second = NONE;
        for (int a = 0; a < board.lamps; a++) {
            for (int b = a + 1; b < board.lamps; b++) {
                int turns = partTraded(notes.pictures[i], a, b);
                if (turns >= 0 && (least < 0 || turns < least)) {
                    least = turns;
                    first = a;
                    second = b;
                }
            }
        }
        if (least >= 0) {
            told.clear();
            told.add(first);
            told.add(second);
            told.add(now);
        }
        return least;
    }

    // ---- faults

    public int faults() {
        told.clear();
        told.add(suspects.firstTouch());
        told.add(suspects.firstTurned());
        return suspects.size();
    }

    public int fault(int fault, int what) throws NoSuchElementException {
        if (!suspects.has(fault) || what < 0 || what > 2) {
            throw new NoSuchElementException();
        }
        if (what == 0) {
            return suspects.kindOf(fault);
        }
        return what == 1 ? suspects.firstOf(fault) : suspects.secondOf(fault);
    }

    public long would(int fault, int high, int low) {
        if (!suspects.has(fault) || !board.hasSetting(high, low)) {
            return NONE;
        }
        return suspects.glowWith(fault, high, low);
    }

    public int tells(int fault) {
        if (!suspects.has(fault)) {
            return NONE;
        }
        if (!openTable()) {
            return TOO_WIDE;
        }
        told.clear();
        int times = 0;
        int s = suspects.firstParting(0, fault, 0);
        for (int n = 0; n < SEARCH_SETTINGS && s != NONE; n++) {
            if (times == 0) {
                told.add(s);
            }
            times++;
            s = suspects.firstParting(0, fault, s + 1);
        }
        return times;
    }

    public int hidden() {
        if (!openTable()) {
            return TOO_WIDE;
        }
        told.clear();
        int many = 0;
        for (int fault = 1; fault < suspects.size(); fault++) {
            if (suspects.firstParting(0, fault, 0) == NONE) {
                if (many < FIRST_FEW) {
                    told.add(fault);
                }
                many++;
            }
        }
        return many;
    }

    public int alike(int a, int b) {
        if (!suspects.has(a) || !suspects.has(b)) {
            return NONE;
        }
        if (!openTable()) {
            return TOO_WIDE;
        }
        int s = suspects.firstParting(a, b, 0);
        if (s == NONE) {
            return 1;
        }
        told.clear();
        told.add(s);
        return 0;
    }

    public int seen(int high, int low, long lamps) {
        if (!board.hasSetting(high, low) || !board.hasLamps(lamps)) {
            return NONE;
        }
        return notes.addSeen(high, low, lamps) ? notes.seenSize : NONE;
    }

    public int forget() {
        if (notes.seenSize == 0) {
            return NONE;
        }
        notes.seenSize--;
        return notes.seenSize;
    }

    public int which() {
        suspects.gather();
        told.clear();
        for (int k = 0; k < suspects.agreeing && k < FIRST_FEW; k++) {
            told.add(suspects.agrees[k]);
        }
        return suspects.agreeing;
    }

    public int judge(int fault) {
        return suspects.has(fault) ? suspects.firstAgainst(fault) : NONE;
    }

    public int next() {
        if (!openTable()) {
            return TOO_WIDE;
        }
        suspects.gather();
        if (suspects.agreeing == 0) {
            return NO_WAY;
        }
        int least = suspects.agreeing + 1;
        int at = NONE;
        for (int s = 0; s < table.size && least > 1; s++) {
            int left = suspects.leftAtWorst(s, least);
            if (left < least) {
                least = left;
                at = s;
            }
        }
        told.clear();
        told.add(at);
        return least;
    }

    public int test(int high, int low) {
        if (!board.hasSetting(high, low)) {
            return NONE;
        }
        return plan.addTest(high, low) ? plan.tests - 1 : NONE;
    }

    public int tree() {
        suspects.gather();
        if (suspects.agreeing == 0) {
            return NO_WAY;
        }
        plan.grow();
        told.clear();
        told.add(plan.firstTest(0, 0));
        told.add(plan.groups);
        return plan.depthAt(0, 0);
    }

    public int path(int fault) {
        if (!suspects.has(fault) || suspects.firstAgainst(fault) != NO_WAY) {
            return NONE;
        }
        suspects.gather();
        plan.grow();
        told.clear();
        int group = plan.groupOfFault(fault);
        int taken = 0;
        int steps = 0;
        int test = plan.firstTest(0, group);
        for (int n = 0; n < MOST_TESTS && test != NONE; n++) {
            told.add(test);
            steps++;
            taken |= 1 << test;
            test = plan.firstTest(taken, group);
        }
        told.add(plan.sizeOfGroup(group));
        return steps;
    }

    // ---- kept

    public boolean keep(int i) {
        if (i < 0 || i >= kept.length) {
            return false;
        }
        kept[i].take(board, notes);
        return true;
    }

    public boolean again(int i) {
        if (i < 0 || i >= kept.length || !kept[i].full) {
            return false;
        }
        kept[i].give(board, notes);
        table.fresh = false;
        return true;
    }

    public int count(int what) {
        switch (what) {
            case 0:
                return board.wide;
            case 1:
                return board.lamps;
            case 2:
                return board.supply;
            case 3:
                return notes.high;
            case 4:
                return notes.low;
            case 5:
                return notes.seenSize;
            case 6:
                return plan.tests;
            case 7:
                return told.size;
            case 8:
                return text.size;
            default:
                return NONE;
        }
    }

    public long row(int i) throws NoSuchElementException {
        if (i < 0 || i >= told.size) {
            throw new NoSuchElementException();
        }
        return told.numbers[i];
    }

    // ---- helpers of the face

    private void takeLine(int line) {
        int kind = reader.kinds[line];
        int number = reader.numbers[line];
        if (kind == Reader.WIDTH) {
            board.startAnew(number);
            notes.clear();
            plan.tests = 0;
            for (int k = 0; k < kept.length; k++) {
                kept[k].full = false;
            }
        } else if (kind == Reader.OHMS) {
            board.resist(reader.wires[line], number);
        } else {
            board.add(reader.wires[line], reader.goals[line], number);
        }
    }

    private static int entryAs(int kind, int entry) {
        if (kind == 0) {
            return (byte) entry;
        }
        return kind == 1 ? (short) entry : entry;
    }

    private boolean isSearchable() {
        return board.wide <= SEARCH_WIDE;
    }

    private boolean openTable() {
        if (!isSearchable()) {
            return false;
        }
        table.refresh();
        return true;
    }

    private static boolean isPicture(int i) {
        return i >= 0 && i < PICTURES;
    }

    /** 0 if the picture can be searched, else the answer that is due. */
    private int openParting(int i) {
        if (!isPicture(i)) {
            return NONE;
        }
        if (!isSearchable()) {
            return TOO_WIDE;
        }
        if (Long.bitCount(notes.pictures[i]) > PART_LAMPS) {
            return TOO_MANY_LAMPS;
        }
        table.refresh();
        parting.open(notes.pictures[i]);
        return 0;
    }

    private int partInto(int i) {
        int refusal = openParting(i);
        return refusal != 0 ? refusal : parting.part();
    }

    private int partTraded(long picture, int a, int b) {
        board.trade(a, b);
        table.fresh = false;
        table.refresh();
        parting.open(picture);
        int turns = parting.part();
        board.trade(a, b);
        table.fresh = false;
        return turns;
    }

    private void tellTurns(int[] numbers, int size) {
        told.clear();
        for (int k = 0; k < size && k < numbers.length; k++) {
            told.add(numbers[k]);
        }
    }

    private static int settingsOf(int wide) {
        int size = 1;
        for (int wire = 0; wire < wide; wire++) {
            size *= 3;
        }
        return size;
    }

    /** The wires (bits) whose place in a setting's number, with base 3, has this digit. */
    private static int wiresThatAre(int digit, int number, int wide) {
        int rest = number;
        int wires = 0;
        for (int wire = wide - 1; wire >= 0; wire--) {
            if (rest % 3 == digit) {
                wires |= 1 << wire;
            }
            rest /= 3;
        }
        return wires;
    }

    /** The numbers of the row; no call tells more than twelve. */
    private static final class Told {
        final long[] numbers = new long[16];
        int size = 0;

        void clear() {
            size = 0;
        }

        void add(long number) {
            if (size < numbers.length) {
                numbers[size] = number;
                size++;
            }
        }
    }

    private static final class Text {
        final char[] signs = new char[80];
        int size = 0;

        boolean append(int v) {
            if (size + 4 > signs.length) {
                return false;
            }
            for (int shift = 24; shift >= 0; shift -= 8) {
                signs[size] = (char) (v >>> shift & 255);
                size++;
            }
            return true;
        }
    }

    /** Reads the whole text ahead of any change, since nothing comes if one line can't. */
    private static final class Reader {
        static final int WIDTH = 0;
        static final int OHMS = 1;
        static final int LAMP = 2;
        private static final int MOST_SIGNS = 76;

        final Text text;
        final int[] kinds = new int[MOST_SIGNS];
        final int[] wires = new int[MOST_SIGNS];
        final int[] goals = new int[MOST_SIGNS];
        final int[] numbers = new int[MOST_SIGNS];
        int lines;
        int wide;
        int lamps;
        int limit;
        int at;
        int bad;

        Reader(Text text) {
            this.text = text;
        }

        /** The place of the first sign that can't stand there; NONE if all can. */
        int read(int wideNow, int lampsNow) {
            wide = wideNow;
            lamps = lampsNow;
            lines = 0;
            at = 0;
            bad = NONE;
            limit = Math.min(text.size, MOST_SIGNS);
            boolean more = text.size > 0;
            for (int n = 0; n < MOST_SIGNS && more; n++) {
                more = readLine() && goesOn();
            }
            if (bad == NONE && text.size > MOST_SIGNS) {
                bad = MOST_SIGNS;
            }
            return bad;
        }

        private boolean goesOn() {
            return at < limit && take(';');
        }

        private boolean readLine() {
            if (isAt('w')) {
                return readWidth();
            }
            return isAt('r') ? readOhms() : readLamp();
        }

        private boolean readWidth() {
            at++;
            int number = takeNumber(2, MOST_WIRES);
            if (number == NONE) {
                return false;
            }
            wide = number;
            lamps = 0;
            return note(WIDTH, NONE, NONE, number);
        }

        private boolean readOhms() {
            at++;
            int wire = takeWire(NONE);
            if (wire == NONE || !take(',')) {
                return false;
            }
            int number = takeNumber(0, 4);
            return number != NONE && note(OHMS, wire, NONE, number);
        }

        private boolean readLamp() {
            if (lamps >= MOST_LAMPS) {
                return fail(at);
            }
            int wire = takeWire(NONE);
            if (wire == NONE || !take('>')) {
                return false;
            }
            int goal = takeWire(wire);
            if (goal == NONE || !take('*')) {
                return false;
            }
            int number = takeNumber(1, MOST_VOLTS);
            if (number == NONE) {
                return false;
            }
            lamps++;
            return note(LAMP, wire, goal, number);
        }

        private boolean note(int kind, int wire, int goal, int number) {
            if (lines >= kinds.length) {
                return fail(at);
            }
            kinds[lines] = kind;
            wires[lines] = wire;
            goals[lines] = goal;
            numbers[lines] = number;
            lines++;
            return true;
        }

        private boolean fail(int place) {
            bad = place;
            return false;
        }

        private boolean isAt(char sign) {
            return at < limit && text.signs[at] == sign;
        }

        private boolean isDigit() {
            return at < limit && text.signs[at] >= '0' && text.signs[at] <= '9';
        }

        private boolean take(char sign) {
            if (!isAt(sign)) {
                return fail(at);
            }
            at++;
            return true;
        }

        /** A wire that is there and is not the other one; NONE without. */
        private int takeWire(int other) {
            int wire = isDigit() ? text.signs[at] - '0' : NONE;
            if (wire == NONE || wire >= wide || wire == other) {
                fail(at);
                return NONE;
            }
            at++;
            return wire;
        }

        private int takeNumber(int least, int most) {
            if (!isDigit()) {
                fail(at);
                return NONE;
            }
            int number = text.signs[at] - '0';
            at++;
            if (isDigit()) {
                number = number * 10 + text.signs[at] - '0';
                at++;
            }
            if (number < least || number > most) {
                fail(at - 1);
                return NONE;
            }
            return number;
        }
    }

    private static final class Board {
        int wide = 4;
        int lamps = 0;
        int supply = 5;
        int depth = 2;
        int faint = 0;
        final int[] ohms = {1, 1, 1, 1, 1, 1, 1, 1, 1, 1};
        final int[] from = new int[LAMP_ROOM];
        final int[] goal = new int[LAMP_ROOM];
        final int[] volts = new int[LAMP_ROOM];
        /** Lamps (bits) that go from a wire, and to it. */
        final long[] out = new long[MOST_WIRES];
        final long[] into = new long[MOST_WIRES];

        boolean hasWire(int wire) {
            return wire >= 0 && wire < wide;
        }

        boolean hasLamp(int lamp) {
            return lamp >= 0 && lamp < lamps;
        }

        boolean hasPair(int a, int b) {
            return hasLamp(a) && hasLamp(b) && a != b;
        }

        boolean hasLamps(long set) {
            return set >>> lamps == 0;
        }

        boolean hasSetting(int high, int low) {
            return (high & low) == 0 && (high | low) >>> wide == 0;
        }

        void startAnew(int width) {
            wide = width;
            lamps = 0;
            rewire();
        }

        void add(int wire, int other, int volt) {
            if (lamps < MOST_LAMPS && hasWire(wire) && hasWire(other)) {
                from[lamps] = wire;
                goal[lamps] = other;
                volts[lamps] = volt;
                out[wire] |= 1L << lamps;
                into[other] |= 1L << lamps;
                lamps++;
            }
        }

        void resist(int wire, int ohm) {
            if (hasWire(wire)) {
                ohms[wire] = ohm;
            }
        }

        void trade(int a, int b) {
            int wire = from[a];
            from[a] = from[b];
            from[b] = wire;
            int other = goal[a];
            goal[a] = goal[b];
            goal[b] = other;
            rewire();
        }

        void rewire() {
            Arrays.fill(out, 0L);
            Arrays.fill(into, 0L);
            for (int lamp = 0; lamp < lamps; lamp++) {
                out[from[lamp]] |= 1L << lamp;
                into[goal[lamp]] |= 1L << lamp;
            }
        }

        long asked(int high, int low) {
            long leaving = 0;
            long coming = 0;
            for (int wire = 0; wire < wide; wire++) {
                leaving |= (high >>> wire & 1) != 0 ? out[wire] : 0;
                coming |= (low >>> wire & 1) != 0 ? into[wire] : 0;
            }
            return leaving & coming;
        }
    }

    /** Follows the paths of one setting, on the board as it is or as a fault makes it. */
    private static final class Flow {
        /** What of WHOLE goes through so many ohms and lamps: 1 .. 4 + 4 + 3. */
        private static final int[] SHARES =
            {0, 27720, 13860, 9240, 6930, 5544, 4620, 3960, 3465, 3080, 2772, 2520};

        final Board board;
        final int[] ohms = new int[MOST_WIRES];
        final long[] out = new long[MOST_WIRES];
        final long[] into = new long[MOST_WIRES];
        final long[] light = new long[LAMP_ROOM];
        final long[] drawn = new long[MOST_WIRES];
        final int[] way = new int[MOST_DEPTH];
        final int[] bestWay = new int[MOST_DEPTH];
        int high;
        int low;
        int turned = NONE;
        int joined = NONE;
        int joinedTo = NONE;
        long toLow;
        long toFree;
        long lit;
        int watched = NONE;
        int passing;
        long best;
        int bestSize;

        Flow(Board board) {
            this.board = board;
        }

        long glowing(int highWires, int lowWires) {
            lay(highWires, lowWires);
            return run();
        }

        void watch(int lamp, int highWires, int lowWires) {
            passing = 0;
            best = 0;
            bestSize = 0;
            watched = lamp;
            lay(highWires, lowWires);
            run();
            watched = NONE;
        }

        void lay(int highWires, int lowWires) {
            high = highWires;
            low = lowWires;
            turned = NONE;
            joined = NONE;
            System.arraycopy(board.ohms, 0, ohms, 0, MOST_WIRES);
            System.arraycopy(board.out, 0, out, 0, MOST_WIRES);
            System.arraycopy(board.into, 0, into, 0, MOST_WIRES);
        }

        /** Without a lamp on it, it is all one whether the wire is let go. */
        void cut(int wire) {
            out[wire] = 0;
            into[wire] = 0;
        }

        void join(int a, int b) {
            int one = 1 << a;
            int both = one | 1 << b;
            if ((high & both) != 0 && (low & both) != 0) {
                high = 0;
                return;
            }
            if (((high | low) & one) == 0) {
                ohms[a] = ohms[b];
            }
            high = (high & both) == 0 ? high : high & ~both | one;
            low = (low & both) == 0 ? low : low & ~both | one;
            long between = out[a] & into[b] | out[b] & into[a];
            out[a] = (out[a] | out[b]) & ~between;
            into[a] = (into[a] | into[b]) & ~between;
            out[b] = 0;
            into[b] = 0;
            joined = b;
            joinedTo = a;
        }

        void turn(int lamp) {
            int wire = board.from[lamp];
            int other = board.goal[lamp];
            long bit = 1L << lamp;
            out[wire] &= ~bit;
            into[other] &= ~bit;
            out[other] |= bit;
            into[wire] |= bit;
            turned = lamp;
        }

        /** Lamps (bits) that glow; their light stays in the row of lights. */
        long run() {
            putOut();
            if (high == 0 || low == 0) {
                return 0;
            }
            toLow = 0;
            toFree = 0;
            for (int wire = 0; wire < board.wide; wire++) {
                if ((low >>> wire & 1) != 0) {
                    toLow |= into[wire];
                } else if ((high >>> wire & 1) == 0) {
                    toFree |= into[wire];
                }
            }
            for (int wire = 0; wire < board.wide; wire++) {
                if ((high >>> wire & 1) != 0) {
                    follow(wire, wire, 0, 0);
                }
            }
            return bright();
        }

        /** Only what the last run lit: most runs of a search light few lamps. */
        private void putOut() {
            for (int n = Long.bitCount(lit); n > 0; n--) {
                light[Long.numberOfTrailingZeros(lit)] = 0;
                lit &= lit - 1;
            }
            Arrays.fill(drawn, 0L);
        }

        /**
         * No wire comes twice by itself: the ends are not let go, and of the two wires between that
         * three lamps have at most, a lamp parts the one from the other.
         */
        private void follow(int start, int wire, int size, int sum) {
            if (size >= board.depth || size >= way.length) {
                return;
            }
            boolean last = size + 1 >= board.depth;
            long left = out[wire] & (last ? toLow : toLow | toFree);
            for (int n = Long.bitCount(left); n > 0; n--) {
                int lamp = Long.numberOfTrailingZeros(left);
                left &= left - 1;
                int volts = sum + board.volts[lamp];
                if (volts >= board.supply) {
                    continue;
                }
                way[size] = lamp;
                if ((toLow >>> lamp & 1) != 0) {
                    carry(start, goalOf(lamp), size + 1, board.supply - volts);
                } else {
                    follow(start, goalOf(lamp), size + 1, volts);
                }
            }
        }

        private int goalOf(int lamp) {
            int wire = lamp == turned ? board.from[lamp] : board.goal[lamp];
            return wire == joined ? joinedTo : wire;
        }

        private void carry(int start, int end, int size, int volts) {
            int parts = ohms[start] + ohms[end] + size;
            if (parts < 1 || parts >= SHARES.length) {
                return;
            }
            long amount = (long) volts * SHARES[parts];
            boolean through = false;
            for (int k = 0; k < size; k++) {
                light[way[k]] += amount;
                lit |= 1L << way[k];
                through |= way[k] == watched;
            }
            drawn[start] += amount;
            drawn[end] += amount;
            if (through) {
                noteWay(size, amount);
            }
        }

        /** More goes first, then fewer lamps, then the least row of them. */
        private void noteWay(int size, long amount) {
            passing++;
            boolean first = amount > best || amount == best && size < bestSize;
            boolean same = amount == best && size == bestSize;
            for (int k = 0; k < size && same; k++) {
                first = way[k] < bestWay[k];
                same = way[k] == bestWay[k];
            }
            if (!first) {
                return;
            }
            best = amount;
            bestSize = size;
            for (int k = 0; k < size; k++) {
                bestWay[k] = way[k];
            }
        }

        private long bright() {
            if (board.faint == 0) {
                return lit;
            }
            long glow = 0;
            for (int lamp = 0; lamp < board.lamps; lamp++) {
                if (light[lamp] * 100 >= board.faint * WHOLE) {
                    glow |= 1L << lamp;
                }
            }
            return glow;
        }
    }

    /** What is shown, the pictures and what was seen: all that is kept beside the lamps. */
    private static final class Notes {
        int high = 0;
        int low = 0;
        final long[] pictures = new long[PICTURES];
        int seenSize = 0;
        final int[] seenHigh = new int[MOST_SEEN];
        final int[] seenLow = new int[MOST_SEEN];
        final long[] seenLamps = new long[MOST_SEEN];

        void clear() {
            high = 0;
            low = 0;
            seenSize = 0;
            Arrays.fill(pictures, 0L);
        }

        boolean addSeen(int highWires, int lowWires, long lamps) {
            if (seenSize >= MOST_SEEN) {
                return false;
            }
            seenHigh[seenSize] = highWires;
            seenLow[seenSize] = lowWires;
            seenLamps[seenSize] = lamps;
            seenSize++;
            return true;
        }

        void copyFrom(Notes other) {
            high = other.high;
            low = other.low;
            seenSize = other.seenSize;
            System.arraycopy(other.pictures, 0, pictures, 0, PICTURES);
            System.arraycopy(other.seenHigh, 0, seenHigh, 0, MOST_SEEN);
            System.arraycopy(other.seenLow, 0, seenLow, 0, MOST_SEEN);
            System.arraycopy(other.seenLamps, 0, seenLamps, 0, MOST_SEEN);
        }
    }

    private static final class Kept {
        boolean full = false;
        int lamps = 0;
        final int[] from = new int[LAMP_ROOM];
        final int[] goal = new int[LAMP_ROOM];
        final int[] volts = new int[LAMP_ROOM];
        final Notes notes = new Notes();

        void take(Board board, Notes live) {
            full = true;
            lamps = board.lamps;
            System.arraycopy(board.from, 0, from, 0, LAMP_ROOM);
            System.arraycopy(board.goal, 0, goal, 0, LAMP_ROOM);
            System.arraycopy(board.volts, 0, volts, 0, LAMP_ROOM);
            notes.copyFrom(live);
        }

        void give(Board board, Notes live) {
            board.lamps = lamps;
            System.arraycopy(from, 0, board.from, 0, LAMP_ROOM);
            System.arraycopy(goal, 0, board.goal, 0, LAMP_ROOM);
            System.arraycopy(volts, 0, board.volts, 0, LAMP_ROOM);
            board.rewire();
            live.copyFrom(notes);
        }
    }

    /** What each setting shows; made again only when the board has changed since. */
    private static final class Table {
        final Board board;
        final Flow flow;
        final int[] high = new int[SEARCH_SETTINGS];
        final int[] low = new int[SEARCH_SETTINGS];
        final long[] glow = new long[SEARCH_SETTINGS];
        final boolean[] clean = new boolean[SEARCH_SETTINGS];
        /** Settings by what they show, hashed: the number and one, 0 for none. */
        final int[] slots = new int[4096];
        int size = 0;
        boolean fresh = false;

        Table(Board board, Flow flow) {
            this.board = board;
            this.flow = flow;
        }

        void refresh() {
            if (fresh) {
                return;
            }
            size = Math.min(settingsOf(board.wide), SEARCH_SETTINGS);
            for (int s = 0; s < size; s++) {
                high[s] = wiresThatAre(1, s, board.wide);
                low[s] = wiresThatAre(2, s, board.wide);
                flow.lay(high[s], low[s]);
                glow[s] = flow.run();
                clean[s] = (glow[s] & ~board.asked(high[s], low[s])) == 0;
            }
            fresh = true;
        }

        boolean isTurn(int s, long picture) {
            return clean[s] && glow[s] != 0 && (glow[s] & ~picture) == 0;
        }

        /** How many sets these settings show that are not in the slots yet. */
        int newSets(boolean ofClean) {
            int many = 0;
            for (int s = 0; s < size; s++) {
                if (clean[s] == ofClean && enter(s)) {
                    many++;
                }
            }
            return many;
        }

        private boolean enter(int s) {
            int start = (int) (glow[s] * 0x9E3779B97F4A7C15L >>> 52);
            for (int n = 0; n < slots.length; n++) {
                int slot = start + n & slots.length - 1;
                int there = slots[slot] - 1;
                if (there < 0) {
                    slots[slot] = s + 1;
                    return true;
                }
                if (glow[there] == glow[s]) {
                    return false;
                }
            }
            return false;
        }

        /** Lamps behind this one that glow in just its settings; none if it never glows. */
        long likeBehind(int lamp) {
            long like = -1L << lamp & ~(1L << lamp);
            boolean some = false;
            for (int s = 0; s < size && like != 0; s++) {
                boolean on = (glow[s] >>> lamp & 1) != 0;
                like &= on ? glow[s] : ~glow[s];
                some |= on;
            }
            return some ? like : 0;
        }
    }

    /** A picture's turns, with its lamps numbered anew from 0, so that sets of them are indices. */
    private static final class Parting {
        static final int MOST_ORDERED = 6;
        private static final int NEVER = 99;
        /** No more of twelve lamps' sets are such that none holds another. */
        private static final int MOST_WIDEST = 924;

        final Table table;
        final Flow flow;
        final int[] lampAt = new int[PART_LAMPS];
        int lamps;
        final int[] cover = new int[SEARCH_SETTINGS];
        final int[] widest = new int[MOST_WIDEST];
        int widestSize;
        final int[] fewest = new int[PART_SETS];
        /** For each lamp those that are in a turn with it. */
        final int[] near = new int[PART_LAMPS];
        final int[] chosen = new int[PART_LAMPS];
        int turns;
        final int[] order = new int[PART_LAMPS];
        final int[] tried = new int[PART_LAMPS];
        int fewestChanges;
        final int[] slots = new int[PART_LAMPS];
        final long[] lights = new long[PART_LAMPS * PART_LAMPS];
        final long[] sums = new long[PART_LAMPS];

        Parting(Table table, Flow flow) {
            this.table = table;
            this.flow = flow;
        }

        void open(long picture) {
            lamps = 0;
            for (int lamp = 0; lamp < MOST_LAMPS && lamps < PART_LAMPS; lamp++) {
                if ((picture >>> lamp & 1) != 0) {
                    lampAt[lamps] = lamp;
                    lamps++;
                }
            }
            for (int s = 0; s < table.size; s++) {
                cover[s] = table.isTurn(s, picture) ? numbered(table.glow[s]) : 0;
            }
        }

        private int numbered(long glow) {
            int set = 0;
            for (int k = 0; k < lamps; k++) {
                set |= (int) (glow >>> lampAt[k] & 1) << k;
            }
            return set;
        }

        /** Chooses the turns: how many, or NO_WAY. */
        int part() {
            findWidest();
            int all = (1 << lamps) - 1;
            Arrays.fill(fewest, 0, all + 1, NONE);
            turns = fewestFor(all, 0);
            if (turns >= NEVER) {
                turns = 0;
                return NO_WAY;
            }
            choose(all);
            return turns;
        }

        private void findWidest() {
            widestSize = 0;
            for (int s = 0; s < table.size; s++) {
                if (cover[s] != 0) {
                    addWidest(cover[s]);
                }
            }
        }

        private void addWidest(int set) {
            for (int k = 0; k < widestSize; k++) {
                if ((set & ~widest[k]) == 0) {
                    return;
                }
            }
            int left = 0;
            for (int k = 0; k < widestSize; k++) {
                if ((widest[k] & ~set) != 0) {
                    widest[left] = widest[k];
                    left++;
                }
            }
            if (left < widest.length) {
                widest[left] = set;
                left++;
            }
            widestSize = left;
        }

        private int fewestFor(int set, int level) {
            if (set == 0) {
                return 0;
            }
            if (fewest[set] != NONE || level > PART_LAMPS) {
                return fewest[set];
            }
            int lamp = set & -set;
            int least = NEVER;
            for (int k = 0; k < widestSize; k++) {
                if ((widest[k] & lamp) != 0) {
                    least = Math.min(least, fewestFor(set & ~widest[k], level + 1) + 1);
                }
            }
            fewest[set] = least;
            return least;
        }

        /**
         * The first setting that some fewest turns have is the first of the least row: were another
         * one of its turns below it, that would have been met ahead. So it goes on for the rest.
         */
        private void choose(int all) {
            int left = all;
            int size = 0;
            for (int s = 0; s < table.size && size < turns; s++) {
                int rest = left & ~cover[s];
                if (rest != left && fewestFor(rest, 0) == turns - size - 1) {
                    chosen[size] = s;
                    size++;
                    left = rest;
                }
            }
        }

        /** The most lamps (as the board numbers them) no two of which are in one turn. */
        long mostApart() {
            int most = 0;
            int set = 0;
            findNear();
            for (int some = 0; some < 1 << lamps; some++) {
                if (Integer.bitCount(some) > most && isApart(some)) {
                    most = Integer.bitCount(some);
                    set = some;
                }
            }
            long result = 0;
            for (int k = 0; k < lamps; k++) {
                result |= (long) (set >>> k & 1) << lampAt[k];
            }
            return result;
        }

        private void findNear() {
            Arrays.fill(near, 0);
            for (int s = 0; s < table.size; s++) {
                for (int k = 0; k < lamps && cover[s] != 0; k++) {
                    near[k] |= (cover[s] >>> k & 1) != 0 ? cover[s] : 0;
                }
            }
        }

        private boolean isApart(int set) {
            for (int k = 0; k < lamps; k++) {
                if ((set >>> k & 1) != 0 && (near[k] & set & ~(1 << k)) != 0) {
                    return false;
                }
            }
            return true;
        }

        /** The order with the fewest changes of wires: how many. */
        int putInOrder() {
            fewestChanges = SEARCH_WIDE * MOST_ORDERED + 1;
            tryOrder(0, 0, 0, 0);
            return fewestChanges;
        }

        /** Orders are met from the least row on, so only fewer changes take the place. */
        private void tryOrder(int size, int used, int before, int sum) {
            if (sum >= fewestChanges || size > MOST_ORDERED) {
                return;
            }
            if (size == turns) {
                fewestChanges = sum;
                System.arraycopy(tried, 0, order, 0, turns);
                return;
            }
            for (int k = 0; k < turns; k++) {
                if ((used >>> k & 1) == 0) {
                    tried[size] = chosen[k];
                    int more = differing(before, chosen[k]);
                    tryOrder(size + 1, used | 1 << k, chosen[k], sum + more);
                }
            }
        }

        private int differing(int a, int b) {
            return Integer.bitCount(table.high[a] ^ table.high[b] | table.low[a] ^ table.low[b]);
        }

        /** Gives n slots, at least as many as turns: the least that a lamp of the picture has. */
        long giveSlots(int n) {
            for (int t = 0; t < turns; t++) {
                slots[t] = 1;
            }
            Arrays.fill(sums, 0L);
            takeLights();
            if (lamps == 0) {
                return 0;
            }
            for (int given = turns; given < n; given++) {
                int t = brightestTurn(dimmest());
                slots[t]++;
                for (int k = 0; k < lamps; k++) {
                    sums[k] += lights[t * PART_LAMPS + k];
                }
            }
            return sums[dimmest()];
        }

        private void takeLights() {
            for (int t = 0; t < turns; t++) {
                flow.glowing(table.high[chosen[t]], table.low[chosen[t]]);
                for (int k = 0; k < lamps; k++) {
                    lights[t * PART_LAMPS + k] = flow.light[lampAt[k]];
                    sums[k] += flow.light[lampAt[k]];
                }
            }
        }

        private int dimmest() {
            int least = 0;
            for (int k = 1; k < lamps; k++) {
                least = sums[k] < sums[least] ? k : least;
            }
            return least;
        }

        private int brightestTurn(int k) {
            int most = 0;
            for (int t = 1; t < turns; t++) {
                if (lights[t * PART_LAMPS + k] > lights[most * PART_LAMPS + k]) {
                    most = t;
                }
            }
            return most;
        }
    }

    /** The faults by their numbers, and those that agree with all that was seen. */
    private static final class Suspects {
        private static final int CUT = 1;
        private static final int TOUCH = 2;
        private static final int TURNED = 3;

        final Table table;
        final Board board;
        final Flow flow;
        final Notes notes;
        final int[] agrees = new int[MOST_FAULTS];
        int agreeing = 0;
        final long[] groupGlow = new long[MOST_FAULTS];
        final int[] groupSize = new int[MOST_FAULTS];
        int groups = 0;

        Suspects(Table table, Flow flow, Notes notes) {
            this.table = table;
            this.board = table.board;
            this.flow = flow;
            this.notes = notes;
        }

        int firstTouch() {
            return 1 + board.wide;
        }

        int firstTurned() {
            return firstTouch() + board.wide * (board.wide - 1) / 2;
        }

        int size() {
            return firstTurned() + board.lamps;
        }

        boolean has(int fault) {
            return fault >= 0 && fault < size();
        }

        int kindOf(int fault) {
            if (fault == 0) {
                return 0;
            }
            if (fault < firstTouch()) {
                return CUT;
            }
            return fault < firstTurned() ? TOUCH : TURNED;
        }

        int firstOf(int fault) {
            if (fault == 0) {
                return NONE;
            }
            if (fault < firstTouch()) {
                return fault - 1;
            }
            return fault < firstTurned() ? firstOfPair(fault) : fault - firstTurned();
        }

        int secondOf(int fault) {
            return kindOf(fault) == TOUCH ? secondOfPair(fault, firstOfPair(fault)) : NONE;
        }

        private int firstOfPair(int fault) {
            int first = 0;
            int behind = fault - firstTouch();
            for (int pairs = board.wide - 1; pairs > 0 && behind >= pairs; pairs--) {
                behind -= pairs;
                first++;
            }
            return first;
        }

        /** The pairs of each wire ahead of the first one are one fewer than those of the wire before. */
        private int secondOfPair(int fault, int first) {
            int ahead = first * (2 * board.wide - first - 1) / 2;
            return fault - firstTouch() - ahead + first + 1;
        }

        long glowWith(int fault, int high, int low) {
            flow.lay(high, low);
            switch (kindOf(fault)) {
                case CUT:
                    flow.cut(firstOf(fault));
                    break;
                case TOUCH:
                    int first = firstOfPair(fault);
                    flow.join(first, secondOfPair(fault, first));
                    break;
                case TURNED:
                    flow.turn(firstOf(fault));
                    break;
                default:
                    break;
            }
            return flow.run();
        }

        /** What a setting shows with a fault; the table is fresh. */
        private long glowBy(int fault, int s) {
            if (fault == 0) {
                return table.glow[s];
            }
            int high = table.high[s];
            int low = table.low[s];
            return high == 0 || low == 0 ? 0 : glowWith(fault, high, low);
        }

        /** The first setting from this one on that parts two faults; NONE without. */
        int firstParting(int a, int b, int start) {
            for (int s = start; s < table.size && a != b; s++) {
                if (glowBy(a, s) != glowBy(b, s)) {
                    return s;
                }
            }
            return NONE;
        }

        int firstAgainst(int fault) {
            for (int k = 0; k < notes.seenSize; k++) {
                if (glowWith(fault, notes.seenHigh[k], notes.seenLow[k]) != notes.seenLamps[k]) {
                    return k;
                }
            }
            return NO_WAY;
        }

        void gather() {
            agreeing = 0;
            int size = size();
            for (int fault = 0; fault < size && agreeing < agrees.length; fault++) {
                if (firstAgainst(fault) == NO_WAY) {
                    agrees[agreeing] = fault;
                    agreeing++;
                }
            }
        }

        /** The most that agree and show the same by a setting; it stops at the limit. */
        int leftAtWorst(int s, int limit) {
            groups = 0;
            int worst = 0;
            for (int k = 0; k < agreeing && worst < limit; k++) {
                worst = Math.max(worst, joinGroup(glowBy(agrees[k], s)));
            }
            return worst;
        }

        private int joinGroup(long glow) {
            for (int g = 0; g < groups; g++) {
                if (groupGlow[g] == glow) {
                    groupSize[g]++;
                    return groupSize[g];
                }
            }
            if (groups < groupGlow.length) {
                groupGlow[groups] = glow;
                groupSize[groups] = 1;
                groups++;
            }
            return 1;
        }
    }

    /**
     * The tests and the shallowest tree of them. Faults that all tests show alike are one group; the
     * tests taken so far (bits) part the groups into cells, each called by its first group. Where
     * one stands in a tree is told by these two alone, so each such place is reckoned but once.
     */
    private static final class Plan {
        final Suspects suspects;
        final int[] testHigh = new int[MOST_TESTS];
        final int[] testLow = new int[MOST_TESTS];
        int tests = 0;
        final int[] groupOf = new int[MOST_FAULTS];
        int groups = 0;
        final long[] shown = new long[MOST_FAULTS * MOST_TESTS];
        final int[] sizes = new int[MOST_FAULTS];
        final int[] worst = new int[MOST_FAULTS];
        /** How many cells there are with some tests taken. */
        final int[] parts = new int[1 << MOST_TESTS];
        /** The largest rows of all, so only an object that is asked for a tree makes them, once. */
        int[] cells = {};
        int[] depths = {};

        Plan(Suspects suspects) {
            this.suspects = suspects;
        }

        boolean addTest(int high, int low) {
            if (tests >= MOST_TESTS) {
                return false;
            }
            testHigh[tests] = high;
            testLow[tests] = low;
            tests++;
            return true;
        }

        void grow() {
            if (cells.length == 0) {
                cells = new int[MOST_FAULTS << MOST_TESTS];
                depths = new int[MOST_FAULTS << MOST_TESTS];
            }
            groups = 0;
            for (int k = 0; k < suspects.agreeing; k++) {
                groupOf[k] = findGroup(suspects.agrees[k]);
            }
            parts[0] = 1;
            for (int g = 0; g < groups; g++) {
                cells[place(0, g)] = 0;
            }
            for (int taken = 1; taken < 1 << tests; taken++) {
                partCells(taken);
            }
            for (int taken = (1 << tests) - 1; taken >= 0; taken--) {
                reckonDepths(taken);
            }
        }

        private int findGroup(int fault) {
            int row = groups * MOST_TESTS;
            for (int t = 0; t < tests; t++) {
                shown[row + t] = suspects.glowWith(fault, testHigh[t], testLow[t]);
            }
            for (int g = 0; g < groups; g++) {
                if (isSameRow(g * MOST_TESTS, row)) {
                    return g;
                }
            }
            groups++;
            return groups - 1;
        }

        private boolean isSameRow(int row, int other) {
            for (int t = 0; t < tests; t++) {
                if (shown[row + t] != shown[other + t]) {
                    return false;
                }
            }
            return true;
        }

        private static int place(int taken, int group) {
            return taken * MOST_FAULTS + group;
        }

        /** The cells without one of the tests taken, parted by that one. */
        private void partCells(int taken) {
            int test = Integer.numberOfTrailingZeros(taken);
            int before = place(taken & ~(1 << test), 0);
            boolean parted = parts[taken & ~(1 << test)] == groups;
            parts[taken] = 0;
            for (int g = 0; g < groups; g++) {
                int first = parted ? g : cells[before + g];
                while (first < g && !isOneCell(first, g, before, test)) {
                    first++;
                }
                cells[place(taken, g)] = first;
                parts[taken] += first == g ? 1 : 0;
            }
        }

        private boolean isOneCell(int a, int b, int before, int test) {
            return cells[before + a] == cells[before + b]
                && shown[a * MOST_TESTS + test] == shown[b * MOST_TESTS + test];
        }

        private void reckonDepths(int taken) {
            int row = place(taken, 0);
            Arrays.fill(sizes, 0);
            for (int g = 0; g < groups; g++) {
                sizes[cells[row + g]]++;
            }
            for (int g = 0; g < groups; g++) {
                depths[row + g] = sizes[g] > 1 ? MOST_TESTS : 0;
            }
            for (int t = 0; t < tests && parts[taken] < groups; t++) {
                if ((taken >>> t & 1) == 0) {
                    tryTest(row, taken | 1 << t);
                }
            }
        }

        private void tryTest(int row, int then) {
            Arrays.fill(worst, 0);
            for (int g = 0; g < groups; g++) {
                int cell = cells[row + g];
                worst[cell] = Math.max(worst[cell], depthAt(then, g));
            }
            for (int g = 0; g < groups; g++) {
                if (sizes[g] > 1) {
                    depths[row + g] = Math.min(depths[row + g], 1 + worst[g]);
                }
            }
        }

        int depthAt(int taken, int group) {
            return depths[place(taken, cells[place(taken, group)])];
        }

        /** The first of the best tests for a group's cell; NONE if no test is due there. */
        int firstTest(int taken, int group) {
            int depth = depthAt(taken, group);
            for (int t = 0; t < tests && depth > 0; t++) {
                if ((taken >>> t & 1) == 0 && 1 + worstBehind(taken, t, group) == depth) {
                    return t;
                }
            }
            return NONE;
        }

        private int worstBehind(int taken, int test, int group) {
            int row = place(taken, 0);
            int most = 0;
            for (int g = 0; g < groups; g++) {
                if (cells[row + g] == cells[row + group]) {
                    most = Math.max(most, depthAt(taken | 1 << test, g));
                }
            }
            return most;
        }

        int groupOfFault(int fault) {
            for (int k = 0; k < suspects.agreeing; k++) {
                if (suspects.agrees[k] == fault) {
                    return groupOf[k];
                }
            }
            return 0;
        }

        int sizeOfGroup(int group) {
            int size = 0;
            for (int k = 0; k < suspects.agreeing; k++) {
                size += groupOf[k] == group ? 1 : 0;
            }
            return size;
        }
    }
}
