/** Promises 32 to 45, faults: the edges that each names, and what a refused call leaves. */
public final class FaultsEdgesTest extends Bench {
    static final int MIN = Integer.MIN_VALUE;
    static final int MAX = Integer.MAX_VALUE;
    /** The faults of rich(): none, 5 wires, 10 pairs, 7 lamps. */
    static final int RICH = 23;

    public static void main(String[] args) {
        runTests(FaultsEdgesTest.class);
    }

    interface OfFault {
        long on(NinetyLamps x, int fault);
    }

    /** No fault but those there are, whatever else might be refused. */
    static void needsAFault(String what, OfFault call, long refusal) {
        for (int fault : new int[] {-1, RICH, 116, MIN, MAX}) {
            leaves(what + "(" + fault + ")", x -> call.on(x, fault), refusal);
            leaves(what + "(" + fault + "), WIDE 8", () -> with("w8"), x -> call.on(x, fault == RICH ? 37 : fault), refusal);
        }
        for (int fault = 0; fault < RICH; fault++) {
            NinetyLamps x = rich();
            x.forget();
            x.forget();
            x.forget();
            due(what + "(" + fault + ")", call.on(x, fault) != refusal, true);
        }
        NinetyLamps most = addLamps(with("w10"), 60);
        due(what + "(115)", call.on(most, 115) != refusal, true);
        due(what + "(116)", call.on(most, 116), refusal);
        due(what + "(3) of four", call.on(with("w2"), 3) != refusal, true);
        due(what + "(4) of four", call.on(with("w2"), 4), refusal);
    }

    /** Lamps that never glow, so that each fault of three wires is hidden. */
    static NinetyLamps dark(int lamps) {
        NinetyLamps x = with("w3");
        for (int k = 0; k < lamps; k++) {
            tell(x, "0>1*9");
        }
        return x;
    }

    /** Nine wires, eight lamps from wire 0, a test for each lamp: none needs all of them. */
    static NinetyLamps star() {
        NinetyLamps x = with("w9;0>1*1;0>2*1;0>3*1;0>4*1;0>5*1;0>6*1;0>7*1;0>8*1");
        x.set(1, 1);
        for (int wire = 1; wire <= 8; wire++) {
            x.test(1, 1 << wire);
        }
        return x;
    }

    // ---- faults, fault

    static void promise32FewestAndMost() {
        NinetyLamps x = with("w2");
        due("two wires", x.faults(), 4);
        row(x, 3, 4);
        NinetyLamps most = addLamps(with("w10"), 60);
        due("ten wires, sixty lamps", most.faults(), 116);
        row(most, 11, 56);
        NinetyLamps none = with("w10");
        due("ten wires", none.faults(), 56);
        row(none, 11, 56);
    }

    static void promise33FaultsThatAreThere() {
        needsAFault("fault", (x, fault) -> faultOf(x, fault, 0), THROWN);
    }

    static void promise33NoOtherWhat() {
        for (int what : new int[] {-1, 3, MIN, MAX}) {
            leaves("fault(0, " + what + ")", x -> faultOf(x, 0, what), THROWN);
            leaves("fault(6, " + what + ")", x -> faultOf(x, 6, what), THROWN);
        }
        leaves("none such, another what", x -> faultOf(x, RICH, 3), THROWN);
    }

    static void promise33NoneOfWhatItHasNot() {
        NinetyLamps x = with("w2;0>1*1;1>0*1");
        int[][] all = {{0, NONE, NONE}, {1, 0, NONE}, {1, 1, NONE}, {2, 0, 1}, {3, 0, NONE}, {3, 1, NONE}};
        for (int fault = 0; fault < all.length; fault++) {
            for (int what = 0; what < 3; what++) {
                due("fault(" + fault + ", " + what + ")", faultOf(x, fault, what), all[fault][what]);
            }
        }
        due("behind the last", faultOf(x, 6, 0), THROWN);
    }

    // ---- would

    static void promise34FaultsThatAreThere() {
        needsAFault("would", (x, fault) -> x.would(fault, 1, 2), NONE);
    }

    static void promise34SettingsAlone() {
        int[][] calls = {{1, 1}, {32, 0}, {0, 32}, {-1, 0}, {0, -1}, {MIN, 0}, {0, MIN}, {MAX, 0}, {16, 16}};
        for (int[] call : calls) {
            leaves("would(0, " + call[0] + ", " + call[1] + ")", x -> x.would(0, call[0], call[1]), NONE);
            leaves("would(22, " + call[0] + ", " + call[1] + ")", x -> x.would(22, call[0], call[1]), NONE);
        }
        due("all of five wires", rich().would(0, 1, 30) >= 0, true);
    }

    static void promise34ShowsNothingOfIt() {
        for (int fault = 0; fault < RICH; fault++) {
            int f = fault;
            leaves("would(" + fault + ", 9, 6)", x -> x.would(f, 9, 6), rich().would(fault, 9, 6));
        }
    }

    static void promise34LastLampTurned() {
        NinetyLamps x = addLamps(with("w10"), 60);
        due("turned", x.would(115, 2, 1), 1L << 59);
        due("all but that", x.would(115, 1, 2), (1L << 59) - 1);
        due("wire 9 cut", x.would(10, 1, 2), (1L << 60) - 1);
        due("8 and 9 touch", x.would(55, 1, 2), (1L << 60) - 1);
        due("0 and 1 touch", x.would(11, 1, 4), 0);
    }

    // ---- tells, hidden, alike

    static void promise35FaultsThatAreThere() {
        needsAFault("tells", NinetyLamps::tells, NONE);
    }

    static void promise35NoneTellsAnEmptyRow() {
        NinetyLamps x = rich();
        due("no fault", x.tells(0), 0);
        row(x);
        NinetyLamps dark = dark(1);
        dark.faults();
        due("a lamp that never glows, turned", dark.tells(7), 0);
        row(dark);
    }

    static void promise35HowManyAndTheFirst() {
        NinetyLamps x = with("w7;0>1*1");
        due("wire 0 cut, all states of five others", x.tells(1), 243);
        row(x, 729 + 2 * 243);
        due("turned, both ways", x.tells(1 + 7 + 21), 486);
        row(x, 729 + 2 * 243);
        due("wire 6 cut", x.tells(7), 0);
        row(x);
    }

    static void promise36FirstEightOfThem() {
        NinetyLamps seven = dark(1);
        due("seven", seven.hidden(), 7);
        row(seven, 1, 2, 3, 4, 5, 6, 7);
        NinetyLamps eight = dark(2);
        due("eight", eight.hidden(), 8);
        row(eight, 1, 2, 3, 4, 5, 6, 7, 8);
        NinetyLamps nine = dark(3);
        due("nine", nine.hidden(), 9);
        row(nine, 1, 2, 3, 4, 5, 6, 7, 8);
    }

    static void promise36NoneIsHidden() {
        NinetyLamps x = with("w2;0>1*1");
        x.faults();
        due("hidden()", x.hidden(), 0);
        row(x);
        NinetyLamps most = addLamps(with("w7"), 60);
        due("cuts of the five wires without lamps", most.hidden(), 5);
        row(most, 3, 4, 5, 6, 7);
    }

    static void promise37FaultsThatAreThere() {
        needsAFault("alike, second", (x, fault) -> x.alike(0, fault), NONE);
        needsAFault("alike, first", (x, fault) -> x.alike(fault, 0), NONE);
    }

    static void promise37AlikeInAllSettings() {
        NinetyLamps x = with("w2;0>1*1");
        due("cut 0 and cut 1", x.alike(1, 2), 1);
        due("each with itself", x.alike(4, 4), 1);
        due("none and none", x.alike(0, 0), 1);
        leaves("it tells no row", y -> y.alike(3, 3), 1);
        due("none and cut", x.alike(0, 1), 0);
        row(x, 5);
        due("turned and cut", x.alike(4, 2), 0);
        row(x, 7);
    }

    static void promise37LastSettingParts() {
        NinetyLamps x = with("w2;1>0*1;0>1*9");
        due("lamp 0 at the last but one", x.alike(0, 1), 0);
        row(x, 7);
        due("lamp 0 turned or 1 cut: 0 high, 1 low", x.alike(2, 4), 0);
        row(x, 5);
    }

    // ---- seen, forget

    static void promise38TwelveAtMost() {
        NinetyLamps x = with("w2;0>1*1");
        for (int many = 1; many <= 12; many++) {
            due("seen", x.seen(1, 2, many % 2), many);
            due("count(5)", x.count(5), many);
        }
        Maker full = () -> {
            NinetyLamps y = rich();
            see(y, 9);
            return y;
        };
        due("twelve", full.make().count(5), 12);
        leaves("the 13th", full, y -> y.seen(1, 2, 1), NONE);
        NinetyLamps y = full.make();
        y.forget();
        due("one is forgotten", y.seen(1, 2, 1), 12);
    }

    static void promise38OthersAreRefused() {
        int[][] calls = {{1, 1}, {32, 0}, {0, 32}, {-1, 0}, {0, MIN}, {MAX, 0}};
        for (int[] call : calls) {
            leaves("seen(" + call[0] + ", " + call[1] + ", 0)", x -> x.seen(call[0], call[1], 0), NONE);
        }
        leaves("bit 7 of 7", x -> x.seen(1, 2, 128), NONE);
        leaves("bit 63", x -> x.seen(1, 2, Long.MIN_VALUE), NONE);
        leaves("all bits", x -> x.seen(1, 2, -1), NONE);
        due("bit 6 of 7", rich().seen(1, 2, 64), 4);
        due("all of 7", rich().seen(31, 0, 127), 4);
        NinetyLamps sixty = addLamps(new NinetyLamps(), 60);
        due("all sixty", sixty.seen(1, 2, (1L << 60) - 1), 1);
        due("bit 60 of 60", sixty.seen(1, 2, 1L << 60), NONE);
        leaves("bit 0 of none", NinetyLamps::new, x -> x.seen(1, 2, 1), NONE);
    }

    static void promise39NoneToForget() {
        NinetyLamps x = with("w2;0>1*1");
        leaves("none", () -> with("w2;0>1*1"), NinetyLamps::forget, NONE);
        x.seen(1, 2, 1);
        due("the last", x.forget(), 0);
        due("none", x.forget(), NONE);
        due("count(5)", x.count(5), 0);
    }

    static void promise39LatestIsForgotten() {
        NinetyLamps x = with("w2;0>1*1");
        x.seen(2, 1, 0);
        see(x, 10);
        x.seen(1, 2, 0);
        due("the twelfth does not agree", x.judge(0), 11);
        due("forget()", x.forget(), 11);
        due("all agree", x.judge(0), -2);
        due("the first is still there", x.judge(4), 0);
    }

    // ---- which, judge

    static void promise40FirstEightOfThem() {
        NinetyLamps seven = dark(0);
        due("seven", seven.which(), 7);
        row(seven, 0, 1, 2, 3, 4, 5, 6);
        NinetyLamps eight = dark(1);
        due("eight", eight.which(), 8);
        row(eight, 0, 1, 2, 3, 4, 5, 6, 7);
        NinetyLamps nine = dark(2);
        due("nine", nine.which(), 9);
        row(nine, 0, 1, 2, 3, 4, 5, 6, 7);
        due("all there can be", addLamps(with("w10"), 60).which(), 116);
    }

    static void promise40NoneAgrees() {
        NinetyLamps x = with("w2;0>1*1");
        x.faults();
        x.seen(1, 2, 1);
        x.seen(1, 2, 0);
        due("which()", x.which(), 0);
        row(x);
    }

    static void promise41FaultsThatAreThere() {
        needsAFault("judge", NinetyLamps::judge, NONE);
    }

    static void promise41FirstOfTwelve() {
        NinetyLamps x = with("w2;0>1*1");
        due("nothing was seen", x.judge(0), -2);
        see(x, 11);
        x.seen(1, 2, 0);
        due("the twelfth", x.judge(0), 11);
        due("agrees with all", x.judge(1), -2);
        NinetyLamps y = with("w2;0>1*1");
        y.seen(1, 2, 0);
        y.seen(1, 2, 0);
        due("the first", y.judge(0), 0);
        leaves("it tells no row", z -> z.judge(0), rich().judge(0));
    }

    // ---- next

    static void promise42NoneAgrees() {
        leaves("none agrees", () -> {
            NinetyLamps x = with("w2;0>1*1");
            x.faults();
            x.seen(0, 0, 1);
            return x;
        }, NinetyLamps::next, -2);
        leaves("none agrees, WIDE 8", () -> {
            NinetyLamps x = with("w8;0>1*1");
            x.seen(0, 0, 1);
            return x;
        }, NinetyLamps::next, -3);
    }

    static void promise42OneAgrees() {
        NinetyLamps x = with("w2;0>1*1");
        x.seen(2, 1, 1);
        due("turned alone", x.next(), 1);
        row(x, 0);
    }

    static void promise42NothingTells() {
        NinetyLamps x = with("w3");
        due("all are left by any", x.next(), 7);
        row(x, 0);
    }

    static void promise42FirstOfEqualOnes() {
        NinetyLamps x = with("w2;0>1*1;1>0*1");
        due("at worst cut, cut, touch, lamp 0 turned", x.next(), 4);
        row(x, 5);
        NinetyLamps y = with("w3;1>2*1");
        due("lamp 0: cut 0, touch of 0, none; or cut 1, 2, touch, turned", y.next(), 4);
        row(y, 5);
    }

    static void promise42OfAllSettings() {
        NinetyLamps x = with("w3;1>2*1;1>0*1");
        due("2 1 2: both; lamp 0; lamp 1; three dark", x.next(), 3);
        row(x, 23);
        x.seen(2, 5, 0);
        due("of cut 1, 0 and 1 that touch, 1 and 2 that touch", x.next(), 2);
        row(x, 5);
    }

    // ---- test, tree, path

    static void promise43EightAtMost() {
        NinetyLamps x = with("w2;0>1*1");
        for (int k = 0; k < 8; k++) {
            due("test", x.test(1, 2), k);
            due("count(6)", x.count(6), k + 1);
        }
        leaves("the ninth", FaultsEdgesTest::star, y -> y.test(1, 2), NONE);
        leaves("the ninth", () -> {
            NinetyLamps y = rich();
            for (int k = 0; k < 5; k++) {
                y.test(0, 0);
            }
            return y;
        }, y -> y.test(1, 2), NONE);
    }

    static void promise43OthersAreRefused() {
        int[][] calls = {{1, 1}, {32, 0}, {0, 32}, {-1, 0}, {0, MIN}, {MAX, 0}, {16, 16}};
        for (int[] call : calls) {
            leaves("test(" + call[0] + ", " + call[1] + ")", x -> x.test(call[0], call[1]), NONE);
        }
        due("all of five wires", rich().test(15, 16), 3);
        due("none driven", rich().test(0, 0), 3);
    }

    static void promise44NoneForZero() {
        NinetyLamps none = new NinetyLamps();
        due("no tests", none.tree(), 0);
        row(none, NONE, 1);
        NinetyLamps idle = with("w2;0>1*1");
        idle.test(0, 0);
        idle.test(3, 0);
        due("tests that part nothing", idle.tree(), 0);
        row(idle, NONE, 1);
        idle.test(1, 2);
        due("one that does", idle.tree(), 1);
        row(idle, 2, 2);
        idle.seen(1, 2, 1);
        due("one fault alone", idle.tree(), 0);
        row(idle, NONE, 1);
    }

    static void promise44NoneAgrees() {
        leaves("tree()", () -> {
            NinetyLamps x = with("w2;0>1*1");
            x.test(1, 2);
            x.tree();
            x.seen(0, 0, 1);
            return x;
        }, NinetyLamps::tree, -2);
    }

    static void promise44AllEightTests() {
        NinetyLamps x = star();
        due("the deepest there is", x.tree(), 8);
        row(x, 0, 1 + 1 + 8 + 28);
    }

    static void promise44FirstOfEqualOnes() {
        NinetyLamps x = with("w2;0>1*1");
        x.test(1, 2);
        x.test(1, 2);
        due("the same twice", x.tree(), 1);
        row(x, 0, 2);
        NinetyLamps most = addLamps(with("w10"), 60);
        most.test(2, 1);
        most.test(1, 2);
        due("of 116 faults the second test tells each that the first does", most.tree(), 1);
        row(most, 1, 1 + 1 + 60);
    }

    /** Test 1 parts best; behind it tests 0 and 2, or 2 and 3, are due. */
    static NinetyLamps branching() {
        NinetyLamps x = with("w3;1>2*1;1>0*1");
        x.test(1, 2);
        x.test(3, 4);
        x.test(2, 1);
        x.test(5, 2);
        return x;
    }

    static void promise44NotTheFirstTest() {
        NinetyLamps x = branching();
        due("tree()", x.tree(), 3);
        row(x, 1, 7);
    }

    static void promise45FirstOfEqualTestsEachTime() {
        long[][] rows = {
            {1, 0, 2, 1}, {1, 0, 2, 2}, {1, 2, 1}, {1, 2, 3, 2}, {1, 0, 2, 2}, {1, 2, 1}, {1, 2, 3, 2}, {1, 2, 3, 1},
            {1, 0, 1}};
        NinetyLamps x = branching();
        for (int fault = 0; fault < rows.length; fault++) {
            due("path(" + fault + ")", x.path(fault), rows[fault].length - 1);
            row(x, rows[fault]);
        }
    }

    /** Boards with their tests (high, low), the tree's depth, first test and groups, each fault's path by digits. */
    static final String[][] TREES = {
        {"w4;2>3*1;2>0*1;1>3*1;0>3*1", "8 2 6 8 2 13 4 3", "3 1 14",
            "121 132 101 11 1231 121 121 11 121 1231 121 11 132 101 131"},
        {"w3;1>2*1;1>0*1", "2 5", "1 0 4", "02 02 03 02 03 02 03 02 02"},
        {"w4;2>3*1;2>1*1;3>0*1;3>0*1", "8 7 2 4 7 8 13 2", "3 2 10",
            "2302 2301 2313 201 2033 2313 2302 2033 2313 2031 2033 201 2311 21 21"},
        {"w2;0>1*1", "1 2", "1 0 2", "01 04 04 04 04"},
        {"w4;0>1*1;2>1*1;1>0*1", "9 4 6 1 1 10 12 1", "3 2 11",
            "2033 2132 2132 2031 2033 2131 21 211 201 2031 2033 211 201 21"},
        {"w4;1>2*1;1>0*1", "3 8 2 12 4 1 8 1", "3 1 7", "105 105 1232 1232 105 105 12 12 121 1231 101 121 105"}};

    static long[] numbers(String text) {
        String[] parts = text.split(" ");
        long[] numbers = new long[parts.length];
        for (int k = 0; k < parts.length; k++) {
            numbers[k] = Long.parseLong(parts[k]);
        }
        return numbers;
    }

    static void lookAtTree(NinetyLamps x, String[] tree) {
        tell(x, tree[0]);
        long[] tests = numbers(tree[1]);
        for (int k = 0; k < tests.length; k += 2) {
            x.test((int) tests[k], (int) tests[k + 1]);
        }
        long[] due = numbers(tree[2]);
        due("tree() of " + tree[0], x.tree(), due[0]);
        due("the first test", rowOf(x, 0), due[1]);
        due("groups", rowOf(x, 1), due[2]);
        String[] paths = tree[3].split(" ");
        for (int fault = 0; fault < paths.length; fault++) {
            int steps = paths[fault].length() - 1;
            due("path(" + fault + ") of " + tree[0], x.path(fault), steps);
            for (int k = 0; k <= steps; k++) {
                due("row(" + k + ")", rowOf(x, k), paths[fault].charAt(k) - '0');
            }
        }
    }

    static void promise45TreesOneAfterAnother() {
        for (int first = 0; first < TREES.length; first++) {
            NinetyLamps x = new NinetyLamps();
            for (int k = 0; k < 3; k++) {
                lookAtTree(x, TREES[(first + k) % TREES.length]);
            }
        }
    }

    static void promise45FaultsThatAreThere() {
        needsAFault("path", NinetyLamps::path, NONE);
    }

    static void promise45DoesNotAgree() {
        Maker maker = () -> {
            NinetyLamps x = with("w2;0>1*1");
            x.test(2, 1);
            x.seen(1, 2, 0);
            return x;
        };
        leaves("none", maker, x -> x.path(0), NONE);
        NinetyLamps x = maker.make();
        due("turned", x.path(4), 1);
        row(x, 0, 1);
        due("cut", x.path(1), 1);
        row(x, 0, 3);
        x.seen(2, 1, 0);
        due("turned no more", x.path(4), NONE);
        due("cut", x.path(1), 0);
        row(x, 3);
        x.seen(2, 1, 1);
        due("none agrees at all", x.path(1), NONE);
    }

    static void promise45AllEightTests() {
        NinetyLamps x = star();
        due("none", x.path(0), 8);
        row(x, 0, 1, 2, 3, 4, 5, 6, 7, 1);
        due("lamp 7 turned", x.path(1 + 9 + 36 + 7), 8);
        row(x, 0, 1, 2, 3, 4, 5, 6, 7, 3);
        due("wire 0 cut", x.path(1), 2);
        row(x, 0, 1, 1);
        due("1 and 2 touch", x.path(1 + 9 + 8), 1);
        row(x, 0, 1);
    }

    static void promise45NoTests() {
        NinetyLamps x = new NinetyLamps();
        due("path(0)", x.path(0), 0);
        row(x, 11);
        due("path(10)", x.path(10), 0);
        due("path(11)", x.path(11), NONE);
    }
}
