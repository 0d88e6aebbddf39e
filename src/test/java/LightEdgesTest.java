/** Promises 10 to 16, what glows: the edges that each names, and what a refused call leaves. */
public final class LightEdgesTest extends Bench {
    static final int MIN = Integer.MIN_VALUE;
    static final int MAX = Integer.MAX_VALUE;

    public static void main(String[] args) {
        runTests(LightEdgesTest.class);
    }

    static void promise10SettingIsShown() {
        NinetyLamps x = with(SIX);
        due("put(1, 2)", x.put(1, 2), 3);
        due("HIGH", x.count(3), 1);
        due("LOW", x.count(4), 2);
        due("put(0, 0)", x.put(0, 0), 0);
        due("HIGH", x.count(3), 0);
        due("LOW", x.count(4), 0);
        due("put(7, 0)", x.put(7, 0), 0);
        due("put(0, 7)", x.put(0, 7), 0);
        due("put(3, 4)", x.put(3, 4), 2);
    }

    static void promise10OthersAreRefused() {
        int[][] calls = {
            {1, 1}, {31, 16}, {16, 31}, {32, 0}, {0, 32}, {32, 32}, {-1, 0}, {0, -1}, {MIN, 0}, {0, MIN}, {MAX, 0}, {-1, -1},
            {1 << 10, 0}, {1 << 16 | 1, 2}};
        for (int[] call : calls) {
            leaves("put(" + call[0] + ", " + call[1] + ")", x -> x.put(call[0], call[1]), NONE);
        }
        due("all of five wires", rich().put(15, 16) >= 0, true);
    }

    static void promise10CountsLampsThatGlow() {
        NinetyLamps x = addLamps(new NinetyLamps(), 60);
        due("all sixty", x.put(1, 2), 60);
        due("glows()", x.glows(), (1L << 60) - 1);
        due("none the other way", x.put(2, 1), 0);
        due("without lamps", new NinetyLamps().put(1, 2), 0);
    }

    static void promise11AsIsShown() {
        NinetyLamps x = with(SIX);
        due("nothing shown", x.glows(), 0);
        x.put(1, 2);
        due("glows()", x.glows(), 25);
        x.put(1, 1);
        due("a refused one is not shown", x.glows(), 25);
        due("without lamps", new NinetyLamps().glows(), 0);
        leaves("glows()", NinetyLamps::glows, rich().glows());
    }

    static void promise12AsIsShown() {
        NinetyLamps x = with(SIX);
        due("nothing shown", x.ghosts(), 0);
        x.put(1, 2);
        due("ghosts()", x.ghosts(), 24);
        x.set(2, 26);
        due("too faint", x.ghosts(), 0);
        x.set(2, 25);
        due("just not too faint", x.ghosts(), 24);
        due("without lamps", new NinetyLamps().ghosts(), 0);
        leaves("ghosts()", NinetyLamps::ghosts, rich().ghosts());
    }

    static void promise12LastOfSixtyIsAGhost() {
        NinetyLamps x = with("w4;0>2*1");
        addLamps(x, 58);
        tell(x, "2>1*1");
        x.put(1, 2);
        due("the first and the 60th", x.ghosts(), 1L << 59 | 1);
    }

    static void promise13LampsThatAreThere() {
        NinetyLamps x = addLamps(new NinetyLamps(), 60);
        x.put(1, 2);
        due("the first", x.light(0), WHOLE * 4 / 3);
        due("the last", x.light(59), WHOLE * 4 / 3);
        row(x, 1, WHOLE * 4 / 3);
        due("behind it", x.light(60), NONE);
        for (int lamp : new int[] {-1, 7, 64, MIN, MAX}) {
            leaves("light(" + lamp + ")", y -> y.light(lamp), NONE);
        }
        leaves("of none", NinetyLamps::new, y -> y.light(0), NONE);
    }

    static void promise13NoPathCarries() {
        NinetyLamps x = with("0>1*4;0>1*5");
        due("nothing shown", x.light(0), 0);
        row(x, 0, 0);
        x.put(1, 2);
        due("above 4", x.light(0), WHOLE / 3);
        row(x, 1, WHOLE / 3);
        due("not above 5", x.light(1), 0);
        row(x, 0, 0);
    }

    static void promise13PathsAndTheMostOfThem() {
        NinetyLamps x = with("0>1*1;1>2*1;1>2*2;1>2*4;0>2*1");
        x.put(1, 4);
        due("of three paths two carry", x.light(0), WHOLE * 3 / 4 + WHOLE * 2 / 4);
        row(x, 2, WHOLE * 3 / 4);
        due("one of them", x.light(2), WHOLE * 2 / 4);
        row(x, 1, WHOLE * 2 / 4);
        due("without any", x.light(3), 0);
        row(x, 0, 0);
    }

    static void promise13TooFaintHasLightAllTheSame() {
        NinetyLamps x = with("0>1*4");
        x.set(2, 34);
        x.put(1, 2);
        due("does not glow", x.glows(), 0);
        due("light(0)", x.light(0), WHOLE / 3);
        row(x, 1, WHOLE / 3);
    }

    static void promise14LampsThatAreThere() {
        NinetyLamps x = addLamps(new NinetyLamps(), 60);
        x.put(1, 2);
        due("the last", x.why(59), WHOLE * 4 / 3);
        row(x, 59);
        due("behind it", x.why(60), NONE);
        for (int lamp : new int[] {-1, 7, 64, MIN, MAX}) {
            leaves("why(" + lamp + ")", y -> y.why(lamp), NONE);
        }
        leaves("of none", NinetyLamps::new, y -> y.why(0), NONE);
    }

    static void promise14NoPath() {
        Maker maker = () -> {
            NinetyLamps x = with("0>1*4;0>1*5;1>2*1");
            x.put(1, 2);
            x.why(0);
            return x;
        };
        row(maker.make(), 0);
        leaves("not above 5", maker, x -> x.why(1), -2);
        leaves("from a low wire", maker, x -> x.why(2), -2);
        NinetyLamps x = maker.make();
        x.set(0, 6);
        due("above 5", x.why(1), WHOLE / 3);
        row(x, 1);
    }

    static void promise14FewestLampsOfEqualOnes() {
        NinetyLamps x = with("w5;r0,0;r3,0;0>1*1;1>2*1;2>3*1;1>4*2");
        x.set(1, 3);
        x.put(1, 24);
        due("two lamps by 3, three by 3", x.why(0), WHOLE * 2 / 3);
        row(x, 0, 3);
        x.set(1, 2);
        due("as far as two", x.why(0), WHOLE * 2 / 3);
        row(x, 0, 3);
        NinetyLamps few = with("w5;r0,0;r3,0;1>2*1;0>1*1;1>4*2;2>3*1");
        few.set(1, 3);
        few.put(1, 24);
        due("not by more lamps, with a less row", few.why(1), WHOLE * 2 / 3);
        row(few, 1, 2);
        NinetyLamps ahead = with("w5;r0,0;r3,0;0>1*1;1>4*2;1>2*1;2>3*1");
        ahead.set(1, 3);
        ahead.put(1, 24);
        due("not by more lamps that come later", ahead.why(0), WHOLE * 2 / 3);
        row(ahead, 0, 1);
        NinetyLamps y = with("w5;r0,0;r3,0;0>1*1;1>2*1;2>3*1;1>4*3");
        y.set(1, 3);
        y.put(1, 24);
        due("the most goes ahead of the fewest", y.why(0), WHOLE * 2 / 3);
        row(y, 0, 1, 2);
    }

    static void promise14LeastRowOfEqualOnes() {
        NinetyLamps x = with("0>1*1;0>1*1;1>2*1;1>2*1");
        x.put(1, 4);
        due("why(0)", x.why(0), WHOLE * 3 / 4);
        row(x, 0, 2);
        due("why(1)", x.why(1), WHOLE * 3 / 4);
        row(x, 1, 2);
        due("why(2)", x.why(2), WHOLE * 3 / 4);
        row(x, 0, 2);
        due("why(3)", x.why(3), WHOLE * 3 / 4);
        row(x, 0, 3);
        NinetyLamps later = with("3>1*1;0>1*1;1>2*1");
        later.put(9, 4);
        due("lamp 0 comes from the later wire", later.why(2), WHOLE * 3 / 4);
        row(later, 0, 2);
        NinetyLamps more = with("0>1*1;1>2*2;1>2*1");
        more.put(1, 4);
        due("the most goes ahead of the least row", more.why(0), WHOLE * 3 / 4);
        row(more, 0, 2);
        NinetyLamps y = with("1>2*1;1>2*1;0>1*1;3>1*1");
        y.put(9, 4);
        due("by the first lamp ahead of the second", y.why(1), WHOLE * 3 / 4);
        row(y, 2, 1);
    }

    static void promise15WiresThatAreThere() {
        NinetyLamps x = with("w10;8>9*1");
        x.put(256, 512);
        due("draws(9)", x.draws(9), WHOLE * 4 / 3);
        due("draws(8)", x.draws(8), WHOLE * 4 / 3);
        due("draws(10)", x.draws(10), NONE);
        for (int wire : new int[] {-1, 5, 10, MIN, MAX}) {
            leaves("draws(" + wire + ")", y -> y.draws(wire), NONE);
        }
    }

    static void promise15NothingOfOneThatIsLetGo() {
        NinetyLamps x = with("0>1*1;1>2*1;3>1*1");
        x.put(9, 4);
        due("one between", x.draws(1), 0);
        due("from one", x.draws(0), WHOLE * 3 / 4);
        due("from the other", x.draws(3), WHOLE * 3 / 4);
        due("to", x.draws(2), WHOLE * 3 / 2);
        x.put(8, 4);
        due("let go now", x.draws(0), 0);
        x.put(0, 0);
        due("nothing shown", x.draws(2), 0);
        x.put(4, 9);
        due("high without a path", x.draws(2), 0);
    }

    static void promise15TooFaintDrawsAllTheSame() {
        NinetyLamps x = with("0>1*4");
        x.set(2, 99);
        x.put(1, 2);
        due("draws(0)", x.draws(0), WHOLE / 3);
    }

    static void promise16NoneGlows() {
        leaves("nothing shown", () -> with("0>1*1"), x -> x.brightest(), -2);
        leaves("without lamps", NinetyLamps::new, x -> x.brightest(), -2);
        Maker faint = () -> {
            NinetyLamps x = with("0>1*4");
            x.put(1, 2);
            x.brightest();
            x.set(2, 34);
            return x;
        };
        row(faint.make(), WHOLE / 3, 0, WHOLE / 3);
        leaves("too faint", faint, x -> x.brightest(), -2);
        NinetyLamps x = faint.make();
        x.set(2, 33);
        due("just not too faint", x.brightest(), 0);
    }

    static void promise16FirstOfEqualOnes() {
        NinetyLamps x = with("0>1*3;0>1*2;0>1*2;0>1*3");
        x.put(1, 2);
        due("brightest()", x.brightest(), 1);
        row(x, WHOLE, 0, WHOLE * 2 / 3);
        NinetyLamps y = with("0>1*2;0>1*3;0>1*3;0>1*2");
        y.put(1, 2);
        due("brightest()", y.brightest(), 0);
        row(y, WHOLE, 1, WHOLE * 2 / 3);
        NinetyLamps one = with("1>0*1;0>1*2");
        one.put(1, 2);
        due("one alone is both", one.brightest(), 1);
        row(one, WHOLE, 1, WHOLE);
    }

    static void promise16DimmestGlows() {
        NinetyLamps x = with("0>1*4;0>1*3;0>1*2");
        x.put(1, 2);
        due("brightest()", x.brightest(), 2);
        row(x, WHOLE, 0, WHOLE / 3);
        x.set(2, 34);
        due("lamp 0 is too faint", x.brightest(), 2);
        row(x, WHOLE, 1, WHOLE * 2 / 3);
        NinetyLamps y = with("0>1*2;0>1*3;0>1*4");
        y.set(2, 34);
        y.put(1, 2);
        due("lamp 2 is too faint", y.brightest(), 0);
        row(y, WHOLE, 1, WHOLE * 2 / 3);
    }

    /** What other calls look at in between is not shown. */
    static void promise11To16AsIsShown() {
        Call[] others = {
            x -> x.range(2, 4), x -> x.would(1, 2, 4), x -> x.would(11, 2, 1), x -> x.would(12, 4, 2), x -> x.next(),
            x -> x.parted(0), x -> x.hidden(), x -> x.which(), x -> x.put(4, 4)};
        for (Call other : others) {
            NinetyLamps x = with("w4;r0,0;0>1*1;1>2*1");
            x.picture(0, 3);
            x.put(1, 4);
            other.on(x);
            due("glows()", x.glows(), 3);
            other.on(x);
            due("ghosts()", x.ghosts(), 3);
            other.on(x);
            due("light(1)", x.light(1), WHOLE);
            row(x, 1, WHOLE);
            other.on(x);
            due("why(1)", x.why(1), WHOLE);
            row(x, 0, 1);
            other.on(x);
            due("draws(0)", x.draws(0), WHOLE);
            other.on(x);
            due("draws(2)", x.draws(2), WHOLE);
            other.on(x);
            due("brightest()", x.brightest(), 0);
            row(x, WHOLE, 0, WHOLE);
        }
    }
}
