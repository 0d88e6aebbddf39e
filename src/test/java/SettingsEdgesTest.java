/** Promises 17 to 24, settings that show: the edges that each names, and what a refused call leaves. */
public final class SettingsEdgesTest extends Bench {
    static final int MIN = Integer.MIN_VALUE;
    static final int MAX = Integer.MAX_VALUE;

    public static void main(String[] args) {
        runTests(SettingsEdgesTest.class);
    }

    static NinetyLamps sixty() {
        return addLamps(new NinetyLamps(), 60);
    }

    // ---- shows

    static void promise17NoneShowsIt() {
        NinetyLamps x = with(SIX);
        due("just lamps 0 and 3", x.shows(9), 16);
        row(x, 5, 2, 1);
        leaves("none", () -> with(SIX), y -> y.shows(3), -2);
        leaves("all at once", y -> y.shows(127), -2);
    }

    static void promise17FirstAndHowMany() {
        NinetyLamps x = with("w4;1>2*1");
        due("others in any state", x.shows(1), 15);
        row(x, 2, 4, 9);
        due("nothing", x.shows(0), 0);
        row(x, 0, 0, 72);
        due("no lamps", with("w7").shows(0), 0);
    }

    static void promise17BitsOfNoneSuch() {
        due("60 lamps", sixty().shows((1L << 60) - 1), 45);
        leaves("bit 60 of 60", SettingsEdgesTest::sixty, x -> x.shows(1L << 60), NONE);
        leaves("bit 63 of 60", SettingsEdgesTest::sixty, x -> x.shows(Long.MIN_VALUE), NONE);
        leaves("bit 7 of 7", x -> x.shows(128), NONE);
        leaves("all bits", x -> x.shows(-1), NONE);
        leaves("bit 0 of none", NinetyLamps::new, x -> x.shows(1), NONE);
        due("bit 6 of 7", rich().shows(64) != NONE, true);
    }

    static void promise17NoneSuchGoesAheadOfTooWide() {
        leaves("bit 1 of 1", () -> with("w8;0>1*1"), x -> x.shows(2), NONE);
        leaves("bit 0 of 1", () -> with("w8;0>1*1"), x -> x.shows(1), -3);
        due("WIDE 7", with("w7;0>1*1").shows(1), 729 + 2 * 243);
    }

    // ---- bars

    static void promise18FewestOthers() {
        NinetyLamps x = with(SIX);
        due("none other: NONE", x.bars(17), 0);
        row(x, 17, NONE);
        due("one other", x.bars(1), 1);
        row(x, 16, 3);
        due("of nothing", x.bars(0), 0);
        row(x, 0, NONE);
        NinetyLamps many = sixty();
        due("59 others", many.bars(1L << 59), 59);
        row(many, 45, 0);
        due("59 others", many.bars(1), 59);
        row(many, 45, 1);
    }

    static void promise18InNoneAllGlow() {
        leaves("0>1 and 1>0", () -> with(SIX), x -> x.bars(3), -2);
        leaves("one that can't", () -> with("0>1*5;0>1*1"), x -> x.bars(1), -2);
        leaves("one that can't", () -> with("0>1*5;0>1*1"), x -> x.bars(3), -2);
    }

    static void promise18BitsOfNoneSuch() {
        leaves("bit 60 of 60", SettingsEdgesTest::sixty, x -> x.bars(1L << 60), NONE);
        leaves("bit 7 of 7", x -> x.bars(128), NONE);
        leaves("all bits", x -> x.bars(-1), NONE);
        leaves("bit 0 of none", NinetyLamps::new, x -> x.bars(1), NONE);
        leaves("ahead of -3", () -> with("w8;0>1*1"), x -> x.bars(2), NONE);
        leaves("-3", () -> with("w8;0>1*1"), x -> x.bars(1), -3);
        due("WIDE 7", with("w7;0>1*1").bars(1), 0);
    }

    // ---- most, sets

    static void promise19FirstOfEqualOnes() {
        NinetyLamps x = with("w2;0>1*1;1>0*1");
        due("most()", x.most(), 1);
        row(x, 5);
        NinetyLamps none = with("w2;0>1*5");
        due("nothing can glow", none.most(), 0);
        row(none, 0);
        NinetyLamps all = sixty();
        due("sixty", all.most(), 60);
        row(all, 45);
    }

    static void promise19NotWithGhosts() {
        NinetyLamps x = with("w3;0>1*1;1>2*1;0>1*1;1>2*1");
        due("four as ghosts, two without", x.most(), 2);
        row(x, 5);
        x.set(1, 1);
        due("two", x.most(), 2);
        row(x, 5);
    }

    static void promise20UnlikeSets() {
        NinetyLamps none = with("w7");
        due("nothing is a set too", none.sets(), 1);
        row(none, 1);
        NinetyLamps dark = with("0>1*5");
        due("what never glows", dark.sets(), 1);
        row(dark, 1);
        NinetyLamps one = with("0>1*1");
        due("nothing, and one", one.sets(), 2);
        row(one, 2);
    }

    static void promise20WithoutGhostsInSomeSetting() {
        NinetyLamps ghosts = with("w3;0>1*1;1>2*1");
        due("nothing, two, both as ghosts", ghosts.sets(), 4);
        row(ghosts, 3);
        NinetyLamps both = with("w3;0>1*1;1>2*2;1>2*2;1>2*2");
        both.set(2, 51);
        due("lamp 0 alone, as a ghost and asked for; the others", both.sets(), 3);
        row(both, 3);
        NinetyLamps same = with("w4;0>1*1;2>3*1;1>2*9");
        same.set(1, 3);
        same.set(0, 20);
        due("each set of three; none, one, two ends without ghosts", same.sets(), 8);
        row(same, 5);
    }

    static void promise20OnceMore() {
        NinetyLamps x = with("w3;0>1*1;1>2*1");
        due("sets()", x.sets(), 4);
        due("once more", x.sets(), 4);
        row(x, 3);
        tell(x, "2>0*1");
        x.set(1, 1);
        due("with another lamp", x.sets(), 4);
        row(x, 4);
    }

    static void promise20AllSettingsOfWideSevenShowSets() {
        NinetyLamps x = with("w7;0>1*1;1>2*1;2>3*1;3>4*1;4>5*1;5>6*1;6>0*1");
        x.set(1, 1);
        int sets = x.sets();
        due("all without ghosts", rowOf(x, 0), sets);
        due("no two lamps one behind the other: 29 of a ring of seven", sets, 29);
    }

    // ---- fits

    static void promise21TwoUnlikeLamps() {
        NinetyLamps x = sixty();
        due("fits(0, 59)", x.fits(0, 59), 1);
        due("fits(59, 0)", x.fits(59, 0), 1);
        int[][] calls = {{0, 0}, {6, 6}, {0, 7}, {7, 0}, {-1, 0}, {0, -1}, {7, 7}, {MIN, MAX}, {MAX, MIN}};
        for (int[] call : calls) {
            leaves("fits(" + call[0] + ", " + call[1] + ")", y -> y.fits(call[0], call[1]), NONE);
        }
        leaves("fits(0, 60)", SettingsEdgesTest::sixty, y -> y.fits(0, 60), NONE);
        leaves("ahead of -3", () -> with("w8;0>1*1;1>0*1"), y -> y.fits(0, 2), NONE);
        leaves("ahead of -3", () -> with("w8;0>1*1;1>0*1"), y -> y.fits(1, 1), NONE);
    }

    static void promise21NotAsGhosts() {
        NinetyLamps x = with("w3;0>1*1;1>2*1;0>2*1");
        due("one behind the other", x.fits(0, 1), 0);
        due("from one wire", x.fits(0, 2), 1);
        NinetyLamps y = with("w3;0>1*5;0>1*1");
        due("one never glows", y.fits(0, 1), 0);
        due("one never glows", y.fits(1, 0), 0);
        NinetyLamps second = with("w3;0>1*1;0>1*5");
        due("the second never glows", second.fits(1, 0), 0);
        due("the second never glows", second.fits(0, 1), 0);
        y.set(0, 6);
        due("now it does", y.fits(0, 1), 1);
    }

    // ---- alone, twins

    static void promise22ShownAlone() {
        NinetyLamps x = with("w3;0>1*1;0>1*1;1>2*1");
        due("of two alike none", x.alone(), 4);
        due("without lamps", new NinetyLamps().alone(), 0);
        NinetyLamps ghost = with("w3;0>1*1;1>2*1;0>1*1;r0,4;r2,4");
        ghost.set(2, 31);
        due("lamp 1 alone, as a ghost too", ghost.alone(), 2);
        NinetyLamps last = with("1>0*1");
        addLamps(last, 59);
        due("the first, not the 59 alike", last.alone(), 1);
    }

    static void promise23InSomeSettings() {
        NinetyLamps x = with("w2;0>1*1;0>1*4;0>1*5;0>1*5");
        due("lamps 0 and 1; not 2 and 3, which never glow", x.twins(), 1);
        row(x, 0, 1);
        x.set(0, 6);
        due("now they do", x.twins(), 6);
        row(x, 0, 1);
        x.set(0, 1);
        due("none glows", x.twins(), 0);
        row(x);
    }

    static void promise23NoneTellsAnEmptyRow() {
        NinetyLamps none = new NinetyLamps();
        none.faults();
        due("without lamps", none.twins(), 0);
        row(none);
        NinetyLamps one = with("0>1*1");
        one.faults();
        due("one lamp", one.twins(), 0);
        row(one);
    }

    static void promise23FirstPair() {
        NinetyLamps x = with("w4;0>1*1;1>2*1;2>3*1;1>2*2;0>1*2");
        x.set(1, 1);
        due("two pairs", x.twins(), 2);
        row(x, 0, 4);
        NinetyLamps wide = with("w7;5>6*1;5>6*2");
        due("WIDE 7", wide.twins(), 1);
        row(wide, 0, 1);
        NinetyLamps sixty = sixty();
        due("all pairs of sixty", sixty.twins(), 1770);
        row(sixty, 0, 1);
        NinetyLamps last = with("1>0*1");
        tell(last, "1>2*1;2>0*9");
        addLamps(last, 2);
        due("the last two", last.twins(), 1);
        row(last, 3, 4);
    }

    // ---- range

    static void promise24SuppliesOneToTwenty() {
        NinetyLamps x = with("0>1*1;0>1*9;0>1*9");
        x.sheet(2, 3, 1, 8);
        due("one alone", x.range(1, 2), 0b1111111100);
        x.set(0, 10);
        due("all", x.range(1, 2), 0b111111111110000000000);
        x.set(0, 1);
        due("none", x.range(1, 2), 0b10);
        due("nothing shown, by all", x.range(0, 0), 0b111111111111111111110);
        due("SUPPLY stays", x.count(2), 1);
        due("without lamps", new NinetyLamps().range(1, 2), 0b111111111111111111110);
    }

    static void promise24TwentyIsTheLast() {
        NinetyLamps x = with("0>1*9;1>2*9;2>3*1");
        x.set(1, 3);
        x.set(0, 20);
        due("20 alone", x.range(1, 8), 1 << 20);
        x.set(0, 19);
        due("1 .. 19", x.range(1, 8), (1 << 20) - 2);
    }

    static void promise24OthersAreRefused() {
        int[][] calls = {{1, 1}, {32, 0}, {0, 32}, {-1, 0}, {0, MIN}, {MAX, 0}, {16, 16}};
        for (int[] call : calls) {
            leaves("range(" + call[0] + ", " + call[1] + ")", x -> x.range(call[0], call[1]), NONE);
        }
        leaves("range(1, 30)", x -> x.range(1, 30), rich().range(1, 30));
        due("WIDE 10", with("w10;8>9*1").range(256, 512), 0b111111111111111111100);
    }
}
