/** Promises 25 to 31, pictures: the edges that each names, and what a refused call leaves. */
public final class PicturesEdgesTest extends Bench {
    static final int MIN = Integer.MIN_VALUE;
    static final int MAX = Integer.MAX_VALUE;

    public static void main(String[] args) {
        runTests(PicturesEdgesTest.class);
    }

    interface OfPicture {
        long on(NinetyLamps x, int i);
    }

    /** No picture but 0 .. 3, whatever else might be refused. */
    static void needsAPicture(String what, OfPicture call) {
        for (int i : new int[] {-1, 4, MIN, MAX}) {
            leaves(what + "(" + i + ")", x -> call.on(x, i), NONE);
            leaves(what + "(" + i + "), WIDE 8", () -> with("w8;0>1*1;1>0*1"), x -> call.on(x, i), NONE);
        }
        due(what + "(0)", call.on(rich(), 0) != NONE, true);
        due(what + "(3)", call.on(rich(), 3) != NONE, true);
    }

    /** All lamps of a board 0>1 alike, of them so many in picture 2; WIDE as told. */
    static NinetyLamps alike(int wide, int lamps, int inPicture) {
        NinetyLamps x = addLamps(with("w" + wide), lamps);
        x.picture(2, (1L << inPicture) - 1);
        x.faults();
        return x;
    }

    /** Twelve lamps of a picture, no more; one more is -4, but too many wires are -3. */
    static void needsTwelveLamps(String what, OfPicture call, long ofTwelve) {
        due(what + " of 12", call.on(alike(7, 12, 12), 2), ofTwelve);
        due(what + " of 12 and others on the board", call.on(alike(4, 60, 12), 2) != -4, true);
        leaves(what + " of 13", () -> alike(7, 13, 13), x -> call.on(x, 2), -4);
        leaves(what + " of 60", () -> alike(2, 60, 60), x -> call.on(x, 2), -4);
        leaves(what + " of 13, WIDE 8", () -> alike(8, 13, 13), x -> call.on(x, 2), -3);
        leaves(what + " of 12, WIDE 8", () -> alike(8, 12, 12), x -> call.on(x, 2), -3);
    }

    /** Lamp 1 can't glow, lamp 0 only with lamp 2 that is not of the picture. */
    static NinetyLamps stuck() {
        NinetyLamps x = with("w3;0>1*1;1>2*9;0>1*1");
        x.picture(0, 1);
        x.picture(1, 2);
        x.picture(2, 5);
        x.faults();
        return x;
    }

    /** Seven wires with lamps both ways between all; a picture of so many in a ring, each a turn of its own. */
    static NinetyLamps ring(int many) {
        NinetyLamps x = with("w7;0>1*1;1>2*1;2>3*1;3>4*1;4>5*1;5>6*1;6>0*1");
        x.set(1, 1);
        for (int a = 0; a < 7; a++) {
            StringBuilder text = new StringBuilder("r0,1");
            for (int b = 0; b < 7; b++) {
                if (a != b && (a + 1) % 7 != b) {
                    text.append(';').append(a).append('>').append(b).append("*1");
                }
            }
            tell(x, text.toString());
        }
        x.picture(0, (1 << many) - 1);
        return x;
    }

    /**
     * All lamps between six wires, so faint that one path through a wire between does not show, and
     * two do. Each of twelve lamps is then a turn of its own.
     */
    static NinetyLamps twelve(int many) {
        NinetyLamps x = with("w6");
        for (int a = 0; a < 6; a++) {
            StringBuilder text = new StringBuilder("r0,1");
            for (int step = 1; step < 6; step++) {
                text.append(';').append(a).append('>').append((a + step) % 6).append("*1");
            }
            tell(x, text.toString());
        }
        x.set(2, 76);
        long lamps = 0;
        for (int n = 0; n < many; n++) {
            lamps |= 1L << n % 6 * 5 + n / 6;
        }
        x.picture(0, lamps);
        return x;
    }

    // ---- picture

    static void promise25FourPictures() {
        for (int i = 0; i < 4; i++) {
            due("picture(" + i + ", 127)", rich().picture(i, 127), 7);
        }
        for (int i : new int[] {-1, 4, MIN, MAX}) {
            leaves("picture(" + i + ", 1)", x -> x.picture(i, 1), NONE);
        }
    }

    static void promise25LampsThatAreThere() {
        NinetyLamps x = addLamps(with("w3"), 60);
        due("all sixty", x.picture(0, (1L << 60) - 1), 60);
        due("the last alone", x.picture(0, 1L << 59), 1);
        due("none", x.picture(0, 0), 0);
        leaves("bit 60 of 60", () -> addLamps(with("w3"), 60), y -> y.picture(0, 1L << 60), NONE);
        leaves("bit 7 of 7", y -> y.picture(1, 128 | 1), NONE);
        leaves("bit 63", y -> y.picture(1, Long.MIN_VALUE), NONE);
        leaves("all bits", y -> y.picture(1, -1), NONE);
        due("an empty one without lamps", new NinetyLamps().picture(3, 0), 0);
        leaves("bit 0 of none", NinetyLamps::new, y -> y.picture(3, 1), NONE);
    }

    static void promise25BecomesThisSetAlone() {
        NinetyLamps x = with("0>1*9;0>1*9;0>1*9");
        x.picture(1, 3);
        x.picture(1, 6);
        due("not what it was", x.never(1), 6);
        due("nor another one", x.never(0), 0);
        due("nor another one", x.never(2), 0);
    }

    // ---- parted

    static void promise26PicturesThatAreThere() {
        needsAPicture("parted", NinetyLamps::parted);
    }

    static void promise26TwelveLampsAtMost() {
        needsTwelveLamps("parted", NinetyLamps::parted, 1);
    }

    static void promise26CannotBe() {
        due("lamps 0 and 2", stuck().parted(2), 1);
        leaves("with one outside", PicturesEdgesTest::stuck, x -> x.parted(0), -2);
        leaves("without light", PicturesEdgesTest::stuck, x -> x.parted(1), -2);
    }

    static void promise26EmptyPicture() {
        NinetyLamps x = rich();
        x.picture(1, 0);
        due("parted(1)", x.parted(1), 0);
        row(x);
        due("without lamps", new NinetyLamps().parted(0), 0);
    }

    static void promise26LeastRowOfRisingNumbers() {
        NinetyLamps x = with("w4;3>0*1;1>3*1;2>3*1");
        x.set(1, 1);
        x.picture(0, 7);
        due("two turns", x.parted(0), 2);
        row(x, 14, 55);
        NinetyLamps y = with(SIX);
        y.set(1, 1);
        y.picture(0, 63);
        due("three turns of many", y.parted(0), 3);
        row(y, 14, 16, 22);
        NinetyLamps free = with("w7;5>6*1;6>5*1");
        free.picture(0, 3);
        due("all others let go", free.parted(0), 2);
        row(free, 5, 7);
    }

    static void promise26MoreThanSixTurns() {
        for (int many = 1; many <= 7; many++) {
            NinetyLamps x = ring(many);
            due("one each of " + many, x.parted(0), many);
            due("numbers told", x.count(7), many);
        }
    }

    static void promise26TwelveTurns() {
        for (int many = 7; many <= 12; many++) {
            NinetyLamps x = twelve(many);
            due("one each of " + many, x.parted(0), many);
            due("numbers told", x.count(7), many);
            for (int n = 1; n < many; n++) {
                due("rising", rowOf(x, n - 1) < rowOf(x, n), true);
            }
        }
    }

    static void promise26PicturesOneAfterAnother() {
        NinetyLamps x = with("w3;0>1*1;0>1*1;0>1*1;1>2*1;2>0*1");
        x.picture(0, 7);
        x.picture(1, 24);
        due("three in one turn", x.parted(0), 1);
        due("two in two", x.parted(1), 2);
        row(x, 5, 19);
        due("three in one turn", x.parted(0), 1);
        row(x, 15);
        NinetyLamps y = with("w2;0>1*1;1>0*1;0>1*9");
        y.picture(0, 3);
        y.picture(1, 5);
        due("two turns", y.parted(0), 2);
        due("one of two lamps never glows", y.parted(1), -2);
    }

    // ---- proof

    static void promise27PicturesThatAreThere() {
        needsAPicture("proof", NinetyLamps::proof);
    }

    static void promise27TwelveLampsAtMost() {
        needsTwelveLamps("proof", NinetyLamps::proof, 1);
    }

    static void promise27EmptyPicture() {
        NinetyLamps x = new NinetyLamps();
        due("proof(0)", x.proof(0), 0);
        row(x, 0);
    }

    static void promise27LeastAsANumber() {
        NinetyLamps x = alike(7, 12, 12);
        due("all in one turn", x.proof(2), 1);
        row(x, 1);
        NinetyLamps y = with("w3;0>1*1;1>0*1;0>1*1;1>0*1");
        y.picture(0, 15);
        due("one of each way", y.proof(0), 2);
        row(y, 3);
        NinetyLamps apart = with("w2;0>1*9;0>1*9;0>1*1;0>1*9");
        apart.picture(0, 14);
        due("those that never glow together", apart.proof(0), 3);
        row(apart, 14);
    }

    static void promise27PicturesOneAfterAnother() {
        NinetyLamps x = with("w2;0>1*1;0>1*1;1>0*1");
        x.picture(0, 3);
        x.picture(1, 7);
        x.picture(2, 5);
        due("two in one turn", x.proof(0), 1);
        row(x, 1);
        due("the third apart from both", x.proof(1), 2);
        row(x, 5);
        x.set(0, 1);
        due("all apart in the dark", x.proof(0), 2);
        row(x, 3);
    }

    static void promise27AsManyAsTurns() {
        for (int many = 1; many <= 7; many++) {
            NinetyLamps x = ring(many);
            due("proof of " + many, x.proof(0), many);
            row(x, (1 << many) - 1);
        }
    }

    static void promise27TwelveLampsApart() {
        NinetyLamps x = addLamps(with("w4"), 12);
        x.set(0, 1);
        x.picture(0, 4095);
        due("none glows, so all", x.proof(0), 12);
        row(x, 4095);
    }

    // ---- never

    static void promise28PicturesThatAreThere() {
        needsAPicture("never", NinetyLamps::never);
    }

    static void promise28MoreThanTwelveLamps() {
        NinetyLamps x = addLamps(with("w4"), 60);
        x.picture(0, (1L << 60) - 1);
        due("all glow", x.never(0), 0);
        x.picture(0, (1L << 59) - 1);
        due("with one outside", x.never(0), (1L << 59) - 1);
        due("13 lamps", alike(4, 13, 13).never(2), 0);
    }

    static void promise28InNoneOfItsTurns() {
        NinetyLamps x = stuck();
        due("with one outside", x.never(0), 1);
        due("without light", x.never(1), 2);
        due("both glow", x.never(2), 0);
        due("empty", x.never(3), 0);
        NinetyLamps ghost = with("w3;0>1*4;1>2*4");
        ghost.set(0, 9);
        ghost.picture(0, 3);
        due("each asked for", ghost.never(0), 0);
    }

    static void promise28TellsNoRow() {
        leaves("never(0)", PicturesEdgesTest::stuck, x -> x.never(0), 1);
        leaves("-3", () -> alike(8, 1, 1), x -> x.never(2), -3);
    }

    // ---- changes

    static void promise29PicturesThatAreThere() {
        needsAPicture("changes", NinetyLamps::changes);
    }

    static void promise29TwelveLampsAtMost() {
        needsTwelveLamps("changes", NinetyLamps::changes, 2);
    }

    static void promise29CannotBe() {
        due("lamps 0 and 2", stuck().changes(2), 2);
        leaves("with one outside", PicturesEdgesTest::stuck, x -> x.changes(0), -2);
        leaves("without light", PicturesEdgesTest::stuck, x -> x.changes(1), -2);
    }

    static void promise29SixTurnsAtMost() {
        NinetyLamps x = ring(6);
        due("six", x.changes(0), 2 + 5 * 3);
        due("numbers told", x.count(7), 6);
        leaves("seven", () -> ring(7), y -> y.changes(0), -5);
        leaves("twelve", () -> twelve(12), y -> y.changes(0), -5);
    }

    static void promise29EmptyPicture() {
        NinetyLamps x = rich();
        x.picture(1, 0);
        due("changes(1)", x.changes(1), 0);
        row(x);
    }

    static void promise29FromAllLetGoAtFirst() {
        NinetyLamps x = with("w4;3>0*1;1>3*1;2>3*1");
        x.set(1, 1);
        x.picture(0, 7);
        due("the one with two wires first", x.changes(0), 2 + 4);
        row(x, 55, 14);
        NinetyLamps one = with("w7;0>1*1");
        one.picture(0, 1);
        due("one turn", one.changes(0), 2);
        row(one, 729 + 2 * 243);
    }

    static void promise29LeastRowOfEqualOnes() {
        NinetyLamps x = with("w2;0>1*1;1>0*1");
        x.picture(0, 3);
        due("either way", x.changes(0), 4);
        row(x, 5, 7);
        NinetyLamps y = with(SIX);
        y.set(1, 1);
        y.picture(0, 63);
        due("of six orders", y.changes(0), 3 + 2 + 2);
        row(y, 14, 16, 22);
    }

    // ---- even

    static void promise30PicturesThatAreThere() {
        needsAPicture("even", (x, i) -> x.even(i, 9));
    }

    static void promise30TwelveLampsAtMost() {
        needsTwelveLamps("even", (x, i) -> x.even(i, 3), WHOLE * 4);
    }

    static void promise30CannotBe() {
        due("lamps 0 and 2", stuck().even(2, 1), WHOLE * 4 / 3);
        leaves("with one outside", PicturesEdgesTest::stuck, x -> x.even(0, 9), -2);
        leaves("without light", PicturesEdgesTest::stuck, x -> x.even(1, 200), -2);
    }

    static void promise30OneToTwoHundredSlots() {
        NinetyLamps x = alike(4, 1, 1);
        due("1 slot", x.even(2, 1), WHOLE * 4 / 3);
        row(x, 1);
        due("200 slots", x.even(2, 200), WHOLE * 800 / 3);
        row(x, 200);
        for (int n : new int[] {0, 201, -1, MIN, MAX}) {
            leaves("even(2, " + n + ")", () -> alike(4, 1, 1), y -> y.even(2, n), NONE);
            leaves("even(2, " + n + "), WIDE 8", () -> alike(8, 1, 1), y -> y.even(2, n), NONE);
            leaves("even(2, " + n + ") of 13", () -> alike(4, 13, 13), y -> y.even(2, n), NONE);
            leaves("even(0, " + n + ") that can't be", PicturesEdgesTest::stuck, y -> y.even(0, n), NONE);
        }
    }

    static void promise30AsManySlotsAsTurns() {
        for (int many = 2; many <= 7; many++) {
            int turns = many;
            NinetyLamps x = ring(many);
            due(many + " slots", x.even(0, many), WHOLE * 4 / 3);
            due("numbers told", x.count(7), many);
            due("one each", rowOf(x, many - 1), 1);
            leaves("one less", () -> ring(turns), y -> y.even(0, turns - 1), -2);
        }
    }

    static void promise30EmptyPicture() {
        for (int n : new int[] {1, 200}) {
            NinetyLamps x = rich();
            x.picture(1, 0);
            due("even(1, " + n + ")", x.even(1, n), 0);
            row(x);
        }
        leaves("even(1, 0)", () -> alike(4, 1, 1), x -> x.even(1, 0), NONE);
        leaves("even(1, 201)", () -> alike(4, 1, 1), x -> x.even(1, 201), NONE);
    }

    static void promise30FirstOfEqualLampsAndTurns() {
        NinetyLamps x = with("w2;1>0*1;0>1*1");
        x.picture(0, 3);
        due("lamp 0 glows in the second turn", x.even(0, 3), WHOLE * 4 / 3);
        row(x, 1, 2);
        due("then lamp 1", x.even(0, 4), WHOLE * 8 / 3);
        row(x, 2, 2);
        NinetyLamps both = with("w4;0>1*3;0>2*1;3>1*1;1>2*1;3>0*1;3>2*1");
        both.picture(0, 7);
        due("of three alike lamp 0, of its turns the first", both.even(0, 3), WHOLE * 4 / 3);
        row(both, 2, 1);
    }

    static void promise30TurnInWhichTheDimmestHasMost() {
        NinetyLamps x = with("w2;0>1*1;1>0*3");
        x.picture(0, 3);
        due("lamp 1 glows in the second turn", x.even(0, 3), WHOLE * 4 / 3);
        row(x, 1, 2);
        due("four slots", x.even(0, 4), WHOLE * 4 / 3);
        row(x, 2, 2);
        due("five slots", x.even(0, 5), WHOLE * 2);
        row(x, 2, 3);
        due("200 slots", x.even(0, 200), WHOLE * 88 + WHOLE * 2 / 3);
        row(x, 67, 133);
    }

    static void promise30TwelveTurns() {
        NinetyLamps x = twelve(12);
        due("a slot each; each lamp is on a path of two others' turns", x.even(0, 12), WHOLE * 17 / 6);
        row(x, 1, 1, 1, 1, 1, 1, 1, 1, 1, 1, 1, 1);
        leaves("one less", () -> twelve(12), y -> y.even(0, 11), -2);
        x.picture(0, 1);
        due("then of one turn alone", x.even(0, 2), WHOLE * 8 / 3);
        row(x, 2);
        NinetyLamps y = with("w2;1>0*1;0>1*1");
        y.set(0, 20);
        y.picture(0, 3);
        y.picture(1, 1);
        due("two turns", y.even(0, 2), WHOLE * 19 / 3);
        y.set(0, 5);
        due("then one, with less light", y.even(1, 2), WHOLE * 8 / 3);
        row(y, 2);
    }

    static void promise30LightInAllTurns() {
        NinetyLamps x = with("w4;0>1*3;0>2*1;3>1*1;1>2*1;3>0*1;3>2*1");
        x.picture(0, 7);
        due("parted(0)", x.parted(0), 2);
        due("lamp 0 glows in both", x.even(0, 2), WHOLE * 4 / 3);
        row(x, 1, 1);
    }

    // ---- better

    /** Four wires, so many lamps; all of them in picture 0, with something in every other place as well. */
    static NinetyLamps four(int lamps) {
        NinetyLamps x = new NinetyLamps();
        String[] places = {"0>1", "1>0", "1>2", "2>1", "0>2", "2>0", "3>0", "0>3", "3>1", "1>3", "2>3", "3>2", "0>1"};
        for (int k = 0; k < lamps; k++) {
            tell(x, places[k] + "*" + (1 + k % 3));
        }
        x.set(1, 1);
        x.put(1, 2);
        x.seen(1, 2, 1);
        x.test(1, 2);
        x.keep(0);
        x.picture(0, 3);
        return x;
    }

    static void promise31PicturesThatAreThere() {
        for (int i : new int[] {-1, 4, MIN, MAX}) {
            leaves("better(" + i + ")", () -> four(6), x -> x.better(i), NONE);
            leaves("better(" + i + "), WIDE 5", Bench::rich, x -> x.better(i), NONE);
            leaves("better(" + i + "), 13 lamps", () -> four(13), x -> x.better(i), NONE);
        }
        due("better(3)", four(6).better(3), 0);
    }

    static void promise31TwoLampsAtLeast() {
        leaves("none", NinetyLamps::new, x -> x.better(0), NONE);
        leaves("one", () -> with("w4;0>1*1"), x -> x.better(0), NONE);
        leaves("one, WIDE 5", () -> with("w5;0>1*1"), x -> x.better(0), NONE);
        leaves("none, WIDE 10", () -> with("w10"), x -> x.better(0), NONE);
        NinetyLamps two = with("w4;0>1*1;1>0*1");
        due("two", two.better(0), 0);
        row(two, 0, 1, 0);
    }

    static void promise31WideFourAtMost() {
        due("WIDE 4", with("w4;0>1*1;1>0*1").better(0), 0);
        leaves("WIDE 5", () -> with("w5;0>1*1;1>0*1"), x -> x.better(0), -3);
        leaves("WIDE 7", () -> with("w7;0>1*1;1>0*1"), x -> x.better(0), -3);
        leaves("WIDE 10", () -> with("w10;0>1*1;1>0*1"), x -> x.better(0), -3);
    }

    static void promise31TwelveLampsOnTheBoardAtMost() {
        due("12", four(12).better(3), 0);
        leaves("13", () -> four(13), x -> x.better(3), -3);
        leaves("60", () -> addLamps(new NinetyLamps(), 60), x -> x.better(0), -3);
    }

    static void promise31NothingChanges() {
        for (int lamps : new int[] {6, 12}) {
            Maker asked = () -> {
                NinetyLamps x = four(lamps);
                x.better(0);
                return x;
            };
            int answer = four(lamps).better(0);
            due("it can be", answer > 0, true);
            leaves("better(0)", asked, x -> x.better(0), answer);
            NinetyLamps x = four(lamps);
            int before = x.parted(0);
            long alone = x.alone();
            int last = x.shows(1L << lamps - 1);
            x.better(0);
            due("alone()", x.alone(), alone);
            due("the last lamp", x.shows(1L << lamps - 1), last);
            due("parted(0)", x.parted(0), before);
        }
    }

    static void promise31LampsThatAreThere() {
        NinetyLamps x = with("w2;0>1*1;0>1*1");
        x.picture(0, 1);
        due("none but these two to change with", x.better(0), -2);
    }

    static void promise31WithNoneItCanBe() {
        leaves("lamp 0 has 9 volts", () -> {
            NinetyLamps x = with("w2;0>1*9;0>1*1");
            x.picture(0, 1);
            x.faults();
            return x;
        }, x -> x.better(0), -2);
    }

    static void promise31PartedAsItIs() {
        NinetyLamps x = with("w3;0>1*1;0>1*1;1>2*1");
        x.picture(0, 1);
        due("as it is it can't be", x.parted(0), -2);
        due("alone on 1>2", x.better(0), 1);
        row(x, 0, 2, -2);
        x.picture(0, 3);
        due("lamp 0 or 1 to 1>2 needs one turn more", x.better(0), 1);
        row(x, 0, 1, 1);
    }

    static void promise31TwoLampsThatMustChange() {
        NinetyLamps x = with("w4;r0,0;r1,0;r2,4;r3,4;0>1*2;2>3*2");
        x.set(2, 50);
        x.picture(0, 1);
        x.picture(1, 2);
        due("lamp 0 is bright enough", x.parted(0), 1);
        due("but not in the other place", x.better(0), -2);
        due("lamp 1 is too faint", x.parted(1), -2);
        due("but not in the other place", x.better(1), 1);
        row(x, 0, 1, -2);
    }

    static void promise31FirstOfEqualOnes() {
        NinetyLamps x = with(SIX);
        x.set(0, 4);
        x.picture(0, 3);
        due("better(0)", x.better(0), 1);
        row(x, 0, 2, 2);
        x.picture(0, 0);
        due("empty: all alike", x.better(0), 0);
        row(x, 0, 1, 0);
    }
}
