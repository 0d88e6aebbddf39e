/** Promises 1 to 9, the board: the edges that each names, and what a refused call leaves. */
public final class BoardEdgesTest extends Bench {
    public static void main(String[] args) {
        runTests(BoardEdgesTest.class);
    }

    /** A text of so many signs whose first 76 are lines that can end. */
    static NinetyLamps signs(int many) {
        NinetyLamps x = new NinetyLamps();
        write(x, "w2;".repeat(26).substring(0, many));
        return x;
    }

    /** Lines of so many signs, 7 at least, of which the last has a sign ; behind it. */
    static String filled(int signs) {
        StringBuilder text = new StringBuilder("w04;".repeat(signs % 3));
        while (text.length() + 3 <= signs) {
            text.append("w4;");
        }
        return text.toString();
    }

    static void promise01FourWiresNoLamps() {
        NinetyLamps x = new NinetyLamps();
        int[] first = {4, 0, 5, 0, 0, 0, 0, 0, 0};
        for (int what = 0; what < first.length; what++) {
            due("count(" + what + ")", x.count(what), first[what]);
        }
        due("lamp(0, 0)", lampOf(x, 0, 0), THROWN);
        due("ohms(4)", x.ohms(4), NONE);
        due("nothing kept", x.again(0), false);
        due("nothing kept", x.again(1), false);
    }

    static void promise01ObjectsHaveNothingInCommon() {
        NinetyLamps x = rich();
        due("a new one's LAMPS", new NinetyLamps().count(1), 0);
        due("a new one's OHMS", new NinetyLamps().ohms(0), 1);
        due("the other's LAMPS", x.count(1), 7);
    }

    // ---- sign

    static void promise02EightySignsAtMost() {
        NinetyLamps x = new NinetyLamps();
        for (int many = 4; many <= 80; many += 4) {
            due("sign", x.sign(-1), many);
        }
        due("the 84th", x.sign(-1), NONE);
        due("count(8)", x.count(8), 80);
    }

    static void promise02MoreThanEightyIsRefused() {
        for (int many = 73; many <= 76; many++) {
            due("behind " + many, signs(many).sign(0), many + 4);
        }
        for (int many = 77; many <= 78; many++) {
            int there = many;
            leaves("behind " + many, () -> signs(there), x -> x.sign(0x3B77323B), NONE);
        }
        leaves("behind 80", () -> {
            NinetyLamps x = signs(76);
            x.sign(0x3B77323B);
            return x;
        }, x -> x.sign(0), NONE);
    }

    static void promise02HighestByteFirst() {
        NinetyLamps x = new NinetyLamps();
        x.sign('w' << 24 | '7' << 16 | ';' << 8 | 'x');
        due("the last sign can't stand", x.board(), -4);
        x.sign('w' << 24 | '7' << 16 | 'x' << 8);
        x.end(2);
        due("w7", x.board(), 1);
        due("WIDE", x.count(0), 7);
    }

    static void promise02BytesAreWithoutSign() {
        NinetyLamps x = new NinetyLamps();
        due("sign", x.sign(0x77338080), 4);
        due("128 can't stand", x.board(), -3);
        x.sign(0xF7333B30);
        due("w and 128 is no w", x.board(), -1);
        x.sign(0);
        due("sign 0 can't stand", x.board(), -1);
    }

    // ---- end

    static void promise03AsManyAsThereAre() {
        due("end(9)", signs(9).end(9), true);
        due("end(8)", signs(9).end(8), true);
        due("end(0)", signs(9).end(0), true);
        due("an empty one, end(0)", new NinetyLamps().end(0), true);
        leaves("end(10)", () -> signs(9), x -> bit(x.end(10)), 0);
        leaves("end(max)", () -> signs(9), x -> bit(x.end(Integer.MAX_VALUE)), 0);
        leaves("an empty one, end(1)", NinetyLamps::new, x -> bit(x.end(1)), 0);
        leaves("end(6) of 5", x -> bit(x.end(6)), 0);
    }

    static void promise03NotBelowZero() {
        leaves("end(-1)", () -> signs(9), x -> bit(x.end(-1)), 0);
        leaves("end(min)", () -> signs(9), x -> bit(x.end(Integer.MIN_VALUE)), 0);
        leaves("an empty one, end(-1)", NinetyLamps::new, x -> bit(x.end(-1)), 0);
    }

    static void promise03SignsBehindAreGone() {
        String[] lines = {"w10", "r0,04", "0>1*09"};
        int[][] answers = {{0, -2, -2}, {0, -2, -3, -4, 1}, {0, -2, -3, -4, -5, -5}};
        for (int k = 0; k < lines.length; k++) {
            for (int many = 0; many < lines[k].length(); many++) {
                NinetyLamps x = new NinetyLamps();
                write(x, lines[k]);
                x.end(many);
                due("the first " + many + " of " + lines[k], x.board(), answers[k][many]);
            }
        }
    }

    static void promise03FirstSignsAlone() {
        NinetyLamps x = new NinetyLamps();
        write(x, "w7;w3");
        due("end(2)", x.end(2), true);
        due("count(8)", x.count(8), 2);
        due("board()", x.board(), 1);
        due("WIDE", x.count(0), 7);
    }

    // ---- board

    static void promise04EmptyTextTellsNothing() {
        leaves("board()", () -> {
            NinetyLamps x = rich();
            x.end(0);
            return x;
        }, NinetyLamps::board, 0);
    }

    static void promise04TextIsEmptyBehindIt() {
        NinetyLamps x = new NinetyLamps();
        due("r0,2", tell(x, "r0,2"), 1);
        due("count(8)", x.count(8), 0);
        due("board()", x.board(), 0);
    }

    static void promise04HowManyLines() {
        due("one", answerTo("w2"), 1);
        due("25, as many as can be", answerTo("w2;".repeat(25).substring(0, 74)), 25);
        due("25 of 76 signs", answerTo("w02;w02;" + "w2;".repeat(22) + "w2"), 25);
    }

    static void promise04EndsTooEarly() {
        String[] lines = {"w3", "r0,1", "0>1*1"};
        for (String line : lines) {
            for (int many = 1; many < line.length(); many++) {
                refusesText(line.substring(0, many), Bench::rich, -1 - many);
                refusesText("r1,2;" + line.substring(0, many), Bench::rich, -1 - many - 5);
            }
            due(line, answerTo(line), 1);
            refusesText(line + ";", Bench::rich, -1 - line.length() - 1);
        }
    }

    static void promise04EndsTooEarlyAtSeventySix() {
        refusesText(filled(75) + "w", Bench::rich, -77);
        refusesText(filled(74) + "0>", Bench::rich, -77);
        refusesText(filled(73) + "r0,", Bench::rich, -77);
        refusesText("w04;" + filled(72), Bench::rich, -77);
    }

    static void promise04MoreThanSeventySix() {
        due("76 signs that end", answerTo(filled(74) + "w4"), 25);
        refusesText(filled(74) + "w4;", Bench::rich, -77);
        refusesText(filled(74) + "w4x", Bench::rich, -77);
        refusesText(filled(74) + "w4;w4", Bench::rich, -77);
        refusesText(filled(75) + "w4", Bench::rich, -77);
        refusesText(filled(72) + "0>1*1", Bench::rich, -77);
        refusesText(filled(71) + "0>1*1;w4", Bench::rich, -77);
        refusesText(filled(74) + "r0,1", Bench::rich, -77);
        refusesText(filled(75) + "r0,1", Bench::rich, -77);
        refusesText(filled(73) + "0>1*1", Bench::rich, -77);
        refusesText(filled(74) + "0>1*1", Bench::rich, -77);
        refusesText(filled(75) + "0>1*1", Bench::rich, -77);
        refusesText(filled(76) + "x", Bench::rich, -77);
    }

    static void promise04WrongSignsAheadOfSeventySixComeFirst() {
        refusesText("x" + filled(76), Bench::rich, -1);
        refusesText(filled(72) + "x" + filled(7), Bench::rich, -73);
        refusesText(filled(75) + "xw4", Bench::rich, -76);
        refusesText(filled(74) + "0:1*1", Bench::rich, -76);
        refusesText(filled(74) + "5>1*1", Bench::rich, -75);
        refusesText(filled(73) + "0>0*1", Bench::rich, -76);
    }

    static void promise04NumbersAsFarAsTheyStandInSeventySix() {
        refusesText(filled(74) + "w10", Bench::rich, -76);
        refusesText(filled(73) + "w10;", Bench::rich, -77);
        refusesText(filled(73) + "w11;", Bench::rich, -76);
        refusesText(filled(74) + "w04", Bench::rich, -76);
        refusesText(filled(74) + "w40", Bench::rich, -77);
        refusesText(filled(71) + "0>1*01", Bench::rich, -76);
        refusesText(filled(71) + "0>1*10", Bench::rich, -77);
        refusesText(filled(70) + "0>1*10;", Bench::rich, -76);
        refusesText(filled(72) + "r0,40", Bench::rich, -77);
        refusesText(filled(71) + "r0,40;", Bench::rich, -76);
        refusesText(filled(72) + "r0,50", Bench::rich, -76);
    }

    static void promise04FirstSignThatCannotStand() {
        String[] texts = {
            "w;x", "r;x", "r0;x", "r0,;x", "0;x", "0>;x", "0>1;x", "0>1*;x", ">1*x", ">x", "0>*x", "r,x", "r0,,x", "5>1*x",
            "0>5*x", "r5,x", "w1;x", "0>1*0;x", "r0,5;x"};
        int[] places = {1, 1, 2, 3, 1, 2, 3, 4, 0, 0, 2, 1, 3, 0, 2, 1, 1, 4, 3};
        for (int k = 0; k < texts.length; k++) {
            refusesText(texts[k], Bench::rich, -1 - places[k]);
        }
    }

    static void promise04WireThatIsNotThere() {
        NinetyLamps x = with("w5");
        due("4>0*1", tell(x, "4>0*1"), 1);
        due("0>4*1", tell(x, "0>4*1"), 1);
        due("r4,1", tell(x, "r4,1"), 1);
        refusesText("5>0*1", Bench::rich, -1);
        refusesText("0>5*1", Bench::rich, -3);
        refusesText("r5,1", Bench::rich, -2);
        refusesText("w5;5>0*1", Bench::rich, -4);
        refusesText("w5;0>5*1", Bench::rich, -6);
        refusesText("w5;r5,1", Bench::rich, -5);
    }

    static void promise04WireLikeTheFirstOne() {
        refusesText("0>0*1", Bench::rich, -3);
        refusesText("4>4*1", Bench::rich, -3);
        refusesText("w10;9>9*1", Bench::rich, -7);
        due("9>8*1", answerTo("w10;9>8*1"), 2);
        due("the first of another lamp", answerTo("0>1*1;1>0*1"), 2);
    }

    static void promise04NumbersAtTheirLastDigit() {
        String[] texts = {
            "w0", "w1", "w00", "w01", "w11", "w20", "w99", "r0,5", "r0,05", "r0,10", "r0,44", "0>1*0", "0>1*00", "0>1*10",
            "0>1*99"};
        int[] answers = {-2, -2, -3, -3, -3, -3, -3, -4, -5, -5, -5, -5, -6, -6, -6};
        for (int k = 0; k < texts.length; k++) {
            refusesText(texts[k], Bench::rich, answers[k]);
            refusesText(texts[k] + ";w3", Bench::rich, answers[k]);
            refusesText(texts[k] + "x", Bench::rich, answers[k]);
        }
        String[] good = {"w2", "w02", "w10", "r0,0", "r0,00", "r0,4", "r0,04", "0>1*1", "0>1*01", "0>1*9", "0>1*09"};
        for (String text : good) {
            due(text, answerTo(text), 1);
        }
    }

    static void promise04NoRoomForALamp() {
        Maker full = () -> addLamps(new NinetyLamps(), 60);
        refusesText("0>1*1", full, -1);
        refusesText("r0,2;0>1*1", full, -6);
        refusesText("0>0*1", full, -1);
        refusesText("0", full, -1);
        refusesText("r0,2;", full, -6);
        NinetyLamps x = full.make();
        due("r0,2 needs no room", tell(x, "r0,2"), 1);
        due("w makes room", tell(x, "w3;0>1*1"), 2);
        due("LAMPS", x.count(1), 1);
    }

    static void promise04RoomForOneLamp() {
        Maker almost = () -> addLamps(new NinetyLamps(), 59);
        NinetyLamps x = almost.make();
        due("one", tell(x, "0>1*1"), 1);
        due("LAMPS", x.count(1), 60);
        refusesText("0>1*1;0>1*1", almost, -7);
        refusesText("0>1*1;r0,3;0>1*1", almost, -12);
        NinetyLamps y = almost.make();
        due("w between", tell(y, "0>1*1;w4;0>1*1"), 3);
        due("LAMPS", y.count(1), 1);
    }

    static void promise04NothingComesIfALineCannot() {
        refusesText("w3;x", Bench::rich, -4);
        refusesText("r0,4;0>2*3;w9;r9,1", Bench::rich, -16);
        refusesText("0>2*3;0>2*10", Bench::rich, -12);
        refusesText("r0,4;r1,4;r2,4;r3,4;", Bench::rich, -21);
    }

    // ---- set

    static void promise05SupplyIsOneToTwenty() {
        NinetyLamps x = new NinetyLamps();
        due("set(0, 1)", x.set(0, 1), 5);
        due("set(0, 20)", x.set(0, 20), 1);
        due("set(0, 20)", x.set(0, 20), 20);
        due("SUPPLY", x.count(2), 20);
        for (int v : new int[] {0, 21, -1, Integer.MIN_VALUE, Integer.MAX_VALUE}) {
            leaves("set(0, " + v + ")", y -> y.set(0, v), NONE);
        }
    }

    static void promise05DepthIsOneToThree() {
        NinetyLamps x = new NinetyLamps();
        due("set(1, 1)", x.set(1, 1), 2);
        due("set(1, 3)", x.set(1, 3), 1);
        due("set(1, 2)", x.set(1, 2), 3);
        due("SUPPLY", x.count(2), 5);
        for (int v : new int[] {0, 4, -1, Integer.MIN_VALUE, Integer.MAX_VALUE}) {
            leaves("set(1, " + v + ")", y -> y.set(1, v), NONE);
        }
    }

    static void promise05FaintIsZeroToNinetyNine() {
        NinetyLamps x = new NinetyLamps();
        due("set(2, 99)", x.set(2, 99), 0);
        due("set(2, 0)", x.set(2, 0), 99);
        due("set(2, 0)", x.set(2, 0), 0);
        for (int v : new int[] {-1, 100, Integer.MIN_VALUE, Integer.MAX_VALUE}) {
            leaves("set(2, " + v + ")", y -> y.set(2, v), NONE);
        }
    }

    static void promise05NoOtherWhat() {
        leaves("set(-1, 2)", x -> x.set(-1, 2), NONE);
        leaves("set(3, 2)", x -> x.set(3, 2), NONE);
    }

    static void promise05CountsAtOnce() {
        NinetyLamps x = with("0>1*5;0>2*1;2>1*1");
        x.put(1, 2);
        due("ghosts alone", x.glows(), 6);
        due("sets()", x.sets(), 4);
        x.set(0, 6);
        due("all", x.glows(), 7);
        due("bars(7)", x.bars(7), 0);
        x.set(1, 1);
        due("asked alone", x.glows(), 1);
        due("bars(7)", x.bars(7), -2);
        x.set(2, 34);
        due("a third is too faint", x.glows(), 0);
        due("shows(1)", x.shows(1), -2);
    }

    // ---- lamp, ohms

    static void promise06LampsThatAreThere() {
        NinetyLamps x = with("w10;9>8*7;3>5*2");
        int[] dues = {9, 8, 7, 3, 5, 2};
        for (int k = 0; k < 6; k++) {
            due("lamp(" + k / 3 + ", " + k % 3 + ")", lampOf(x, k / 3, k % 3), dues[k]);
        }
        for (int lamp : new int[] {-1, 7, 60, 64, Integer.MIN_VALUE, Integer.MAX_VALUE}) {
            leaves("lamp(" + lamp + ", 0)", y -> lampOf(y, lamp, 0), THROWN);
        }
        leaves("of none", NinetyLamps::new, y -> lampOf(y, 0, 0), THROWN);
    }

    static void promise06NoOtherWhat() {
        for (int what : new int[] {-1, 3, Integer.MIN_VALUE, Integer.MAX_VALUE}) {
            leaves("lamp(0, " + what + ")", x -> lampOf(x, 0, what), THROWN);
        }
    }

    static void promise07WiresThatAreThere() {
        NinetyLamps x = with("w10;r0,0;r9,4");
        due("ohms(0)", x.ohms(0), 0);
        due("ohms(9)", x.ohms(9), 4);
        for (int wire : new int[] {-1, 5, 10, Integer.MIN_VALUE, Integer.MAX_VALUE}) {
            leaves("ohms(" + wire + ")", y -> y.ohms(wire), NONE);
        }
        due("ohms(10)", x.ohms(10), NONE);
    }

    // ---- sheet

    /** Three lamps of 5 volts. */
    static NinetyLamps three() {
        return with("0>1*5;0>1*5;0>1*5");
    }

    static void volts(NinetyLamps x, int... dues) {
        for (int k = 0; k < dues.length; k++) {
            due("VOLTS of lamp " + k, lampOf(x, k, 2), dues[k]);
        }
    }

    static void promise08VoltsArePutToOneToNine() {
        NinetyLamps x = three();
        due("-1, 0, 1", x.sheet(2, 3, -1, 1), 3);
        volts(x, 1, 1, 1);
        due("0, 1, 2", x.sheet(2, 3, 0, 1), 4);
        volts(x, 1, 1, 2);
        due("8, 9, 10", x.sheet(2, 3, 8, 1), 26);
        volts(x, 8, 9, 9);
        due("2, 1, 0", x.sheet(2, 3, 2, -1), 4);
        volts(x, 2, 1, 1);
    }

    static void promise08BytesHaveTheLowestBits() {
        NinetyLamps x = three();
        due("126, 127, 128", x.sheet(0, 3, 126, 1), 9 + 9 + 1);
        volts(x, 9, 9, 1);
        due("254, 255, 256", x.sheet(0, 3, 254, 1), 3);
        due("257, 258, 259", x.sheet(0, 3, 257, 1), 6);
        volts(x, 1, 2, 3);
        due("-255, -254, -253", x.sheet(0, 3, -255, 1), 6);
        due("-129, -128, -127", x.sheet(0, 3, -129, 1), 9 + 1 + 1);
    }

    static void promise08ShortsHaveTheLowestBits() {
        NinetyLamps x = three();
        due("32766, 32767, 32768", x.sheet(1, 3, 32766, 1), 9 + 9 + 1);
        volts(x, 9, 9, 1);
        due("257, 258, 259", x.sheet(1, 3, 257, 1), 27);
        due("65537, 65538, 65539", x.sheet(1, 3, 65537, 1), 6);
        volts(x, 1, 2, 3);
        due("-32769, -32768, -32767", x.sheet(1, 3, -32769, 1), 9 + 1 + 1);
    }

    static void promise08IntsGoRound() {
        NinetyLamps x = three();
        due("max - 1, max, min", x.sheet(2, 3, Integer.MAX_VALUE - 1, 1), 9 + 9 + 1);
        due("65537", x.sheet(2, 3, 65537, 0), 27);
        due("min, 0, min", x.sheet(2, 3, Integer.MIN_VALUE, Integer.MIN_VALUE), 3);
        due("3, 3 + min, 3", x.sheet(2, 3, 3, Integer.MIN_VALUE), 3 + 1 + 3);
        volts(x, 3, 1, 3);
        due("2, min + 1, 0", x.sheet(2, 3, 2, Integer.MAX_VALUE), 2 + 1 + 1);
        NinetyLamps sixty = addLamps(new NinetyLamps(), 60);
        due("a step 59 times", sixty.sheet(2, 60, 5, 1 << 26), 5 + 31 * 9 + 28);
    }

    static void promise08ThoseBehindItHaveOne() {
        NinetyLamps x = three();
        due("no entries", x.sheet(2, 0, 4, 0), 3);
        volts(x, 1, 1, 1);
        due("one less", x.sheet(2, 2, 4, 0), 9);
        volts(x, 4, 4, 1);
        due("as many", x.sheet(2, 3, 4, 0), 12);
        volts(x, 4, 4, 4);
        due("one more", x.sheet(2, 4, 3, 0), 9);
        volts(x, 3, 3, 3);
    }

    static void promise08BelowZero() {
        for (int kind = 0; kind <= 2; kind++) {
            int k = kind;
            leaves("sheet(" + kind + ", -1, ..)", x -> x.sheet(k, -1, 4, 0), -2);
            leaves("sheet(" + kind + ", min, ..)", x -> x.sheet(k, Integer.MIN_VALUE, 4, 0), -2);
            due("sheet(" + kind + ", 0, ..)", three().sheet(kind, 0, 4, 0), 3);
        }
    }

    static void promise08Missing() {
        for (int n : new int[] {Integer.MIN_VALUE, -1, 0, 1, 60}) {
            NinetyLamps x = three();
            due("sheet(3, " + n + ", ..)", x.sheet(3, n, 4, 0), -3);
            volts(x, 1, 1, 1);
        }
        due("without lamps", new NinetyLamps().sheet(3, 0, 4, 0), -3);
    }

    static void promise08SixtyAtMost() {
        NinetyLamps x = addLamps(new NinetyLamps(), 60);
        due("60 entries", x.sheet(0, 60, 2, 0), 120);
        due("VOLTS of the last", lampOf(x, 59, 2), 2);
        due("59 entries", x.sheet(0, 59, 3, 0), 178);
        for (int kind = 0; kind <= 3; kind++) {
            int k = kind;
            leaves("sheet(" + kind + ", 61, ..)", y -> y.sheet(k, 61, 4, 0), NONE);
            leaves("sheet(" + kind + ", max, ..)", y -> y.sheet(k, Integer.MAX_VALUE, 4, 0), NONE);
        }
    }

    static void promise08OtherKindsComeFirst() {
        leaves("sheet(-1, 2, ..)", x -> x.sheet(-1, 2, 4, 0), NONE);
        leaves("sheet(4, 2, ..)", x -> x.sheet(4, 2, 4, 0), NONE);
        leaves("sheet(-1, -1, ..)", x -> x.sheet(-1, -1, 4, 0), NONE);
        leaves("sheet(4, -1, ..)", x -> x.sheet(4, -1, 4, 0), NONE);
        leaves("sheet(4, 61, ..)", x -> x.sheet(4, 61, 4, 0), NONE);
    }

    static void promise08CountsAtOnce() {
        NinetyLamps x = with("w2;0>1*5");
        x.put(1, 2);
        due("not above 5", x.shows(1), -2);
        x.sheet(2, 1, 4, 0);
        due("above 4", x.shows(1), 5);
        due("as is shown", x.glows(), 1);
        x.sheet(3, 0, 0, 0);
        due("one", x.light(0), WHOLE * 4 / 3);
    }

    static void promise08WithoutLamps() {
        due("nothing to sum", new NinetyLamps().sheet(2, 60, 4, 0), 0);
    }

    // ---- swap

    static void promise09VoltsGoWithTheLamp() {
        NinetyLamps x = with("0>1*2;2>3*7;1>2*5");
        due("swap(0, 2)", x.swap(0, 2), true);
        int[] dues = {1, 2, 2, 2, 3, 7, 0, 1, 5};
        for (int k = 0; k < 9; k++) {
            due("lamp(" + k / 3 + ", " + k % 3 + ")", lampOf(x, k / 3, k % 3), dues[k]);
        }
    }

    static void promise09TwoUnlikeLamps() {
        NinetyLamps x = rich();
        due("the first and the last", x.swap(0, 6), true);
        due("the last and the first", x.swap(6, 0), true);
        leaves("swap(3, 3)", y -> bit(y.swap(3, 3)), 0);
        leaves("swap(0, 7)", y -> bit(y.swap(0, 7)), 0);
        leaves("swap(7, 0)", y -> bit(y.swap(7, 0)), 0);
        leaves("swap(0, -1)", y -> bit(y.swap(0, -1)), 0);
        leaves("swap(-1, 0)", y -> bit(y.swap(-1, 0)), 0);
        leaves("swap(7, 7)", y -> bit(y.swap(7, 7)), 0);
        leaves("swap(min, max)", y -> bit(y.swap(Integer.MIN_VALUE, Integer.MAX_VALUE)), 0);
        leaves("of none", NinetyLamps::new, y -> bit(y.swap(0, 1)), 0);
    }

    static void promise09SearchesSeeTheNewPlaces() {
        NinetyLamps x = with("w3;0>1*1;1>2*1");
        due("shows(1)", x.shows(1), 15);
        x.swap(0, 1);
        due("shows(1)", x.shows(1), 5);
    }
}
