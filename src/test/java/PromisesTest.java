/** Each promise of the document by its number: ordinary inputs, its edges, and wrong inputs. */
public final class PromisesTest extends Bench {
    static String times(String part, int many) {
        return part.repeat(many);
    }

    public static void main(String[] args) {
        p1();
        p2();
        p3();
        p4();
        p4Ends();
        p4Changes();
        p5();
        p6();
        p7();
        p8();
        p9();
        p10();
        p10Paths();
        p11();
        p12();
        p13();
        p14();
        p15();
        p16();
        p17();
        p18();
        p19();
        p20();
        p21();
        p22();
        p23();
        p24();
        p25();
        p26();
        p27();
        p28();
        p29();
        p30();
        p31();
        p32();
        p33();
        p34();
        p35();
        p36();
        p37();
        p38();
        p39();
        p40();
        p41();
        p42();
        p43();
        p44();
        p45();
        p46();
        p47();
        p48();
        p49();
        System.out.println(wrong == 0 ? "all promises hold" : wrong + " answers are not as due");
        System.exit(wrong == 0 ? 0 : 1);
    }

    static void p1() {
        test = "promise 1";
        NinetyLamps x = new NinetyLamps();
        int[] first = {4, 0, 5, 0, 0, 0, 0, 0, 0};
        for (int what = 0; what < first.length; what++) {
            due("count(" + what + ")", x.count(what), first[what]);
        }
        due("DEPTH", x.set(1, 2), 2);
        due("FAINT", x.set(2, 0), 0);
        for (int wire = 0; wire < 4; wire++) {
            due("ohms", x.ohms(wire), 1);
        }
        due("parted of an empty picture", x.parted(3), 0);
        due("glows()", x.glows(), 0);
    }

    static void p2() {
        test = "promise 2";
        NinetyLamps x = new NinetyLamps();
        due("sign", x.sign(('w' << 24) | ('3' << 16) | (';' << 8) | 'w'), 4);
        due("sign", x.sign(0x80FF0001), 8);
        x.end(2);
        due("highest byte first", x.board(), 1);
        due("WIDE", x.count(0), 3);
        for (int k = 1; k <= 20; k++) {
            due("sign", x.sign(-1), 4 * k);
        }
        due("the 84th", x.sign(0), NONE);
        due("count(8)", x.count(8), 80);
        x.end(77);
        due("81 signs", x.sign(0), NONE);
        x.end(76);
        due("80 signs", x.sign(0), 80);
    }

    static void p3() {
        test = "promise 3";
        NinetyLamps x = new NinetyLamps();
        due("end(0)", x.end(0), true);
        due("end(1)", x.end(1), false);
        x.sign(0);
        due("end(-1)", x.end(-1), false);
        due("end(5)", x.end(5), false);
        due("count(8)", x.count(8), 4);
        due("end(4)", x.end(4), true);
        due("end(3)", x.end(3), true);
        due("count(8)", x.count(8), 3);
        due("end(4)", x.end(4), false);
        due("end(min)", x.end(Integer.MIN_VALUE), false);
    }

    static void p4() {
        test = "promise 4";
        String[] texts = {
            "", "w", "w1", "w2", "w10", "w11", "w02", "w00", "w100", "w1x", "wx", "w3;", ";", "w3;;", "x", "W3",
            "r", "r4,1", "r3,1", "r0", "r0;", "r0,", "r0,4", "r0,5", "r0,04", "r0,040", "r0,10", "r01",
            "0", "4>1*1", "0>0*1", "0>4*1", "0>1", "0>1*", "0>1*0", "0>1*9", "0>1*10", "0>1*09", "0>1*091", "0-1*1",
            "0>1+1", "0>1*1;", "0>1*1,", "w2;2>0*1", "w3;2>0*1", "w9;8>0*1;w3;8>0*1", "w5;r4,0;r3,4;w4;r4,0",
            "r\u00b2,1", "\u00f7", "9>1*1"};
        int[] dues = {
            0, -2, -2, 1, 1, -3, 1, -3, -4, -2, -2, -4, -1, -4, -1, -1,
            -2, -2, 1, -3, -3, -4, 1, -4, 1, -6, -5, -3,
            -2, -1, -3, -3, -4, -5, -5, 1, -6, 1, -7, -2,
            -4, -7, -6, -4, 2, -13, -18,
            -2, -1, -1};
        for (int k = 0; k < texts.length; k++) {
            NinetyLamps x = new NinetyLamps();
            due("board() of " + texts[k], tell(x, texts[k]), dues[k]);
            due("then count(8)", x.count(8), 0);
            due("then board()", x.board(), 0);
        }
    }

    static void p4Ends() {
        String twelve = times("0>1*1;", 12);
        due("76 signs", tell(new NinetyLamps(), twelve + "r0,1"), 13);
        due("77 signs, the first 76 could end", tell(new NinetyLamps(), twelve + "r0,1;"), -77);
        due("77 signs, the number goes on", tell(new NinetyLamps(), twelve + "r0,01"), -77);
        due("80 signs, the first 76 could go on", tell(new NinetyLamps(), twelve + "w3;r0,1;"), -77);
        due("76 signs end too early", tell(new NinetyLamps(), twelve + "w3;w"), -77);
        String two = "w02;w02;";
        due("1 of w10 at 75", tell(new NinetyLamps(), two + times("w2;", 22) + "w10"), -76);
        due("1 of 10 volts at 75", tell(new NinetyLamps(), two + times("w2;", 21) + "0>1*10"), -77);
        due("1 of 10 ohms at 75", tell(new NinetyLamps(), times("w2;", 24) + "r0,10"), -77);
        due("10 volts up to 75", tell(new NinetyLamps(), "w02;" + times("w2;", 22) + "0>1*10;w"), -76);
        due("a sign ahead of 76", tell(new NinetyLamps(), "x" + times("w2;", 26)), -1);
        due("the sign at 75", tell(new NinetyLamps(), times("w2;", 25) + "xw2"), -76);
        NinetyLamps x = new NinetyLamps();
        addLamps(x, 60);
        due("LAMPS", x.count(1), 60);
        due("no room", tell(x, "0>1*1"), -1);
        due("no room, and what comes can't be", tell(x, "0?"), -1);
        due("no room behind", tell(x, "r0,2;1>0*1"), -6);
        due("nothing of it came", x.ohms(0), 1);
        due("room behind w", tell(x, "w2;1>0*1"), 2);
        due("LAMPS", x.count(1), 1);
        addLamps(x, 58);
        due("room for one of two", tell(x, "0>1*1;1>0*2"), -7);
        due("LAMPS", x.count(1), 59);
        due("room for one", tell(x, "0>1*1"), 1);
    }

    static void p4Changes() {
        NinetyLamps x = with(SIX);
        due("behind what there is", tell(x, "0>1*9;r1,3"), 2);
        due("LAMPS", x.count(1), 7);
        due("the last", lampOf(x, 6, 2), 9);
        x.put(1, 2);
        x.picture(0, 3);
        x.seen(1, 2, 0);
        x.test(1, 2);
        due("a line that can't", tell(x, "w4;4>0*1"), -4);
        due("WIDE as it was", x.count(0), 3);
        due("LAMPS as they were", x.count(1), 7);
        due("HIGH as it was", x.count(3), 1);
        due("w", tell(x, "w3"), 1);
        int[] dues = {3, 0, 5, 0, 0, 0, 0};
        for (int what = 0; what < dues.length; what++) {
            due("then count(" + what + ")", x.count(what), dues[what]);
        }
        due("OHMS stay", x.ohms(1), 3);
        tell(x, "0>1*1;0>2*1");
        due("the picture is gone", x.never(0), 0);
    }

    static void p5() {
        test = "promise 5";
        NinetyLamps x = new NinetyLamps();
        int[][] calls = {
            {0, 20, 5}, {0, 1, 20}, {0, 0, -1}, {0, 21, -1}, {0, 7, 1}, {1, 3, 2}, {1, 1, 3}, {1, 0, -1}, {1, 4, -1},
            {1, 1, 1}, {2, 99, 0}, {2, 100, -1}, {2, -1, -1}, {2, 0, 99}, {3, 1, -1}, {-1, 1, -1}};
        for (int[] call : calls) {
            due("set(" + call[0] + ", " + call[1] + ")", x.set(call[0], call[1]), call[2]);
        }
        due("SUPPLY", x.count(2), 7);
    }

    static void p6() {
        test = "promise 6";
        NinetyLamps x = with("w10;9>0*7;0>9*1");
        int[] dues = {9, 0, 7, 0, 9, 1};
        for (int k = 0; k < 6; k++) {
            due("lamp", lampOf(x, k / 3, k % 3), dues[k]);
        }
        due("no such lamp", lampOf(x, 2, 0), THROWN);
        due("no such lamp", lampOf(x, -1, 0), THROWN);
        due("no such what", lampOf(x, 0, 3), THROWN);
        due("no such what", lampOf(x, 0, -1), THROWN);
        due("no lamps", lampOf(new NinetyLamps(), 0, 0), THROWN);
    }

    static void p7() {
        test = "promise 7";
        NinetyLamps x = with("w3;r0,0;r2,4;r2,3");
        due("ohms(0)", x.ohms(0), 0);
        due("ohms(1)", x.ohms(1), 1);
        due("ohms(2)", x.ohms(2), 3);
        due("ohms(3)", x.ohms(3), NONE);
        due("ohms(-1)", x.ohms(-1), NONE);
    }

    static void p8() {
        test = "promise 8";
        NinetyLamps x = with("0>1*5;0>1*5;0>1*5;0>1*5");
        due("ints 0, 4, 8; then 1", x.sheet(2, 3, 0, 4), 1 + 4 + 8 + 1);
        due("lamp 1", lampOf(x, 1, 2), 4);
        due("lamp 3", lampOf(x, 3, 2), 1);
        due("bytes: 130 is below 0", x.sheet(0, 4, 130, 0), 4);
        due("bytes: 256 + 3", x.sheet(0, 4, 259, 1), 3 + 4 + 5 + 6);
        due("shorts: 259 is above 9", x.sheet(1, 4, 259, 0), 36);
        due("shorts: 65536 + 3, then below 0", x.sheet(1, 4, 65539, 32767), 3 + 1 + 1 + 1);
        due("ints that go round", x.sheet(2, 2, Integer.MAX_VALUE, 1), 9 + 1 + 1 + 1);
        due("no entries", x.sheet(2, 0, 9, 9), 4);
        due("more entries than lamps", x.sheet(2, 60, 2, 0), 8);
        due("n below 0", x.sheet(0, -1, 5, 0), -2);
        due("nothing changes", lampOf(x, 0, 2), 2);
        due("n above 60", x.sheet(0, 61, 5, 0), NONE);
        due("n above 60 of a missing one", x.sheet(3, 61, 5, 0), NONE);
        due("another kind", x.sheet(4, -1, 5, 0), NONE);
        due("another kind", x.sheet(-1, 1, 5, 0), NONE);
        due("nothing changes", lampOf(x, 0, 2), 2);
        due("missing", x.sheet(3, -5, 5, 0), -3);
        due("all 1", lampOf(x, 3, 2), 1);
        due("no lamps", new NinetyLamps().sheet(0, 3, 5, 0), 0);
    }

    static void p9() {
        test = "promise 9";
        NinetyLamps x = with("0>1*2;2>3*7");
        due("swap(0, 1)", x.swap(0, 1), true);
        int[] dues = {2, 3, 2, 0, 1, 7};
        for (int k = 0; k < 6; k++) {
            due("lamp", lampOf(x, k / 3, k % 3), dues[k]);
        }
        x.put(4, 8);
        due("lamp 0 glows there", x.glows(), 1);
        due("swap(0, 0)", x.swap(0, 0), false);
        due("swap(0, 2)", x.swap(0, 2), false);
        due("swap(-1, 0)", x.swap(-1, 0), false);
        due("swap(1, 0)", x.swap(1, 0), true);
        due("back", lampOf(x, 0, 0), 0);
    }

    static void p10() {
        test = "promise 10";
        NinetyLamps x = with(SIX);
        due("put(1, 2)", x.put(1, 2), 3);
        due("HIGH", x.count(3), 1);
        due("LOW", x.count(4), 2);
        due("both", x.put(1, 3), NONE);
        due("no such wire", x.put(8, 0), NONE);
        due("no such wire", x.put(0, 8), NONE);
        due("below 0", x.put(-8, 0), NONE);
        due("HIGH as it was", x.count(3), 1);
        due("all high", x.put(7, 0), 0);
        due("put(6, 1)", x.put(6, 1), 2);
    }

    static void p10Paths() {
        NinetyLamps x = with("w5;0>1*1;1>2*1;2>3*1;3>4*1;1>0*1;2>1*1");
        x.set(0, 20);
        due("DEPTH 2 reaches not so far", x.put(1, 8), 0);
        x.set(1, 3);
        due("three lamps", x.put(1, 8), 3);
        due("a driven wire between", x.put(1, 8 | 4), 2);
        due("a high wire between", x.put(1 | 4, 8), 1);
        due("four lamps", x.put(1, 16), 0);
        x.set(0, 3);
        due("SUPPLY is not above the sum", x.put(1, 8), 0);
        x.set(0, 4);
        due("SUPPLY is above the sum", x.put(1, 8), 3);
        x.set(2, 20);
        due("a fifth of WHOLE is 20 hundredths", x.put(1, 8), 3);
        x.set(2, 21);
        due("below 21 hundredths", x.put(1, 8), 0);
        due("LIGHT all the same", x.light(0), WHOLE / 5);
    }

    static void p11() {
        test = "promise 11";
        NinetyLamps x = with(SIX);
        due("glows()", x.glows(), 0);
        x.put(1, 2);
        due("glows()", x.glows(), 25);
        x.set(0, 2);
        due("SUPPLY not above VOLTS", x.glows(), 0);
        x.set(0, 5);
        tell(x, "0>1*1");
        due("a lamp more", x.glows(), 25 | 64);
    }

    static void p12() {
        test = "promise 12";
        NinetyLamps x = with(SIX);
        x.put(1, 2);
        due("ghosts()", x.ghosts(), 24);
        x.put(1, 6);
        due("ghosts()", x.ghosts(), 0);
        due("of none", new NinetyLamps().ghosts(), 0);
    }

    static void p13() {
        test = "promise 13";
        NinetyLamps x = with("w4;r0,0;r3,4;0>3*1;0>1*1;1>3*1;1>3*2;0>2*1;2>3*1");
        x.set(0, 6);
        x.put(1, 8);
        due("a lamp of its own", x.light(0), WHOLE * 5 / 5);
        row(x, 1, WHOLE);
        due("on two paths", x.light(1), WHOLE * 4 / 6 + WHOLE * 3 / 6);
        row(x, 2, WHOLE * 4 / 6);
        due("light(3)", x.light(3), WHOLE * 3 / 6);
        x.put(8, 1);
        due("the wrong way", x.light(0), 0);
        row(x, 0, 0);
        due("light(6)", x.light(6), NONE);
        due("light(-1)", x.light(-1), NONE);
        row(x, 0, 0);
    }

    static void p14() {
        test = "promise 14";
        NinetyLamps x = with("w4;0>2*1;0>1*1;1>3*1;2>3*1;0>3*3;0>1*1;3>0*1");
        x.put(1, 8);
        due("why(1)", x.why(1), WHOLE * 3 / 4);
        row(x, 1, 2);
        due("why(2): the least of equal rows", x.why(2), WHOLE * 3 / 4);
        row(x, 1, 2);
        due("why(5)", x.why(5), WHOLE * 3 / 4);
        row(x, 5, 2);
        due("why(4)", x.why(4), WHOLE * 2 / 3);
        row(x, 4);
        due("why(6): no path", x.why(6), -2);
        row(x, 4);
        due("why(7)", x.why(7), NONE);
        due("why(-1)", x.why(-1), NONE);
        NinetyLamps y = with("w5;r0,0;r1,4;r2,2;3>2*1;0>3*1;4>3*3;3>1*1;0>4*1");
        y.set(0, 8);
        y.set(1, 3);
        y.put(3, 4);
        due("more lamps carry less", y.why(0), WHOLE * 6 / 4);
        row(y, 1, 0);
        NinetyLamps z = with("w4;1>2*1;0>2*1;2>3*1");
        z.put(3, 8);
        due("equal, the least row starts at the later wire", z.why(2), WHOLE * 3 / 4);
        row(z, 0, 2);
        NinetyLamps few = with("w5;r0,0;r3,0;0>1*1;1>2*1;2>3*1;1>4*2");
        few.set(1, 3);
        few.put(1, 8 | 16);
        due("equal, the fewest lamps ahead of the least row", few.why(0), WHOLE * 2 / 3);
        row(few, 0, 3);
        NinetyLamps many = with("w5;r0,0;r3,0;1>2*1;0>1*1;1>4*2;2>3*1");
        many.set(1, 3);
        many.put(1, 8 | 16);
        due("not by more lamps", many.why(1), WHOLE * 2 / 3);
        row(many, 1, 2);
    }

    static void p15() {
        test = "promise 15";
        NinetyLamps x = with(SIX);
        x.put(1, 2);
        due("from", x.draws(0), WHOLE + WHOLE / 4);
        due("to", x.draws(1), WHOLE + WHOLE / 4);
        due("let go", x.draws(2), 0);
        due("none such", x.draws(3), NONE);
        due("none such", x.draws(-1), NONE);
        x.put(1, 6);
        due("to two", x.draws(0), 2 * WHOLE);
        due("one of them", x.draws(2), WHOLE);
    }

    static void p16() {
        test = "promise 16";
        NinetyLamps x = with("w4;0>1*4;0>1*2;0>1*2;0>1*4");
        due("nothing shown", x.brightest(), -2);
        x.put(1, 2);
        due("brightest()", x.brightest(), 1);
        row(x, WHOLE, 0, WHOLE / 3);
        x.set(2, 50);
        due("brightest()", x.brightest(), 1);
        row(x, WHOLE, 1, WHOLE);
        x.put(2, 1);
        due("none glows", x.brightest(), -2);
        row(x, WHOLE, 1, WHOLE);
    }

    static void p17() {
        test = "promise 17";
        NinetyLamps x = with(SIX);
        x.set(0, 4);
        due("shows(17)", x.shows(17), 17);
        row(x, 1, 6, 1);
        due("shows(0)", x.shows(0), 0);
        row(x, 0, 0, 15);
        due("none shows it", x.shows(3), -2);
        due("no such lamp", x.shows(64), NONE);
        due("no such lamp", x.shows(Long.MIN_VALUE), NONE);
        row(x, 0, 0, 15);
        NinetyLamps wide = with("w8;0>1*1");
        due("WIDE 8", wide.shows(1), -3);
        due("WIDE 8, no such lamp", wide.shows(2), NONE);
        NinetyLamps seven = with("w7;5>6*1");
        due("WIDE 7", seven.shows(1), 5);
        row(seven, 32, 64, 243);
        due("an empty board", new NinetyLamps().shows(0), 0);
    }

    static void p18() {
        test = "promise 18";
        NinetyLamps x = with(SIX);
        due("bars(1): with both ghosts at 15, with lamp 3 at 16", x.bars(1), 1);
        row(x, 16, 3);
        due("bars(17)", x.bars(17), 0);
        row(x, 17, NONE);
        due("bars(3)", x.bars(3), -2);
        due("no such lamp", x.bars(64), NONE);
        due("bars(0)", x.bars(0), 0);
        row(x, 0, NONE);
        due("WIDE 8", with("w8").bars(0), -3);
    }

    static void p19() {
        test = "promise 19";
        NinetyLamps x = with(SIX);
        due("most()", x.most(), 2);
        row(x, 14);
        NinetyLamps none = new NinetyLamps();
        due("no lamps", none.most(), 0);
        row(none, 0);
        NinetyLamps ghostly = with("w3;0>1*1;1>2*1;0>2*1");
        due("three glow with ghosts, two without", ghostly.most(), 2);
        row(ghostly, 14);
        due("WIDE 8", with("w8").most(), -3);
    }

    static void p20() {
        test = "promise 20";
        NinetyLamps x = with("w3;0>1*1;1>2*1");
        due("0, a, b, both by ghosts", x.sets(), 4);
        row(x, 3);
        NinetyLamps y = with("w3;0>1*1;1>2*1;0>2*9");
        due("lamp 2 does not carry", y.sets(), 4);
        row(y, 3);
        NinetyLamps none = new NinetyLamps();
        due("no lamps", none.sets(), 1);
        row(none, 1);
        due("WIDE 8", with("w8").sets(), -3);
    }

    static void p21() {
        test = "promise 21";
        NinetyLamps x = with("w3;0>1*1;1>2*1;0>2*1");
        due("only as ghosts", x.fits(0, 1), 0);
        due("fits(0, 2)", x.fits(0, 2), 1);
        due("fits(2, 1)", x.fits(2, 1), 1);
        due("alike", x.fits(1, 1), NONE);
        due("none such", x.fits(0, 3), NONE);
        due("none such", x.fits(-1, 0), NONE);
        due("WIDE 8", with("w8;0>1*1;0>1*1").fits(0, 1), -3);
        due("WIDE 8, none such", with("w8;0>1*1").fits(0, 1), NONE);
    }

    static void p22() {
        test = "promise 22";
        NinetyLamps x = with("w3;0>1*1;0>1*1;1>2*1");
        due("two are never alone", x.alone(), 4);
        x.set(0, 4);
        due("WIDE 8", with("w8").alone(), -3);
        due("no lamps", new NinetyLamps().alone(), 0);
        NinetyLamps sixty = new NinetyLamps();
        addLamps(sixty, 59);
        tell(sixty, "1>0*1");
        due("lamp 59", sixty.alone(), 1L << 59);
    }

    static void p23() {
        test = "promise 23";
        NinetyLamps x = with("w3;0>2*9;0>1*1;0>2*9;0>1*2;0>1*3");
        due("twins()", x.twins(), 3);
        row(x, 1, 3);
        x.set(0, 1);
        due("nothing glows", x.twins(), 0);
        row(x);
        due("WIDE 8", with("w8").twins(), -3);
        NinetyLamps sixty = new NinetyLamps();
        addLamps(sixty, 60);
        due("sixty", sixty.twins(), 60 * 59 / 2);
        row(sixty, 0, 1);
    }

    static void p24() {
        test = "promise 24";
        NinetyLamps x = with("w3;0>1*2;0>2*3;2>1*4");
        due("range(1, 2)", x.range(1, 2), 0b11111000);
        x.set(0, 20);
        due("range(1, 2)", x.range(1, 2), 0b111111111111100000000);
        due("all let go", x.range(0, 0), 0b111111111111111111110);
        due("SUPPLY as it was", x.count(2), 20);
        due("both", x.range(1, 1), NONE);
        due("no such wire", x.range(8, 0), NONE);
    }

    static void p25() {
        test = "promise 25";
        NinetyLamps x = with(SIX);
        due("picture(0, 3)", x.picture(0, 3), 2);
        due("picture(3, 63)", x.picture(3, 63), 6);
        due("picture(4, 0)", x.picture(4, 0), NONE);
        due("picture(-1, 0)", x.picture(-1, 0), NONE);
        due("picture(0, 64)", x.picture(0, 64), NONE);
        due("picture(0, min)", x.picture(0, Long.MIN_VALUE), NONE);
        x.set(0, 4);
        due("as it was", x.parted(0), 2);
    }

    static void p26() {
        test = "promise 26";
        NinetyLamps x = with(SIX);
        x.set(1, 1);
        x.picture(0, 63);
        due("all six", x.parted(0), 3);
        row(x, 14, 16, 22);
        x.picture(1, 0);
        due("empty", x.parted(1), 0);
        row(x);
        x.picture(2, 1);
        due("one", x.parted(2), 1);
        row(x, 15);
        tell(x, "0>1*9");
        x.picture(3, 64);
        due("it can't be", x.parted(3), -2);
        row(x, 15);
        due("parted(4)", x.parted(4), NONE);
        due("parted(-1)", x.parted(-1), NONE);
        NinetyLamps many = new NinetyLamps();
        addLamps(many, 13);
        many.picture(0, 8191);
        due("13 lamps", many.parted(0), -4);
        many.picture(0, 4095);
        due("12 of 13 alike", many.parted(0), -2);
        NinetyLamps wide = with("w8");
        due("WIDE 8", wide.parted(0), -3);
        due("WIDE 8, none such", wide.parted(4), NONE);
        addLamps(wide, 13);
        wide.picture(0, 8191);
        due("WIDE 8 and 13 lamps", wide.parted(0), -3);
    }

    static void p27() {
        test = "promise 27";
        NinetyLamps x = with(SIX);
        x.set(1, 1);
        x.picture(0, 63);
        due("proof(0)", x.proof(0), 3);
        row(x, 0b011010);
        x.picture(1, 0);
        due("empty", x.proof(1), 0);
        row(x, 0);
        tell(x, "0>1*9;0>1*9");
        x.picture(2, 64 | 128 | 1);
        due("those that never glow count", x.proof(2), 3);
        row(x, 64 | 128 | 1);
        due("proof(4)", x.proof(4), NONE);
        NinetyLamps many = new NinetyLamps();
        addLamps(many, 13);
        many.picture(0, 8191);
        due("13 lamps", many.proof(0), -4);
        due("WIDE 8", with("w8").proof(0), -3);
    }

    static void p28() {
        test = "promise 28";
        NinetyLamps x = with("w3;0>1*1;1>2*9;0>1*1;1>2*2");
        x.picture(0, 0b1011);
        due("lamp 0 only with lamp 2, lamp 1 never", x.never(0), 3);
        x.picture(0, 0b1111);
        due("never(0)", x.never(0), 2);
        due("empty", x.never(1), 0);
        due("never(4)", x.never(4), NONE);
        due("WIDE 8", with("w8").never(0), -3);
        NinetyLamps many = new NinetyLamps();
        addLamps(many, 60);
        many.picture(0, (1L << 60) - 1);
        due("sixty lamps", many.never(0), 0);
    }

    static void p29() {
        test = "promise 29";
        NinetyLamps x = with(SIX);
        x.set(1, 1);
        x.picture(0, 63);
        due("changes(0)", x.changes(0), 3 + 2 + 2);
        row(x, 14, 16, 22);
        NinetyLamps chain = with("w4;0>1*1;2>3*1;1>2*1;0>3*1;2>1*1");
        chain.set(1, 1);
        chain.picture(0, 0b00111);
        due("0012, 0120, 1200", chain.parted(0), 3);
        row(chain, 5, 15, 45);
        due("in turn", chain.changes(0), 2 + 3 + 3);
        row(chain, 5, 15, 45);
        due("empty", x.changes(1), 0);
        row(x);
        due("changes(4)", x.changes(4), NONE);
        tell(x, "0>1*9");
        x.picture(2, 64);
        due("it can't be", x.changes(2), -2);
        due("WIDE 8", with("w8").changes(0), -3);
        due("-5", ring(7).changes(0), -5);
        due("six", ring(6).changes(0), 2 + 5 * 3);
        NinetyLamps many = new NinetyLamps();
        addLamps(many, 13);
        many.picture(0, 8191);
        due("13 lamps", many.changes(0), -4);
    }

    /** Seven wires with lamps both ways between all, a picture of so many in a ring, one a turn. */
    static NinetyLamps ring(int many) {
        NinetyLamps x = with("w7");
        x.set(1, 1);
        for (int a = 0; a < 7; a++) {
            tell(x, a + ">" + (a + 1) % 7 + "*1");
        }
        for (int a = 0; a < 7; a++) {
            for (int b = 0; b < 7; b++) {
                if (a != b && (a + 1) % 7 != b) {
                    tell(x, a + ">" + b + "*1");
                }
            }
        }
        x.picture(0, (1 << many) - 1);
        return x;
    }

    static void p30() {
        test = "promise 30";
        NinetyLamps x = with("w4;0>1*1;1>0*3");
        x.picture(0, 3);
        due("two turns, two slots", x.even(0, 2), WHOLE * 2 / 3);
        row(x, 1, 1);
        due("three slots", x.even(0, 3), WHOLE * 4 / 3);
        row(x, 1, 2);
        due("four slots: the first of equal ones", x.even(0, 4), WHOLE * 4 / 3);
        row(x, 2, 2);
        due("five slots", x.even(0, 5), WHOLE * 2);
        row(x, 2, 3);
        due("200 slots", x.even(0, 200), WHOLE * 88 + WHOLE * 2 / 3);
        row(x, 67, 133);
        NinetyLamps both = with("w4;0>1*3;0>2*1;3>1*1;1>2*1;3>0*1;3>2*1");
        both.picture(0, 7);
        due("ghosts drive lamp 0 into both turns", both.parted(0), 2);
        row(both, 46, 51);
        due("the first of equal lamps, then of equal turns", both.even(0, 3), WHOLE * 4 / 3);
        row(both, 2, 1);
        due("n less than turns", x.even(0, 1), -2);
        due("n 0", x.even(0, 0), NONE);
        due("n 201", x.even(0, 201), NONE);
        due("even(4, 1)", x.even(4, 1), NONE);
        due("empty", x.even(1, 1), 0);
        row(x);
        tell(x, "0>1*9");
        x.picture(2, 4);
        due("it can't be", x.even(2, 9), -2);
        due("WIDE 8", with("w8").even(0, 1), -3);
        due("WIDE 8, n 0", with("w8").even(0, 0), NONE);
        NinetyLamps many = new NinetyLamps();
        addLamps(many, 13);
        many.picture(0, 8191);
        due("13 lamps", many.even(0, 9), -4);
    }

    static void p31() {
        test = "promise 31";
        NinetyLamps x = with(SIX);
        x.set(0, 4);
        x.picture(0, 3);
        due("better(0)", x.better(0), 1);
        row(x, 0, 2, 2);
        due("nothing changes", lampOf(x, 0, 1), 1);
        due("nothing changes", x.parted(0), 2);
        due("empty", x.better(1), 0);
        row(x, 0, 1, 0);
        NinetyLamps stuck = with("w2;0>1*9;0>1*1");
        stuck.picture(0, 1);
        due("with none it can be", stuck.better(0), -2);
        NinetyLamps freed = with("w2;0>1*1;0>1*1;1>0*1");
        freed.picture(0, 1);
        due("only with lamp 2", freed.better(0), 1);
        row(freed, 0, 2, -2);
        due("better(4)", x.better(4), NONE);
        due("better(-1)", x.better(-1), NONE);
        due("one lamp", with("w2;0>1*1").better(0), NONE);
        due("one lamp, WIDE 5", with("w5;0>1*1").better(0), NONE);
        due("WIDE 5", with("w5;0>1*1;1>0*1").better(0), -3);
        NinetyLamps many = new NinetyLamps();
        addLamps(many, 12);
        due("12 lamps", many.better(0), 0);
        addLamps(many, 1);
        due("13 lamps", many.better(0), -3);
    }

    static void p32() {
        test = "promise 32";
        NinetyLamps x = new NinetyLamps();
        due("faults()", x.faults(), 1 + 4 + 6);
        row(x, 5, 11);
        tell(x, "w10;0>1*1;1>0*1");
        due("faults()", x.faults(), 1 + 10 + 45 + 2);
        row(x, 11, 56);
    }

    static void p33() {
        test = "promise 33";
        NinetyLamps x = with("0>1*1;1>0*1");
        int[][] all = {
            {0, -1, -1}, {1, 0, -1}, {1, 1, -1}, {1, 2, -1}, {1, 3, -1}, {2, 0, 1}, {2, 0, 2}, {2, 0, 3}, {2, 1, 2},
            {2, 1, 3}, {2, 2, 3}, {3, 0, -1}, {3, 1, -1}};
        for (int f = 0; f < all.length; f++) {
            for (int what = 0; what < 3; what++) {
                due("fault(" + f + ", " + what + ")", faultOf(x, f, what), all[f][what]);
            }
        }
        due("none such", faultOf(x, 13, 0), THROWN);
        due("none such", faultOf(x, -1, 0), THROWN);
        due("another what", faultOf(x, 0, 3), THROWN);
        due("another what", faultOf(x, 0, -1), THROWN);
    }

    static void p34() {
        test = "promise 34";
        NinetyLamps x = with("0>1*1;1>2*1;2>3*1;r0,4;r1,0");
        due("none", x.would(0, 1, 4), 3);
        due("1 cut", x.would(2, 1, 4), 0);
        due("3 cut", x.would(4, 1, 4), 3);
        due("0 and 1 touch, 0 high", x.would(5, 1, 4), 2);
        due("0 and 1 touch, 1 high", x.would(5, 2, 4), 2);
        due("0 and 2 touch, high and low", x.would(6, 1, 4), 0);
        due("0 and 2 touch: 2 is high", x.would(6, 1, 8), 4);
        due("lamp 1 turned", x.would(12, 1, 4), 0);
        due("lamp 1 turned", x.would(12, 4, 1), 0);
        due("lamp 0 turned", x.would(11, 2, 1), 1);
        x.set(2, 45);
        due("1 of 0 OHMS, 2 of 1: 4 by 2", x.would(0, 2, 4), 2);
        x.set(2, 66);
        due("OHMS of a, that is high: 4 by 6", x.would(5, 3, 4), 2);
        x.set(2, 67);
        due("OHMS of a, that is high: 4 by 6", x.would(5, 3, 4), 0);
        due("OHMS of b, if a is let go: 4 by 2", x.would(5, 2, 4), 2);
        due("none such", x.would(14, 0, 0), NONE);
        due("none such", x.would(-1, 0, 0), NONE);
        due("both", x.would(0, 1, 1), NONE);
        due("no such wire", x.would(0, 16, 1), NONE);
        due("WIDE 10", with("w10;8>9*1").would(0, 256, 512), 1);
    }

    static void p35() {
        test = "promise 35";
        NinetyLamps x = with("w2;0>1*1");
        due("cut", x.tells(1), 1);
        row(x, 5);
        due("turned", x.tells(4), 2);
        row(x, 5);
        due("none", x.tells(0), 0);
        row(x);
        due("none such", x.tells(5), NONE);
        due("none such", x.tells(-1), NONE);
        due("WIDE 8", with("w8").tells(0), -3);
        due("WIDE 8, none such", with("w8").tells(100), NONE);
    }

    static void p36() {
        test = "promise 36";
        NinetyLamps x = with("w2;0>1*1");
        due("hidden()", x.hidden(), 0);
        row(x);
        NinetyLamps none = new NinetyLamps();
        due("no lamps", none.hidden(), 10);
        row(none, 1, 2, 3, 4, 5, 6, 7, 8);
        NinetyLamps y = with("w3;0>1*1;1>0*9");
        due("wire 2 cut; lamp 1 turned", y.hidden(), 2);
        row(y, 3, 8);
        due("WIDE 8", with("w8").hidden(), -3);
    }

    static void p37() {
        test = "promise 37";
        NinetyLamps x = with("w2;0>1*1");
        due("cut 0 and cut 1", x.alike(1, 2), 1);
        due("0 and turned", x.alike(0, 4), 0);
        row(x, 5);
        due("cut and turned", x.alike(4, 1), 0);
        row(x, 7);
        due("the same one", x.alike(3, 3), 1);
        due("none such", x.alike(0, 5), NONE);
        due("none such", x.alike(-1, 0), NONE);
        due("WIDE 8", with("w8").alike(0, 1), -3);
        row(x, 7);
    }

    static void p38() {
        test = "promise 38";
        NinetyLamps x = with("w2;0>1*1");
        for (int k = 1; k <= 12; k++) {
            due("seen", x.seen(1, 2, 1), k);
        }
        due("the 13th", x.seen(1, 2, 1), NONE);
        x.forget();
        due("both", x.seen(1, 1, 0), NONE);
        due("no such wire", x.seen(4, 0, 0), NONE);
        due("no such lamp", x.seen(1, 2, 2), NONE);
        due("count(5)", x.count(5), 11);
    }

    static void p39() {
        test = "promise 39";
        NinetyLamps x = with("w2;0>1*1");
        due("none", x.forget(), NONE);
        x.seen(1, 2, 1);
        x.seen(1, 2, 0);
        due("forget()", x.forget(), 1);
        due("the latest is forgotten", x.judge(0), -2);
        due("forget()", x.forget(), 0);
        due("none", x.forget(), NONE);
    }

    static void p40() {
        test = "promise 40";
        NinetyLamps x = with("w4;0>1*1");
        due("all", x.which(), 12);
        row(x, 0, 1, 2, 3, 4, 5, 6, 7);
        x.seen(1, 2, 0);
        due("cut 0, cut 1, touch, turned", x.which(), 4);
        row(x, 1, 2, 5, 11);
        x.seen(2, 1, 1);
        due("turned", x.which(), 1);
        row(x, 11);
        x.seen(2, 1, 0);
        due("none", x.which(), 0);
        row(x);
        due("WIDE 10", with("w10").which(), 56);
    }

    static void p41() {
        test = "promise 41";
        NinetyLamps x = with("w2;0>1*1");
        x.seen(0, 0, 0);
        x.seen(1, 2, 1);
        x.seen(2, 1, 1);
        due("none", x.judge(0), 2);
        due("cut", x.judge(1), 1);
        due("turned", x.judge(4), 1);
        x.forget();
        due("none", x.judge(0), -2);
        due("none such", x.judge(5), NONE);
        due("none such", x.judge(-1), NONE);
    }

    static void p42() {
        test = "promise 42";
        NinetyLamps x = with("w2;0>1*1");
        due("next()", x.next(), 4);
        row(x, 5);
        x.seen(1, 2, 0);
        due("cut, cut, touch or turned", x.next(), 3);
        row(x, 7);
        x.seen(2, 1, 1);
        due("only turned", x.next(), 1);
        row(x, 0);
        x.seen(2, 1, 0);
        due("none agrees", x.next(), -2);
        due("WIDE 8", with("w8").next(), -3);
    }

    static void p43() {
        test = "promise 43";
        NinetyLamps x = with("w2;0>1*1");
        for (int k = 0; k < 8; k++) {
            due("test", x.test(1, 2), k);
        }
        due("the ninth", x.test(1, 2), NONE);
        tell(x, "w2");
        due("both", x.test(1, 1), NONE);
        due("no such wire", x.test(4, 1), NONE);
        due("count(6)", x.count(6), 0);
        due("test", x.test(0, 0), 0);
    }

    static void p44() {
        test = "promise 44";
        NinetyLamps x = with("w2;0>1*1");
        due("no tests", x.tree(), 0);
        row(x, NONE, 1);
        x.test(0, 0);
        due("a test that parts nothing", x.tree(), 0);
        row(x, NONE, 1);
        x.test(2, 1);
        x.test(1, 2);
        due("tree()", x.tree(), 2);
        row(x, 1, 3);
        x.seen(1, 2, 0);
        due("tree()", x.tree(), 1);
        row(x, 1, 2);
        x.seen(1, 2, 1);
        due("none agrees", x.tree(), -2);
        row(x, 1, 2);
        NinetyLamps y = twoLamps();
        due("three tests, six groups", y.tree(), 3);
        row(y, 0, 6);
    }

    /** Two lamps that have no wire in common, tests of the one, of the other, of both. */
    static NinetyLamps twoLamps() {
        NinetyLamps x = with("w4;0>1*1;2>3*1");
        x.set(1, 1);
        x.test(1, 2);
        x.test(4, 8);
        x.test(1 | 4, 2 | 8);
        return x;
    }

    static void p45() {
        test = "promise 45";
        NinetyLamps x = with("w2;0>1*1");
        x.test(0, 0);
        x.test(2, 1);
        x.test(1, 2);
        due("none", x.path(0), 2);
        row(x, 1, 2, 1);
        due("cut", x.path(1), 2);
        row(x, 1, 2, 3);
        due("turned", x.path(4), 1);
        row(x, 1, 1);
        x.seen(1, 2, 1);
        due("only none agrees", x.path(0), 0);
        row(x, 1);
        NinetyLamps y = twoLamps();
        due("0 and 1 touch: the second test parts nothing there", y.path(5), 2);
        row(y, 0, 2, 1);
        due("none: 0 and 2, 1 and 3 that touch are left too", y.path(0), 3);
        row(y, 0, 1, 2, 3);
        due("it does not agree", x.path(1), NONE);
        due("none such", x.path(5), NONE);
        due("none such", x.path(-1), NONE);
    }

    static void p46() {
        test = "promise 46";
        NinetyLamps x = with("w2;0>1*1");
        due("keep(0)", x.keep(0), true);
        due("keep(1)", x.keep(1), true);
        due("keep(2)", x.keep(2), false);
        due("keep(-1)", x.keep(-1), false);
        x.put(1, 2);
        due("keep(0) anew", x.keep(0), true);
        x.put(0, 0);
        x.again(0);
        due("HIGH", x.count(3), 1);
        x.again(1);
        due("HIGH", x.count(3), 0);
    }

    static void p47() {
        test = "promise 47";
        NinetyLamps x = with("w3;0>1*1;1>2*2");
        due("nothing kept", x.again(0), false);
        x.put(1, 2);
        x.picture(1, 1);
        x.seen(1, 2, 1);
        x.test(1, 2);
        x.keep(1);
        tell(x, "0>2*1;r1,3");
        x.swap(0, 2);
        x.sheet(3, 0, 0, 0);
        x.put(0, 0);
        x.picture(1, 6);
        x.seen(1, 2, 4);
        x.test(2, 1);
        x.set(0, 9);
        due("again(1)", x.again(1), true);
        int[] dues = {3, 2, 9, 1, 2, 1, 2};
        for (int what = 0; what < dues.length; what++) {
            due("count(" + what + ")", x.count(what), dues[what]);
        }
        due("places are back", lampOf(x, 0, 1), 1);
        due("VOLTS are back", lampOf(x, 1, 2), 2);
        due("OHMS are not kept", x.ohms(1), 3);
        due("what glows", x.glows(), 1);
        due("the picture is back", x.proof(1), 1);
        row(x, 1);
        x.forget();
        due("again(1)", x.again(1), true);
        due("SEEN", x.count(5), 1);
        x.forget();
        x.seen(2, 4, 2);
        due("lamp 0 turned, as now seen", x.judge(7), -2);
        due("wire 0 cut, as now seen", x.judge(1), -2);
        due("again(1)", x.again(1), true);
        due("lamp 0 turned, as seen then", x.judge(7), 0);
        due("wire 2 cut, as seen then", x.judge(3), -2);
        due("again(0)", x.again(0), false);
        due("again(2)", x.again(2), false);
        due("again(-1)", x.again(-1), false);
        tell(x, "w3;x");
        due("w that did not come", x.again(1), true);
        tell(x, "w3");
        due("w", x.again(1), false);
        due("keep(1)", x.keep(1), true);
        due("again(1)", x.again(1), true);
    }

    static void p48() {
        test = "promise 48";
        NinetyLamps x = with("w7;0>1*1;0>1*1");
        x.set(0, 11);
        x.put(3, 12);
        x.seen(0, 0, 0);
        x.test(0, 0);
        x.test(0, 0);
        x.test(0, 0);
        x.light(0);
        x.sign(0);
        int[] dues = {7, 2, 11, 3, 12, 1, 3, 2, 4};
        for (int what = 0; what < dues.length; what++) {
            due("count(" + what + ")", x.count(what), dues[what]);
        }
        due("count(9)", x.count(9), NONE);
        due("count(-1)", x.count(-1), NONE);
    }

    static void p49() {
        test = "promise 49";
        NinetyLamps x = with("w2;0>1*1");
        due("no row", rowOf(x, 0), THROWN);
        due("below 0", rowOf(x, -1), THROWN);
        x.faults();
        due("row(0)", rowOf(x, 0), 3);
        due("row(1)", rowOf(x, 1), 4);
        due("row(2)", rowOf(x, 2), THROWN);
        due("row(-1)", rowOf(x, -1), THROWN);
        due("row(max)", rowOf(x, Integer.MAX_VALUE), THROWN);
        x.put(1, 2);
        due("put tells no row", rowOf(x, 1), 4);
        x.brightest();
        due("row(2)", rowOf(x, 2), WHOLE * 4 / 3);
    }
}
