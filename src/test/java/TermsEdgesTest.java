/** The edges that the document's terms name, each at the edge itself and one step beyond it. */
public final class TermsEdgesTest extends Bench {
    public static void main(String[] args) {
        runTests(TermsEdgesTest.class);
    }

    // ---- the board

    static void termsWideIsTwoToTen() {
        for (int wide = 2; wide <= 10; wide++) {
            NinetyLamps x = new NinetyLamps();
            due("w" + wide, tell(x, "w" + wide), 1);
            due("WIDE", x.count(0), wide);
        }
        refusesText("w0", Bench::rich, -2);
        refusesText("w1", Bench::rich, -2);
        refusesText("w11", Bench::rich, -3);
        refusesText("w99", Bench::rich, -3);
    }

    static void termsWideIsFourAtFirst() {
        NinetyLamps x = new NinetyLamps();
        due("WIDE", x.count(0), 4);
        due("ohms(3)", x.ohms(3), 1);
        due("ohms(4)", x.ohms(4), NONE);
        due("faults()", x.faults(), 1 + 4 + 6);
    }

    static void termsWiresAreBelowWide() {
        for (int wide = 2; wide <= 10; wide++) {
            NinetyLamps x = with("w" + wide);
            int last = wide - 1;
            due("ohms of the last", x.ohms(last), 1);
            due("ohms behind it", x.ohms(wide), NONE);
            due("draws of the last", x.draws(last), 0);
            due("draws behind it", x.draws(wide), NONE);
            due("put of the last", x.put(1 << last, 0), 0);
            due("put behind it", x.put(1 << wide, 0), NONE);
            due("put behind it", x.put(0, 1 << wide), NONE);
            due("a lamp from the last", tell(x, last + ">0*1"), 1);
            due("a lamp to the last", tell(x, "0>" + last + "*1"), 1);
            due("ohms of the last", tell(x, "r" + last + ",2"), 1);
            if (wide < 10) {
                due("a lamp from behind it", tell(x, wide + ">0*1"), -1);
                due("a lamp to behind it", tell(x, "0>" + wide + "*1"), -3);
                due("ohms of one behind it", tell(x, "r" + wide + ",2"), -2);
            }
            due("LAMPS", x.count(1), 2);
        }
    }

    static void termsOhmsAreOneAtFirst() {
        NinetyLamps x = with("w10");
        for (int wire = 0; wire < 10; wire++) {
            due("ohms(" + wire + ")", x.ohms(wire), 1);
        }
    }

    static void termsOhmsAreZeroToFour() {
        NinetyLamps x = with("w10");
        for (int ohms = 0; ohms <= 4; ohms++) {
            due("r9," + ohms, tell(x, "r9," + ohms), 1);
            due("ohms(9)", x.ohms(9), ohms);
            due("ohms(8)", x.ohms(8), 1);
        }
        refusesText("r0,5", Bench::rich, -4);
        refusesText("r0,9", Bench::rich, -4);
        refusesText("r0,10", Bench::rich, -5);
        due("as it was", x.ohms(9), 4);
    }

    static void termsLampsAreSixtyAtMost() {
        NinetyLamps x = addLamps(new NinetyLamps(), 59);
        due("59", x.count(1), 59);
        due("the 60th", tell(x, "1>0*9"), 1);
        due("60", x.count(1), 60);
        due("lamp(59, 2)", lampOf(x, 59, 2), 9);
        due("the 61st", tell(x, "1>0*9"), -1);
        due("60", x.count(1), 60);
        due("lamp(60, 2)", lampOf(x, 60, 2), THROWN);
    }

    static void termsLampsAreNumberedFromZero() {
        NinetyLamps x = with("0>1*1");
        due("lamp(0, 2)", lampOf(x, 0, 2), 1);
        due("lamp(-1, 2)", lampOf(x, -1, 2), THROWN);
        due("lamp(1, 2)", lampOf(x, 1, 2), THROWN);
    }

    static void termsLampGoesToAnotherWire() {
        for (int a = 0; a < 4; a++) {
            for (int b = 0; b < 4; b++) {
                due(a + ">" + b, answerTo(a + ">" + b + "*1"), a == b ? -3 : 1);
            }
        }
    }

    static void termsVoltsAreOneToNine() {
        for (int volts = 1; volts <= 9; volts++) {
            NinetyLamps x = with("0>1*" + volts);
            due("VOLTS", lampOf(x, 0, 2), volts);
        }
        refusesText("0>1*0", Bench::rich, -5);
        refusesText("0>1*10", Bench::rich, -6);
    }

    static void termsSupplyIsFiveAtFirst() {
        NinetyLamps x = with("0>1*4;0>1*5");
        due("SUPPLY", x.count(2), 5);
        x.put(1, 2);
        due("above 4, not above 5", x.glows(), 1);
    }

    static void termsDepthIsTwoAtFirst() {
        NinetyLamps x = with("0>1*1;1>2*1;2>3*1");
        due("two lamps", x.put(1, 4), 2);
        due("three lamps", x.put(1, 8), 0);
        due("DEPTH", x.set(1, 1), 2);
    }

    static void termsFaintIsZeroAtFirst() {
        NinetyLamps x = with("r0,4;r1,4;0>2*1;2>1*3");
        due("a tenth", x.put(1, 2), 2);
        due("FAINT", x.set(2, 11), 0);
        due("a tenth", x.glows(), 0);
    }

    static void termsTextHasSeventySixSignsAtMost() {
        String lines = "0>1*1;".repeat(12);
        due("75 signs", answerTo("w04;" + "0>1*1;".repeat(11) + "0>1*1"), 13);
        due("76 signs", answerTo(lines + "r0,1"), 13);
        due("77 signs", answerTo(lines + "r0,01"), -77);
        due("80 signs", answerTo(lines + "r0,1;w04"), -77);
    }

    static void termsLinesHaveSignsBetween() {
        due("two lines", answerTo("r0,1;r1,1"), 2);
        refusesText(";r0,1", Bench::rich, -1);
        refusesText("r0,1;", Bench::rich, -6);
        refusesText("r0,1;;r1,1", Bench::rich, -6);
        refusesText("r0,1r1,1", Bench::rich, -5);
        refusesText("r0,1:r1,1", Bench::rich, -5);
        refusesText("w3w3", Bench::rich, -3);
        refusesText("0>1*10>1*1", Bench::rich, -6);
    }

    static void termsWTakesAwayAllThatItNames() {
        NinetyLamps x = rich();
        due("w5", tell(x, "w5"), 1);
        int[] dues = {5, 0, 9, 0, 0, 0, 0};
        for (int what = 0; what < dues.length; what++) {
            due("count(" + what + ")", x.count(what), dues[what]);
        }
        tell(x, "0>1*9;0>1*9;0>1*9;0>1*9;0>1*9");
        for (int i = 0; i < 4; i++) {
            due("PICTURE " + i, x.never(i), 0);
        }
        due("nothing SEEN", x.forget(), NONE);
        due("the first test", x.test(0, 0), 0);
    }

    static void termsWTakesAwayThePlacesOfLamps() {
        NinetyLamps x = with("w4;0>1*1;1>2*1", "w4;2>3*1");
        due("where the old one was", x.put(1, 2), 0);
        due("from the old wire to the new one", x.put(1, 8), 0);
        due("from the new wire to the old one", x.put(4, 2), 0);
        due("where the new one is", x.put(4, 8), 1);
    }

    static void termsWLeavesWhatItDoesNotName() {
        NinetyLamps x = rich();
        tell(x, "w5");
        row(x, 1, WHOLE * 4 / 5);
        due("ohms(0)", x.ohms(0), 2);
        due("ohms(2)", x.ohms(2), 3);
        due("SUPPLY", x.count(2), 9);
        due("DEPTH", x.set(1, 1), 3);
        due("FAINT", x.set(2, 1), 2);
    }

    static void termsWTakesAwayWhatStandsAheadInItsText() {
        NinetyLamps x = new NinetyLamps();
        due("0>1*1;w4", tell(x, "0>1*1;w4"), 2);
        due("LAMPS", x.count(1), 0);
        due("0>1*1;w2;1>0*3", tell(x, "0>1*1;w2;1>0*3"), 3);
        due("LAMPS", x.count(1), 1);
        due("the one behind it", lampOf(x, 0, 2), 3);
    }

    static void termsWireIsThereByWhatStandsAhead() {
        due("w5;4>0*1", answerTo("w5;4>0*1"), 2);
        due("4>0*1;w5", answerTo("4>0*1;w5"), -1);
        due("w5;w4;4>0*1", answerTo("w5;w4;4>0*1"), -7);
        due("w4;w5;4>0*1", answerTo("w4;w5;4>0*1"), 3);
        due("w5;r4,0", answerTo("w5;r4,0"), 2);
        due("w3;r3,0", answerTo("w3;r3,0"), -5);
        due("w3;0>3*1", answerTo("w3;0>3*1"), -6);
        due("w10;9>8*1", answerTo("w10;9>8*1"), 2);
        due("w9;9>8*1", answerTo("w9;9>8*1"), -4);
    }

    static void termsWiresHaveOneDigit() {
        due("00>1*1", answerTo("00>1*1"), -2);
        due("0>01*1", answerTo("0>01*1"), -3);
        due("0>11*1", answerTo("0>11*1"), -4);
        due("r00,1", answerTo("r00,1"), -3);
        due("r,1", answerTo("r,1"), -2);
        due(">1*1", answerTo(">1*1"), -1);
        due("0>*1", answerTo("0>*1"), -3);
        due("/ is ahead of 0", answerTo("/>1*1"), -1);
        due(": is behind 9", answerTo("w10;:>1*1"), -5);
        due("/ is ahead of 0", answerTo("0>/*1"), -3);
        due(": is behind 9", answerTo("w10;0>:*1"), -7);
    }

    static void termsNumbersHaveOneOrTwoDigits() {
        due("w", answerTo("w"), -2);
        due("w02", answerTo("w02"), 1);
        due("w002", answerTo("w002"), -3);
        due("w100", answerTo("w100"), -4);
        due("r0,04", answerTo("r0,04"), 1);
        due("r0,004", answerTo("r0,004"), -6);
        due("r0,", answerTo("r0,"), -4);
        due("0>1*09", answerTo("0>1*09"), 1);
        due("0>1*009", answerTo("0>1*009"), -6);
        due("0>1*099", answerTo("0>1*091"), -7);
        due("/ is no digit", answerTo("w/"), -2);
        due(": is no digit", answerTo("w:"), -2);
        due("/ is no second digit", answerTo("w2/"), -3);
        due(": is no second digit", answerTo("w2:"), -3);
    }

    static void termsLinesComeBehindWhatThereIs() {
        NinetyLamps x = with("0>1*1;1>2*2", "2>3*3;3>0*4");
        for (int k = 0; k < 4; k++) {
            due("WIRE of lamp " + k, lampOf(x, k, 0), k);
            due("VOLTS of lamp " + k, lampOf(x, k, 2), k + 1);
        }
    }

    // ---- settings, paths, light

    static void termsNoWireIsHighAndLow() {
        for (int wire = 0; wire < 4; wire++) {
            int bit = 1 << wire;
            leaves("both", x -> x.put(bit, bit), NONE);
            leaves("both of all", x -> x.put(31, bit), NONE);
            due("one of both", new NinetyLamps().put(15 & ~bit, bit), 0);
        }
    }

    static void termsSettingHasWiresThatAreThere() {
        for (int wide = 2; wide <= 10; wide++) {
            NinetyLamps x = with("w" + wide);
            int all = (1 << wide) - 1;
            due("all high", x.put(all, 0), 0);
            due("all low", x.put(0, all), 0);
            due("none", x.put(0, 0), 0);
            due("one too many", x.put(all + 1, 0), NONE);
            due("one too many", x.put(0, all + 1), NONE);
            due("the highest bit", x.put(Integer.MIN_VALUE, 0), NONE);
            due("the highest bit", x.put(0, Integer.MIN_VALUE), NONE);
            due("all bits", x.put(-1, 0), NONE);
        }
    }

    static void termsPathHasOneToDepthLamps() {
        for (int depth = 1; depth <= 3; depth++) {
            NinetyLamps x = with("w5;0>1*1;1>2*1;2>3*1;3>4*1");
            x.set(0, 20);
            x.set(1, depth);
            for (int size = 1; size <= 4; size++) {
                due("DEPTH " + depth + ", " + size + " lamps", x.put(1, 1 << size), size <= depth ? size : 0);
            }
        }
    }

    static void termsPathGoesFromHighToLow() {
        NinetyLamps x = with("w2;0>1*1");
        for (int high = 0; high < 4; high++) {
            for (int low = 0; low < 4; low++) {
                int answer = (high & low) != 0 ? NONE : high == 1 && low == 2 ? 1 : 0;
                due("put(" + high + ", " + low + ")", x.put(high, low), answer);
            }
        }
    }

    static void termsWiresBetweenAreLetGo() {
        NinetyLamps x = with("w4;0>1*1;1>2*1;2>3*1");
        x.set(1, 3);
        x.put(1, 8);
        due("both let go", x.glows(), 7);
        x.put(1 | 2, 8);
        due("the first high", x.glows(), 6);
        x.put(1, 8 | 2);
        due("the first low", x.glows(), 1);
        x.put(1 | 4, 8);
        due("the second high", x.glows(), 4);
        x.put(1, 8 | 4);
        due("the second low", x.glows(), 3);
    }

    static void termsNoWireComesTwice() {
        NinetyLamps x = with("w4;0>1*1;1>0*1;1>2*1;2>1*1;2>3*1");
        x.set(1, 3);
        x.set(0, 20);
        x.put(1, 8);
        due("there and not back", x.glows(), 0b10101);
        due("one path", x.light(2), WHOLE * 17 / 5);
        row(x, 1, WHOLE * 17 / 5);
        NinetyLamps touching = with("w4;0>1*1;1>2*1;2>3*1");
        touching.set(1, 3);
        touching.set(2, 75);
        due("1 and 2 touch: two lamps alone, 3 by 4", touching.would(8, 1, 8), 5);
        touching.set(2, 76);
        due("not by the three as well", touching.would(8, 1, 8), 0);
    }

    static void termsPathCarriesIfSupplyIsAboveTheSum() {
        for (int volts = 1; volts <= 9; volts++) {
            NinetyLamps x = with("0>1*" + volts);
            x.set(0, volts);
            due("SUPPLY is the sum", x.put(1, 2), 0);
            due("nothing", x.light(0), 0);
            x.set(0, volts + 1);
            due("SUPPLY is above the sum", x.put(1, 2), 1);
            due("one by three", x.light(0), WHOLE / 3);
        }
        NinetyLamps three = with("0>1*9;1>2*9;2>3*1");
        three.set(1, 3);
        three.set(0, 19);
        due("three lamps, 19", three.put(1, 8), 0);
        three.set(0, 20);
        due("three lamps, 20", three.put(1, 8), 3);
        NinetyLamps more = with("0>1*9;1>2*9;2>3*2");
        more.set(1, 3);
        more.set(0, 20);
        due("20 is not above 20", more.put(1, 8), 0);
    }

    static void termsPathCarriesWholeNumbers() {
        for (int first = 0; first <= 4; first++) {
            for (int last = 0; last <= 4; last++) {
                for (int size = 1; size <= 3; size++) {
                    NinetyLamps x = with("0>1*1;1>2*1;2>3*1;r0," + first + ";r" + size + "," + last);
                    x.set(1, 3);
                    x.put(1, 1 << size);
                    int parts = first + last + size;
                    due(parts + " parts", x.light(0) * parts, WHOLE * (5 - size));
                }
            }
        }
    }

    static void termsOhmsOfWiresBetweenDoNotCount() {
        NinetyLamps x = with("0>1*1;1>2*1;2>3*1;r1,4;r2,4;r0,0;r3,0");
        x.set(1, 3);
        x.put(1, 8);
        due("2 by 3", x.light(1), WHOLE * 2 / 3);
    }

    static void termsLampGlowsIfLightIsAboveZero() {
        NinetyLamps x = with("r0,4;r3,4;0>1*9;1>2*9;2>3*1;3>2*1");
        x.set(0, 20);
        x.set(1, 3);
        due("the least light there is", x.put(1, 8), 3);
        due("one by eleven", x.light(0), WHOLE / 11);
        due("the lamp without light", x.glows(), 7);
    }

    static void termsLampGlowsAtFaintHundredths() {
        for (int parts = 1; parts <= 9; parts++) {
            int first = Math.min(4, parts - 1);
            NinetyLamps x = with("0>1*4;r0," + first + ";r1," + (parts - 1 - first));
            int faint = Math.min(99, 100 / parts);
            x.set(2, faint);
            due("FAINT " + faint + ", one by " + parts, x.put(1, 2), 1);
            if (faint < 99) {
                x.set(2, faint + 1);
                due("FAINT " + (faint + 1) + ", one by " + parts, x.put(1, 2), 0);
                due("LIGHT all the same", x.light(0), WHOLE / parts);
            }
        }
    }

    /** As near to the edge as light comes: so many volts left, by so many ohms and a lamp. */
    static void termsLampGlowsAtFaintHundredthsOfMoreVolts() {
        for (int parts = 2; parts <= 9; parts++) {
            int first = Math.min(4, parts - 1);
            NinetyLamps x = with("0>1*1;r0," + first + ";r1," + (parts - 1 - first));
            for (int volts = 1; volts < parts; volts++) {
                int faint = 100 * volts / parts;
                x.set(0, volts + 1);
                x.set(2, faint);
                due("FAINT " + faint + ", " + volts + " by " + parts, x.put(1, 2), 1);
                x.set(2, faint + 1);
                due("FAINT " + (faint + 1) + ", " + volts + " by " + parts, x.put(1, 2), 0);
            }
        }
    }

    static void termsFaintIsComparedWithAllLightOfALamp() {
        NinetyLamps x = with("0>1*1;1>2*2;1>2*2;1>2*2");
        x.set(2, 51);
        x.put(1, 4);
        due("three halves together, a half each", x.glows(), 1);
        x.set(2, 50);
        due("a half", x.glows(), 15);
    }

    static void termsAskedForGoesFromHighToLow() {
        NinetyLamps x = with("0>1*1;0>2*1;2>1*1;1>0*1;0>1*9");
        x.put(1, 2);
        due("GLOW", x.glows(), 7);
        due("not asked for, but GLOW", x.ghosts(), 6);
        x.put(1, 6);
        due("GLOW", x.glows(), 3);
        due("both asked for", x.ghosts(), 0);
        x.put(5, 2);
        due("GLOW", x.glows(), 5);
        due("both asked for", x.ghosts(), 0);
    }

    static void termsFirstLampIsAGhostToo() {
        NinetyLamps x = with("1>2*1;0>1*1");
        x.put(1, 4);
        due("neither goes from high to low", x.ghosts(), 3);
        NinetyLamps wide = with("w10;8>9*1;7>8*1");
        wide.put(128, 512);
        due("WIDE 10", wide.ghosts(), 3);
    }

    static void termsAskedForAndOnAPathOfOthersIsNoGhost() {
        NinetyLamps x = with("0>1*1;1>2*1;0>2*9");
        x.put(1, 4);
        due("what does not GLOW is no GHOST", x.ghosts(), 3);
        x.put(1 | 2, 4);
        due("asked for", x.ghosts(), 0);
        due("GLOWS", x.glows(), 2);
    }

    static void termsSettingShowsJustTheseLamps() {
        NinetyLamps x = with("w3;0>1*1;0>1*1;0>2*1");
        due("one too few", x.shows(1), -2);
        due("just these", x.shows(3), 15);
        due("one too many", x.shows(7), 17);
        due("none", x.shows(0), 0);
    }

    static void termsSettingsAreNumberedWithBaseThree() {
        int power = 1;
        for (int wide = 2; wide <= 7; wide++) {
            for (int a = 0; a < wide; a++) {
                for (int b = 0; b < wide; b++) {
                    if (a != b) {
                        NinetyLamps x = with("w" + wide + ";" + a + ">" + b + "*1");
                        int number = (int) (Math.pow(3, wide - 1 - a) + 2 * Math.pow(3, wide - 1 - b));
                        due(a + ">" + b + " of " + wide, x.shows(1), number);
                        row(x, 1 << a, 1 << b, power);
                    }
                }
            }
            power *= 3;
        }
    }

    static void termsFirstAndLastSetting() {
        NinetyLamps x = with("w2");
        due("all let go", x.shows(0), 0);
        row(x, 0, 0, 9);
        NinetyLamps most = with("w7");
        due("all let go", most.shows(0), 0);
        row(most, 0, 0, 2187);
        NinetyLamps last = with("w7", "0>6*1;1>6*1;2>6*1;3>6*1;4>6*1;5>6*1");
        due("five wires high, the last one low", last.shows(63), 2187 / 3 + 243 + 81 + 27 + 9 + 3 + 2);
        NinetyLamps first = with("w7", "6>0*1;6>1*1;6>2*1;6>3*1;6>4*1;6>5*1");
        due("all low but the last, high", first.shows(63), 2187 - 2);
    }

    // ---- pictures, turns

    static void termsPicturesAreFourAndEmptyAtFirst() {
        NinetyLamps x = with("0>1*9");
        for (int i = 0; i < 4; i++) {
            due("never(" + i + ")", x.never(i), 0);
            due("parted(" + i + ")", x.parted(i), 0);
            due("picture(" + i + ", 1)", x.picture(i, 1), 1);
        }
        due("PICTURE 4", x.never(4), NONE);
        due("PICTURE -1", x.never(-1), NONE);
    }

    static void termsTurnHasSomethingThatGlows() {
        NinetyLamps x = with("w2;0>1*9");
        x.picture(0, 1);
        due("settings without light are no turns", x.parted(0), -2);
        x.set(0, 10);
        due("one is", x.parted(0), 1);
        row(x, 5);
    }

    static void termsTurnHasNothingOutsideItsPicture() {
        NinetyLamps x = with("w2;0>1*1;0>1*1");
        x.picture(0, 1);
        due("lamp 1 glows too", x.parted(0), -2);
        x.picture(0, 3);
        due("both are of it", x.parted(0), 1);
    }

    static void termsTurnHasNoGhost() {
        NinetyLamps x = with("w3;0>1*1;1>2*1");
        x.picture(0, 3);
        due("both at once only as ghosts", x.parted(0), 2);
        row(x, 5, 15);
        NinetyLamps both = with("w3;0>1*1;1>2*1;0>2*1");
        both.picture(0, 7);
        due("the asked one has ghosts beside it", both.parted(0), 2);
        row(both, 5, 17);
    }

    // ---- faults

    static void termsFaultsAreNumbered() {
        NinetyLamps x = addLamps(with("w10"), 60);
        due("all", x.faults(), 116);
        int fault = 1;
        for (int wire = 0; wire < 10; wire++, fault++) {
            due("CUT", faultOf(x, fault, 0), 1);
            due("WIRE", faultOf(x, fault, 1), wire);
        }
        for (int a = 0; a < 10; a++) {
            for (int b = a + 1; b < 10; b++, fault++) {
                due("TOUCH", faultOf(x, fault, 0), 2);
                due("a", faultOf(x, fault, 1), a);
                due("b", faultOf(x, fault, 2), b);
            }
        }
        for (int lamp = 0; lamp < 60; lamp++, fault++) {
            due("TURNED", faultOf(x, fault, 0), 3);
            due("LAMP", faultOf(x, fault, 1), lamp);
        }
        due("behind the last", faultOf(x, fault, 0), THROWN);
    }

    static void termsCutWireHasNoLampAndIsLetGo() {
        NinetyLamps x = with("w4;0>1*1;1>2*1;0>3*1;3>2*1");
        due("none", x.would(0, 1, 4), 15);
        due("the high one", x.would(1, 1, 4), 0);
        due("one between", x.would(2, 1, 4), 12);
        due("the low one", x.would(3, 1, 4), 0);
        due("the other between", x.would(4, 1, 4), 3);
        due("a low one of two", x.would(2, 1, 6), 12);
        due("a high one of two", x.would(4, 9, 4), 3);
    }

    static void termsTouchOfHighAndLowIsDark() {
        NinetyLamps x = with("w4;0>1*1;2>3*1");
        due("none", x.would(0, 5, 10), 3);
        due("0 and 1: high and low", x.would(5, 5, 10), 0);
        due("0 and 2: both high", x.would(6, 5, 10), 3);
        due("0 and 3: high and low", x.would(7, 5, 10), 0);
        due("1 and 2: low and high", x.would(8, 5, 10), 0);
        due("1 and 3: both low", x.would(9, 5, 10), 3);
        due("0 and 1: high and let go", x.would(5, 1, 8), 0);
        due("2 and 3: not 0 and 1", x.would(10, 1, 2), 1);
    }

    static void termsTouchDrivesBoth() {
        NinetyLamps x = with("w4;0>2*1;1>2*1;2>3*1");
        x.set(1, 1);
        due("a high: lamps of b as well", x.would(5, 1, 4), 3);
        due("b high: lamps of a as well", x.would(5, 2, 4), 3);
        due("both high", x.would(5, 3, 4), 3);
        due("both let go", x.would(5, 4, 8), 4);
        due("a low", x.would(10, 3, 4), 3);
        due("b low: 2 and 3 touch", x.would(10, 3, 8), 3);
        due("the lamp between them", x.would(10, 4, 0), 0);
    }

    static void termsTouchLeadsThroughWiresLetGo() {
        NinetyLamps x = with("w4;0>1*1;2>3*1");
        due("none", x.would(0, 1, 8), 0);
        due("1 and 2 touch", x.would(8, 1, 8), 3);
        x.set(1, 1);
        due("two lamps", x.would(8, 1, 8), 0);
    }

    static void termsTouchHasOhmsOfTheWireThatIsHighOrLow() {
        NinetyLamps x = with("w3;r0,0;r1,4;r2,0;0>2*1;1>2*1");
        x.set(2, 81);
        due("a is high: 4 by 1", x.would(4, 1, 4), 3);
        due("both are: 4 by 1, of a", x.would(4, 3, 4), 3);
        due("b is high: 4 by 5", x.would(4, 2, 4), 0);
        x.set(2, 80);
        due("b is high: 4 by 5", x.would(4, 2, 4), 3);
        NinetyLamps low = with("w3;r0,0;r1,4;r2,0;2>0*1;2>1*1");
        low.set(2, 81);
        due("a is low: 4 by 1", low.would(4, 4, 1), 3);
        due("both are: 4 by 1, of a", low.would(4, 4, 3), 3);
        due("b is low: 4 by 5", low.would(4, 4, 2), 0);
        low.set(2, 80);
        due("b is low: 4 by 5", low.would(4, 4, 2), 3);
    }

    static void termsTouchOfHighWiresIsNoWireBetween() {
        NinetyLamps x = with("w4;0>2*1;1>3*1");
        due("1 and 2 touch: from 0 to 1, both high", x.would(8, 3, 8), 2);
        due("1 and 2 touch: 2 is high", x.would(8, 5, 8), 2);
        due("1 and 2 touch: let go", x.would(8, 1, 8), 3);
        due("1 and 2 touch: 2 is low", x.would(8, 1, 12), 1);
        due("1 and 2 touch: 1 is low", x.would(8, 1, 10), 1);
    }

    static void termsLampBetweenWiresThatTouchNeverGlows() {
        NinetyLamps x = with("w3;0>1*1;1>0*1;1>2*1;0>2*1");
        for (int high = 0; high < 8; high++) {
            for (int low = 0; low < 8; low++) {
                if ((high & low) == 0) {
                    due("lamps 0 and 1", x.would(4, high, low) & 3, 0);
                }
            }
        }
        due("the others", x.would(4, 1, 4), 12);
    }

    static void termsTurnedLampGoesTheOtherWay() {
        NinetyLamps x = with("w3;0>1*1;1>2*1");
        due("none", x.would(0, 1, 4), 3);
        due("lamp 0 turned", x.would(7, 1, 4), 0);
        due("lamp 0 turned", x.would(7, 2, 1), 1);
        due("lamp 0 turned", x.would(7, 2, 4), 2);
        due("lamp 0 turned: both from 1", x.would(7, 2, 5), 3);
        due("lamp 1 turned: both to 1", x.would(8, 5, 2), 3);
        due("none: 2 is high", x.would(0, 5, 2), 1);
    }

    static void termsTurnedLampIsNoLongerWhereItWas() {
        NinetyLamps x = with("w4;0>1*1;1>2*1;1>3*1");
        x.set(1, 3);
        due("lamp 1 turned: not round by it", x.would(1 + 4 + 6 + 1, 1, 8), 5);
        NinetyLamps y = with("w4;0>2*1;1>2*1;1>3*1");
        y.set(1, 3);
        due("lamp 1 turned: not through a high wire", y.would(1 + 4 + 6 + 1, 3, 8), 4);
        due("lamp 1 turned: through it, let go", y.would(1 + 4 + 6 + 1, 1, 8), 7);
    }

    // ---- the row, searches, refused calls

    static void termsRowIsEmptyAtFirst() {
        row(new NinetyLamps());
    }

    static void termsRowStaysThroughCallsThatTellNone() {
        NinetyLamps x = rich();
        x.faults();
        x.sign(0);
        x.end(0);
        tell(x, "0>1*1");
        x.set(0, 8);
        lampOf(x, 0, 0);
        x.ohms(0);
        x.sheet(2, 3, 1, 1);
        x.swap(0, 1);
        x.put(1, 2);
        x.glows();
        x.ghosts();
        x.draws(0);
        x.fits(0, 1);
        x.alone();
        x.range(1, 2);
        x.picture(0, 1);
        x.never(0);
        faultOf(x, 0, 0);
        x.would(0, 1, 2);
        x.seen(1, 2, 0);
        x.forget();
        x.judge(0);
        x.test(1, 2);
        x.keep(0);
        x.again(0);
        tell(x, "w3");
        row(x, 6, 16);
    }

    static final Call[] TELLING = {
        x -> x.light(3), x -> x.why(3), x -> x.brightest(), x -> x.shows(0), x -> x.bars(1), x -> x.most(), x -> x.sets(),
        x -> x.twins(), x -> x.parted(0), x -> x.proof(0), x -> x.changes(0), x -> x.even(0, 9), x -> x.faults(),
        x -> x.tells(1), x -> x.hidden(), x -> x.alike(0, 1), x -> x.which(), x -> x.next(), x -> x.tree(), x -> x.path(0)};

    /** The rich object with nothing seen, so that some faults agree, and a picture that can be parted. */
    static NinetyLamps telling() {
        NinetyLamps x = rich();
        x.forget();
        x.forget();
        x.forget();
        x.set(1, 1);
        x.put(1, 30);
        x.picture(0, 1);
        return x;
    }

    static void termsRowIsToldAnew() {
        for (int k = 0; k < TELLING.length; k++) {
            NinetyLamps x = telling();
            long answer = TELLING[k].on(x);
            due("call " + k + " tells a row", answer >= 0, true);
            NinetyLamps y = telling();
            y.which();
            due("a long row", y.count(7), 8);
            due("call " + k, TELLING[k].on(y), answer);
            due("call " + k + ": numbers", y.count(7), x.count(7));
            for (int n = 0; n < 8; n++) {
                due("call " + k + ": row(" + n + ")", rowOf(y, n), rowOf(x, n));
            }
        }
    }

    static void termsTellingChangesTheRowAlone() {
        for (int k = 0; k < TELLING.length; k++) {
            Call call = TELLING[k];
            leaves("call " + k + " once more", () -> {
                NinetyLamps x = telling();
                call.on(x);
                return x;
            }, call, call.on(telling()));
        }
    }

    static void termsSearchesNeedWideSevenAtMost() {
        String[] names = {
            "shows", "bars", "most", "sets", "fits", "alone", "twins", "parted", "proof", "never", "changes", "even",
            "tells", "hidden", "alike", "next"};
        Call[] calls = {
            x -> x.shows(0), x -> x.bars(0), x -> x.most(), x -> x.sets(), x -> x.fits(0, 1), x -> x.alone(),
            x -> x.twins(), x -> x.parted(0), x -> x.proof(0), x -> x.never(0), x -> x.changes(0), x -> x.even(0, 9),
            x -> x.tells(0), x -> x.hidden(), x -> x.alike(0, 1), x -> x.next()};
        for (int k = 0; k < calls.length; k++) {
            for (int wide = 2; wide <= 10; wide++) {
                NinetyLamps x = with("w" + wide + ";0>1*1;1>0*1");
                long answer = calls[k].on(x);
                due(names[k] + " of " + wide + " is refused", answer == -3, wide > 7);
                due(names[k] + " of " + wide + " is an answer", answer >= 0, wide <= 7);
            }
            Call call = calls[k];
            leaves(names[k], () -> with("w8;0>1*1;1>0*1"), call::on, -3);
        }
    }

    static void termsOtherCallsNeedNoSuchWide() {
        NinetyLamps x = with("w10;9>8*1;8>9*1");
        due("put", x.put(512, 256), 1);
        due("light", x.light(0), WHOLE * 4 / 3);
        due("why", x.why(0), WHOLE * 4 / 3);
        due("brightest", x.brightest(), 0);
        due("range", x.range(512, 256), 0b111111111111111111100);
        due("would", x.would(0, 512, 256), 1);
        due("seen", x.seen(512, 256, 0), 1);
        due("which: 8 or 9 cut, both touch, lamp 0 turned", x.which(), 4);
        due("judge", x.judge(0), 0);
        due("test", x.test(512, 256), 0);
        due("tree", x.tree(), 0);
        due("path", x.path(9), 0);
    }

    static void termsRefusedCallThatReadsTheTextEmptiesIt() {
        NinetyLamps x = rich();
        write(x, "0>1*1;x");
        due("board()", x.board(), -7);
        due("THE TEXT is empty", x.count(8), 0);
        due("board() again", x.board(), 0);
    }
}
