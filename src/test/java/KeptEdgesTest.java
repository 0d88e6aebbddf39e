/** Promises 46 to 49, kept: the edges that each names, and what a refused call leaves. */
public final class KeptEdgesTest extends Bench {
    static final int MIN = Integer.MIN_VALUE;
    static final int MAX = Integer.MAX_VALUE;

    public static void main(String[] args) {
        runTests(KeptEdgesTest.class);
    }

    static void promise46TwoNumbers() {
        due("keep(0)", rich().keep(0), true);
        due("keep(1)", rich().keep(1), true);
        for (int i : new int[] {-1, 2, MIN, MAX}) {
            leaves("keep(" + i + ")", x -> bit(x.keep(i)), 0);
        }
    }

    static void promise46KeptAnew() {
        NinetyLamps x = with("w2;0>1*1");
        x.keep(0);
        x.keep(1);
        x.put(1, 2);
        x.keep(0);
        x.put(2, 1);
        due("again(0)", x.again(0), true);
        due("HIGH, as kept last", x.count(3), 1);
        due("again(1)", x.again(1), true);
        due("HIGH, as kept there", x.count(3), 0);
    }

    static void promise46WhatIsKeptStaysAsItWas() {
        NinetyLamps x = with("w3;0>1*1;1>2*2");
        x.picture(0, 1);
        x.seen(1, 2, 1);
        x.keep(0);
        x.again(0);
        x.swap(0, 1);
        x.sheet(2, 2, 7, 1);
        tell(x, "2>0*3");
        x.picture(0, 6);
        x.forget();
        x.seen(0, 0, 4);
        x.put(1, 6);
        due("again(0)", x.again(0), true);
        due("LAMPS", x.count(1), 2);
        int[] dues = {0, 1, 1, 1, 2, 2};
        for (int k = 0; k < 6; k++) {
            due("lamp(" + k / 3 + ", " + k % 3 + ")", lampOf(x, k / 3, k % 3), dues[k]);
        }
        due("HIGH", x.count(3), 0);
        due("LOW", x.count(4), 0);
        due("SEEN", x.judge(0), -2);
        x.set(0, 1);
        due("PICTURE", x.never(0), 1);
    }

    static void promise47AllThatWasKept() {
        NinetyLamps x = with("w5;3>4*7;4>2*9;2>1*3");
        x.put(9, 22);
        for (int i = 0; i < 4; i++) {
            x.picture(i, i + 1);
        }
        x.seen(0, 0, 0);
        x.seen(1, 2, 4);
        x.keep(1);
        tell(x, "0>1*1");
        x.swap(0, 2);
        x.sheet(3, 0, 0, 0);
        x.put(0, 0);
        for (int i = 0; i < 4; i++) {
            x.picture(i, 8);
        }
        x.forget();
        x.seen(0, 0, 8);
        x.seen(0, 0, 1);
        due("again(1)", x.again(1), true);
        int[] dues = {3, 4, 7, 4, 2, 9, 2, 1, 3};
        for (int k = 0; k < 9; k++) {
            due("lamp(" + k / 3 + ", " + k % 3 + ")", lampOf(x, k / 3, k % 3), dues[k]);
        }
        due("LAMPS", x.count(1), 3);
        due("HIGH", x.count(3), 9);
        due("LOW", x.count(4), 22);
        due("SEEN", x.count(5), 2);
        due("the second does not agree", x.judge(0), 1);
        x.set(0, 1);
        for (int i = 0; i < 4; i++) {
            due("PICTURE " + i, x.never(i), i + 1);
        }
    }

    static void promise47NothingKept() {
        leaves("again(0)", NinetyLamps::new, x -> bit(x.again(0)), 0);
        leaves("again(1)", NinetyLamps::new, x -> bit(x.again(1)), 0);
        leaves("again(1), 0 is kept", () -> {
            NinetyLamps x = with("w3;0>1*1");
            x.keep(0);
            x.put(1, 2);
            return x;
        }, x -> bit(x.again(1)), 0);
        leaves("again(0), 1 is kept", () -> {
            NinetyLamps x = with("w3;0>1*1");
            x.keep(1);
            x.put(1, 2);
            return x;
        }, x -> bit(x.again(0)), 0);
    }

    static void promise47NoOtherNumber() {
        for (int i : new int[] {-1, 2, MIN, MAX}) {
            leaves("again(" + i + ")", x -> bit(x.again(i)), 0);
        }
    }

    static void promise47WWasToldSince() {
        for (int number = 0; number <= 1; number++) {
            int i = number;
            leaves("again(" + i + ") behind w", () -> {
                NinetyLamps x = rich();
                tell(x, "w5;0>1*1");
                return x;
            }, x -> bit(x.again(i)), 0);
            leaves("again(" + i + ") behind a lamp and w", () -> {
                NinetyLamps x = rich();
                tell(x, "0>1*1;w4");
                return x;
            }, x -> bit(x.again(i)), 0);
        }
    }

    static void promise47WThatDidNotComeIsNotTold() {
        NinetyLamps x = rich();
        tell(x, "w5;x");
        due("again(0)", x.again(0), true);
        tell(x, "w11");
        due("again(1)", x.again(1), true);
        tell(x, "r0,1;0>1*1");
        due("lines without w", x.again(0), true);
        write(x, "w5");
        due("a text that was not read", x.again(0), true);
    }

    static void promise47KeptBehindW() {
        NinetyLamps x = rich();
        tell(x, "w3;0>1*1");
        due("keep(1)", x.keep(1), true);
        tell(x, "1>2*1");
        due("again(0)", x.again(0), false);
        due("again(1)", x.again(1), true);
        due("LAMPS", x.count(1), 1);
    }

    static void promise47TestsAndLimitsAreNotKept() {
        NinetyLamps x = rich();
        x.set(0, 20);
        x.set(1, 1);
        x.set(2, 50);
        tell(x, "r0,4");
        x.test(0, 0);
        x.faults();
        due("again(0)", x.again(0), true);
        due("SUPPLY", x.count(2), 20);
        due("ohms(0)", x.ohms(0), 4);
        due("tests", x.count(6), 4);
        due("DEPTH", x.set(1, 2), 1);
        due("FAINT", x.set(2, 2), 50);
        row(x, 6, 16);
    }

    static void promise47FullAndEmpty() {
        NinetyLamps x = new NinetyLamps();
        x.keep(0);
        addLamps(x, 60);
        see(x, 12);
        x.picture(3, (1L << 60) - 1);
        x.put(1, 2);
        x.keep(1);
        due("again(0)", x.again(0), true);
        due("no LAMPS", x.count(1), 0);
        due("none SEEN", x.count(5), 0);
        due("nothing glows", x.glows(), 0);
        due("no PICTURE", x.never(3), 0);
        due("room for sixty", tell(x, "0>1*1"), 1);
        due("again(1)", x.again(1), true);
        due("sixty LAMPS", x.count(1), 60);
        due("twelve SEEN", x.count(5), 12);
        due("the 13th", x.seen(0, 0, 0), NONE);
        due("all glow", x.glows(), (1L << 60) - 1);
        due("no room", tell(x, "0>1*1"), -1);
    }

    static void promise47SearchesSeeWhatIsThereAgain() {
        NinetyLamps x = with("w3;0>1*1");
        x.keep(0);
        due("shows(1)", x.shows(1), 15);
        tell(x, "0>1*1");
        due("with another", x.shows(1), -2);
        x.again(0);
        due("shows(1)", x.shows(1), 15);
    }

    static void promise48NoOtherWhat() {
        for (int what : new int[] {-1, 9, MIN, MAX}) {
            leaves("count(" + what + ")", x -> x.count(what), NONE);
        }
        int[] dues = {5, 7, 9, 1, 22, 3, 3, 2, 5};
        for (int what = 0; what < dues.length; what++) {
            int w = what;
            leaves("count(" + what + ")", x -> x.count(w), dues[what]);
        }
    }

    static void promise48FullCounts() {
        NinetyLamps x = addLamps(with("w10"), 60);
        x.set(0, 20);
        x.put(512, 511);
        see(x, 12);
        for (int k = 0; k < 8; k++) {
            x.test(0, 0);
        }
        x.which();
        write(x, "w2;".repeat(26) + "w2");
        int[] dues = {10, 60, 20, 512, 511, 12, 8, 8, 80};
        for (int what = 0; what < dues.length; what++) {
            due("count(" + what + ")", x.count(what), dues[what]);
        }
    }

    static void promise49NumbersOfTheRow() {
        NinetyLamps x = rich();
        due("row(0)", rowOf(x, 0), 1);
        due("row(1)", rowOf(x, 1), WHOLE * 4 / 5);
        for (int i : new int[] {-1, 2, MIN, MAX}) {
            leaves("row(" + i + ")", y -> rowOf(y, i), THROWN);
        }
        leaves("of an empty one", NinetyLamps::new, y -> rowOf(y, 0), THROWN);
    }

    static void promise49RowThatIsShorterThanTheLast() {
        NinetyLamps x = with("w4;0>1*1");
        x.which();
        due("row(7)", rowOf(x, 7), 7);
        x.light(0);
        due("row(1)", rowOf(x, 1), 0);
        due("row(2)", rowOf(x, 2), THROWN);
        x.tells(0);
        due("row(0)", rowOf(x, 0), THROWN);
    }

    static void promise49RowThatIsTold() {
        NinetyLamps x = rich();
        x.faults();
        leaves("row(0)", y -> rowOf(y, 0), 1);
        due("row(0)", rowOf(x, 0), 6);
        due("row(1)", rowOf(x, 1), 16);
        due("row(2)", rowOf(x, 2), THROWN);
    }
}
