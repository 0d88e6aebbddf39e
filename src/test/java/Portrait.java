/**
 * All that can be seen of an object, as a text. It is taken in parts, each of an object of its own:
 * taking one changes the object, and an object has but 512 calls.
 */
final class Portrait {
    static final int PARTS = 6;

    private Portrait() {
    }

    static String of(NinetyLamps x, int part) {
        StringBuilder text = new StringBuilder();
        switch (part) {
            case 0:
                numbers(x, text);
                glowing(x, text);
                limits(x, text);
                break;
            case 1:
                add(text, "board()", x.board());
                numbers(x, text);
                break;
            case 2:
                pictures(x, text);
                break;
            case 3:
                seen(x, text);
                break;
            case 4:
                tests(x, text);
                break;
            default:
                kept(x, text, 0);
                kept(x, text, 1);
                break;
        }
        return text.toString();
    }

    private static void add(StringBuilder text, String what, long answer) {
        text.append(what).append('=').append(answer).append(' ');
    }

    private static void numbers(NinetyLamps x, StringBuilder text) {
        for (int what = 0; what <= 8; what++) {
            add(text, "count" + what, x.count(what));
        }
        for (int k = 0; k < x.count(7); k++) {
            add(text, "row" + k, x.row(k));
        }
        for (int wire = 0; wire < 10; wire++) {
            add(text, "ohms" + wire, x.ohms(wire));
        }
        for (int k = 0; k < x.count(1); k++) {
            text.append(x.lamp(k, 0)).append('>').append(x.lamp(k, 1)).append('*').append(x.lamp(k, 2)).append(' ');
        }
    }

    private static void glowing(NinetyLamps x, StringBuilder text) {
        add(text, "glows", x.glows());
        add(text, "ghosts", x.ghosts());
        for (int wire = 0; wire < 10; wire++) {
            add(text, "draws" + wire, x.draws(wire));
        }
    }

    private static void limits(NinetyLamps x, StringBuilder text) {
        add(text, "supply", x.set(0, 1));
        add(text, "depth", x.set(1, 1));
        add(text, "faint", x.set(2, 0));
    }

    /** With a supply of 1 nothing glows, so what never glows of a picture is all of it. */
    private static void pictures(NinetyLamps x, StringBuilder text) {
        x.set(0, 1);
        for (int i = 0; i < 4; i++) {
            add(text, "picture" + i, x.never(i));
        }
    }

    private static void seen(NinetyLamps x, StringBuilder text) {
        x.set(0, 20);
        x.set(2, 0);
        int faults = Math.min(x.faults(), 30);
        for (int n = 0; n < 12 && x.count(5) > 0; n++) {
            for (int fault = 0; fault < faults; fault++) {
                add(text, "judge" + fault, x.judge(fault));
            }
            add(text, "forget", x.forget());
        }
    }

    private static void tests(NinetyLamps x, StringBuilder text) {
        for (int n = 0; n < 12 && x.count(5) > 0; n++) {
            x.forget();
        }
        add(text, "tree", x.tree());
        for (int fault = 0; fault < Math.min(x.faults(), 30); fault++) {
            add(text, "path", x.path(fault));
            for (int k = 0; k < x.count(7); k++) {
                add(text, "row" + k, x.row(k));
            }
        }
        for (int n = 0; n < 9; n++) {
            add(text, "test", x.test(0, 0));
        }
    }

    private static void kept(NinetyLamps x, StringBuilder text, int i) {
        int supply = x.count(2);
        add(text, "again", x.again(i) ? 1 : 0);
        if (x.count(1) <= 20) {
            numbers(x, text);
        }
        pictures(x, text);
        x.set(0, supply);
        for (int n = 0; n < 12 && x.count(5) > 0; n++) {
            add(text, "judge", x.judge(0));
            x.forget();
        }
    }
}
