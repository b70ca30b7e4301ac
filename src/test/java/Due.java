import java.nio.charset.StandardCharsets;
import java.util.NoSuchElementException;

/** What the tests by hand share: telling texts, and comparing answers with those that are due. */
final class Due {
    static final int THROWN = -99;

    private int wrong;
    private String part = "";

    void part(String name) {
        part = name;
    }

    void is(String call, long got, long want) {
        if (got != want) {
            wrong++;
            System.out.println(part + ": " + call + " answered " + got + ", due is " + want);
        }
    }

    boolean isFine() {
        return wrong == 0;
    }

    void finish(String what) {
        System.out.println(wrong == 0 ? what + ": all answers are as due" : wrong + " answers are not as due");
        if (wrong != 0) {
            System.exit(1);
        }
    }

    static void feed(LateBinder x, String text) {
        byte[] bytes = text.getBytes(StandardCharsets.ISO_8859_1);
        int had = x.count(10);
        for (int i = 0; i < bytes.length; i += 24) {
            long[] words = new long[3];
            for (int k = 0; k < 24; k++) {
                int b = i + k < bytes.length ? bytes[i + k] & 255 : 0;
                words[k / 8] = words[k / 8] << 8 | b;
            }
            x.feed(words[0], words[1], words[2]);
        }
        x.end(had + bytes.length);
    }

    static int tell(LateBinder x, String text) {
        feed(x, text);
        return x.board();
    }

    /** A new object with this board; LINES of the text are told without a FAULT. */
    LateBinder board(String text) {
        LateBinder x = new LateBinder();
        int lines = (int) text.chars().filter(c -> c == ';').count();
        is("board() of " + text, tell(x, text), lines);
        return x;
    }

    /** The text has a FAULT of this kind where its | stands; nothing of it is kept but an empty TAPE. */
    void fault(int kind, String marked) {
        fault(kind, marked.indexOf('|'), marked.replace("|", ""));
    }

    void fault(int kind, int place, String text) {
        LateBinder x = new LateBinder();
        is("board() of " + text, tell(x, text), -2 - (8 * place + kind));
        is("count(10)", x.count(10), 0);
        is("count(0)", x.count(0), 0);
        is("count(1)", x.count(1), 0);
    }

    /** Two moments, or two objects, of which all that can be asked is the same. */
    void alike(String call, Snapshot got, Snapshot want) {
        String difference = got.differenceFrom(want);
        if (!difference.isEmpty()) {
            wrong++;
            System.out.println(part + ": behind " + call + " " + difference);
        }
    }

    static int find(LateBinder x, String word, int what) {
        feed(x, word);
        return x.find(what);
    }

    static int log(LateBinder x, int i, int what) {
        try {
            return x.log(i, what);
        } catch (NoSuchElementException e) {
            return THROWN;
        }
    }

    /** The latest rows of the LOG, the oldest of them first: which, DEVICE, what with it. */
    void logEnds(LateBinder x, int... cells) {
        int rows = cells.length / 3;
        for (int i = 0; i < rows; i++) {
            for (int what = 0; what < 3; what++) {
                is("log(" + (rows - 1 - i) + ", " + what + ")", log(x, rows - 1 - i, what), cells[3 * i + what]);
            }
        }
    }

    /** STATES of all DEVICES as digits. */
    void states(LateBinder x, String digits) {
        for (int d = 0; d < digits.length(); d++) {
            is("device(" + d + ", 0)", x.device(d, 0), digits.charAt(d) - '0');
        }
    }

    /** The ROW, in order. */
    void row(LateBinder x, int... devices) {
        is("count(5)", x.count(5), devices.length);
        for (int i = 0; i < devices.length; i++) {
            is("device(" + devices[i] + ", 5)", x.device(devices[i], 5), i);
        }
    }

    void reason(LateBinder x, int d, int why, int with) {
        is("device(" + d + ", 3)", x.device(d, 3), why);
        is("device(" + d + ", 4)", x.device(d, 4), with);
    }

    void wanted(LateBinder x, int d, int many, int bits) {
        is("wanted(" + d + ", 0)", x.wanted(d, 0), many);
        is("wanted(" + d + ", 1)", x.wanted(d, 1), bits);
    }

    void ring(LateBinder x, int... devices) {
        int d = devices[0];
        is("ring(" + d + ", NONE)", x.ring(d, -1), devices.length);
        for (int i = 0; i < devices.length; i++) {
            is("ring(" + d + ", " + i + ")", x.ring(d, i), devices[i]);
        }
        is("ring(" + d + ", behind)", x.ring(d, devices.length), -1);
    }

    void order(LateBinder x, int... devices) {
        int d = devices[devices.length - 1];
        for (int i = 0; i < devices.length; i++) {
            is("order(" + d + ", " + i + ")", x.order(d, i), devices[i]);
        }
        is("order(" + d + ", behind)", x.order(d, devices.length), -1);
    }
}
