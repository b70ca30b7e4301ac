import java.util.ArrayList;
import java.util.List;

/** A board and the calls made on it so far, which can be played again on a new object. */
final class Story {
    static final int ADD = 0;
    static final int REMOVE = 1;
    static final int LOAD = 2;
    static final int UNLOAD = 3;
    static final int UNBIND = 4;
    static final int BIND = 5;
    static final int RESCAN = 6;
    static final int FORGET = 7;

    private static final String[] NAMES = {"add", "remove", "load", "unload", "unbind", "bind", "rescan", "forget"};

    private final String text;
    private final List<int[]> calls = new ArrayList<>();

    Story(String text) {
        this.text = text;
    }

    LateBinder play() {
        LateBinder x = new LateBinder();
        Due.tell(x, text);
        for (int[] call : calls) {
            answer(x, call[0], call[1], call[2]);
        }
        return x;
    }

    void goOn(int which, int a, int b) {
        calls.add(new int[] {which, a, b});
    }

    static int answer(LateBinder x, int which, int a, int b) {
        switch (which) {
            case ADD:
                return x.add(a);
            case REMOVE:
                return x.remove(a);
            case LOAD:
                return x.load(a);
            case UNLOAD:
                return x.unload(a);
            case UNBIND:
                return x.unbind(a);
            case BIND:
                return x.bind(a, b);
            case RESCAN:
                return x.rescan();
            case FORGET:
                return x.forget(a);
            default:
                throw new IllegalArgumentException("no such call: " + which);
        }
    }

    @Override
    public String toString() {
        StringBuilder told = new StringBuilder(text.replace("\n", "\\n"));
        for (int[] call : calls) {
            told.append("\n  ").append(NAMES[call[0]]).append(' ').append(call[1]).append(' ').append(call[2]);
        }
        return told.toString();
    }
}
