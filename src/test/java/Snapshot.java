import java.util.ArrayList;
import java.util.List;

/** The answers to all that can be asked of an object, so that two objects, or two moments, can be compared. */
final class Snapshot {
    /** The document leaves free what an object answers behind its 512th call. */
    private static final int CALLS_OF_AN_OBJECT = 512;

    private final List<String> calls = new ArrayList<>();
    private final List<Integer> answers = new ArrayList<>();

    private Snapshot() {
    }

    static Snapshot of(LateBinder x) {
        Snapshot all = new Snapshot();
        all.countsOf(x);
        int devices = x.count(0);
        int drivers = x.count(1);
        for (int d = 0; d < devices; d++) {
            all.device(x, d, drivers);
            all.orders(x, d, devices);
        }
        for (int r = 0; r < drivers; r++) {
            for (int what = 0; what <= 3; what++) {
                all.put("driver(" + r + ", " + what + ")", x.driver(r, what));
            }
        }
        for (int s = 0; s < x.count(2); s++) {
            for (int what = 0; what <= 2; what++) {
                all.put("supply(" + s + ", " + what + ")", x.supply(s, what));
            }
        }
        for (int n = 0; n < 16; n++) {
            all.put("taken(" + n + ")", x.taken(n));
        }
        for (int i = 0; i < x.count(9); i++) {
            for (int what = 0; what <= 2; what++) {
                all.put("log(" + i + ", " + what + ")", Due.log(x, i, what));
            }
        }
        return all;
    }

    private void countsOf(LateBinder x) {
        for (int what = 0; what <= 10; what++) {
            put("count(" + what + ")", x.count(what));
        }
    }

    private void device(LateBinder x, int d, int drivers) {
        for (int what = 0; what <= 11; what++) {
            put("device(" + d + ", " + what + ")", x.device(d, what));
        }
        for (int what = 0; what <= 6; what++) {
            put("links(" + d + ", " + what + ")", x.links(d, what));
        }
        for (int r = 0; r < drivers; r++) {
            put("score(" + r + ", " + d + ")", x.score(r, d));
            put("line(" + d + ", " + r + ")", x.line(d, r));
        }
        for (int what = 0; what <= 2; what++) {
            put("would(" + d + ", " + what + ")", x.would(d, what));
        }
        for (int what = 0; what <= 1; what++) {
            put("wanted(" + d + ", " + what + ")", x.wanted(d, what));
        }
    }

    private void orders(LateBinder x, int d, int devices) {
        put("ring(" + d + ", NONE)", x.ring(d, LateBinder.NONE));
        for (int i = 0; i < devices; i++) {
            put("order(" + d + ", " + i + ")", x.order(d, i));
            put("ring(" + d + ", " + i + ")", x.ring(d, i));
        }
    }

    private void put(String call, int answer) {
        calls.add(call);
        answers.add(answer);
    }

    /** How many calls it took to ask all this. */
    int size() {
        return calls.size();
    }

    /** The first answer that is another one there, in words; empty: none is. */
    String differenceFrom(Snapshot due) {
        if (size() + 100 > CALLS_OF_AN_OBJECT) {
            return "a board is too large to ask all of it: " + size() + " calls";
        }
        for (int i = 0; i < calls.size() && i < due.calls.size(); i++) {
            if (!calls.get(i).equals(due.calls.get(i)) || !answers.get(i).equals(due.answers.get(i))) {
                return calls.get(i) + " answers " + answers.get(i) + ", due is " + due.calls.get(i) + " "
                    + due.answers.get(i);
            }
        }
        return calls.size() == due.calls.size() ? "" : "there is more, or less, to ask";
    }
}
