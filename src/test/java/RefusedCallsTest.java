import java.util.function.ToIntFunction;

/**
 * What is refused changes nothing but the TAPE, questions change nothing: two objects come to stand
 * alike, the one is called, and then all that can be asked of both is the same.
 */
public final class RefusedCallsTest {
    private static final Due due = new Due();
    private static final int MAX = Integer.MAX_VALUE;
    private static final int MIN = Integer.MIN_VALUE;
    private static final int[] NO_DEVICES = {MIN, -32, -1, 6, 7, 11, 12, 32, 33, MAX};
    private static final int[] NO_DRIVERS = {MIN, -32, -1, 5, 6, 7, 8, 32, 33, MAX};

    private static final int BOUND = 0;
    private static final int CONSUMER = 1;
    private static final int DEFERRED = 2;
    private static final int AWAY = 3;
    private static final int IDLE = 4;
    private static final int AWAY_BELOW_AWAY = 5;
    private static final int LOADED = 0;
    private static final int NOT_LOADED = 3;

    public static void main(String[] args) {
        standsAsTold();
        noSuchDevice();
        noSuchDriver();
        refusedByState();
        refusedByDriver();
        tapeRefused();
        questionsOfAll();
        questionsOfOthers();
        questionsBetweenCalls();
        trialsLeaveNoTrace();
        due.finish("RefusedCallsTest");
    }

    /** One DEVICE of each STATE, a LINK that is only remembered, rows in the LOG, a WORD on the TAPE. */
    private static LateBinder stand() {
        LateBinder x = due.board("device a :a;device b :b needs u;device c :c needs w;device d :d in c;device e :e;device f :f in d;"
            + "driver p :a give u map 5 line 2;driver q :b;driver r :c;driver s :e or :c;driver t :zz get u;");
        for (int r : new int[] {0, 1, 2, 4}) {
            x.load(r);
        }
        for (int d : new int[] {BOUND, CONSUMER, DEFERRED, IDLE}) {
            x.add(d);
        }
        x.bind(IDLE, 4);
        x.unbind(IDLE);
        Due.feed(x, "e");
        return x;
    }

    private static void standsAsTold() {
        due.part("what the tests stand on");
        LateBinder x = stand();
        due.states(x, "332010");
        due.is("LOADED", x.count(6), 0b10111);
        due.is("LINKS", x.count(7), 2);
        due.is("SYNCED", x.count(8), 1);
        due.is("LOG", x.count(9) > 0 ? 1 : 0, 1);
        due.is("TAPE", x.count(10), 1);
        due.alike("nothing", Snapshot.of(x), Snapshot.of(stand()));
    }

    private static void refused(String call, ToIntFunction<LateBinder> how, int want) {
        LateBinder x = stand();
        due.is(call, how.applyAsInt(x), want);
        due.alike(call, Snapshot.of(x), Snapshot.of(stand()));
        due.is("find(0) behind " + call, x.find(0), IDLE);
    }

    private static void noSuchDevice() {
        due.part("5 to 12: no such DEVICE");
        for (int d : NO_DEVICES) {
            refused("add(" + d + ")", x -> x.add(d), -1);
            refused("remove(" + d + ")", x -> x.remove(d), -1);
            refused("unbind(" + d + ")", x -> x.unbind(d), -1);
            refused("bind(" + d + ", LOADED)", x -> x.bind(d, LOADED), -1);
            refused("forget(" + d + ")", x -> x.forget(d), -1);
        }
    }

    private static void noSuchDriver() {
        due.part("7, 8, 10: no such DRIVER");
        for (int r : NO_DRIVERS) {
            refused("load(" + r + ")", x -> x.load(r), -1);
            refused("unload(" + r + ")", x -> x.unload(r), -1);
            refused("bind(IDLE, " + r + ")", x -> x.bind(IDLE, r), -1);
            refused("bind(" + r + ", " + r + ")", x -> x.bind(r == 5 ? 6 : r, r), -1);
        }
    }

    private static void refusedByState() {
        due.part("5 add: it is not AWAY, its PARENT is");
        refused("add(BOUND)", x -> x.add(BOUND), -1);
        refused("add(CONSUMER)", x -> x.add(CONSUMER), -1);
        refused("add(DEFERRED)", x -> x.add(DEFERRED), -1);
        refused("add(IDLE)", x -> x.add(IDLE), -1);
        refused("add(AWAY_BELOW_AWAY)", x -> x.add(AWAY_BELOW_AWAY), -1);
        due.part("6 remove: it is AWAY");
        refused("remove(AWAY)", x -> x.remove(AWAY), -1);
        refused("remove(AWAY_BELOW_AWAY)", x -> x.remove(AWAY_BELOW_AWAY), -1);
        due.part("9 unbind: it is not BOUND");
        refused("unbind(DEFERRED)", x -> x.unbind(DEFERRED), -1);
        refused("unbind(AWAY)", x -> x.unbind(AWAY), -1);
        refused("unbind(IDLE)", x -> x.unbind(IDLE), -1);
        due.part("10 bind: it is not IDLE nor DEFERRED");
        refused("bind(BOUND)", x -> x.bind(BOUND, LOADED), -1);
        refused("bind(CONSUMER)", x -> x.bind(CONSUMER, 1), -1);
        refused("bind(AWAY)", x -> x.bind(AWAY, LOADED), -1);
        due.part("12 forget: none to forget");
        refused("forget(BOUND)", x -> x.forget(BOUND), 0);
        refused("forget(CONSUMER)", x -> x.forget(CONSUMER), 0);
        refused("forget(AWAY)", x -> x.forget(AWAY), 0);
    }

    private static void refusedByDriver() {
        due.part("7 load: it is LOADED");
        refused("load(0)", x -> x.load(LOADED), -1);
        refused("load(4)", x -> x.load(4), -1);
        due.part("8 unload: it is not LOADED");
        refused("unload(3)", x -> x.unload(NOT_LOADED), -1);
        due.part("10 bind: the DRIVER is not LOADED");
        refused("bind(IDLE, NOT_LOADED)", x -> x.bind(IDLE, NOT_LOADED), -1);
        refused("bind(DEFERRED, NOT_LOADED)", x -> x.bind(DEFERRED, NOT_LOADED), -1);
    }

    private static void tapeRefused() {
        due.part("3 end: refused");
        for (int n : new int[] {MIN, -1, 2, 24, 648, 649, MAX}) {
            refused("end(" + n + ")", x -> x.end(n), -1);
        }
        due.part("2 feed: refused");
        LateBinder x = stand();
        LateBinder y = stand();
        for (int i = 1; i <= 26; i++) {
            due.is("feed", x.feed(0, 0, 0), 24 * i + 1);
            y.feed(0, 0, 0);
        }
        due.is("feed beyond 648", x.feed(-1, -1, -1), -1);
        due.alike("feed", Snapshot.of(x), Snapshot.of(y));
        x.end(1);
        due.is("find(0)", x.find(0), IDLE);
        due.part("4 board, 25 find: refused, the TAPE is empty then");
        tapeAlone("board() with a FAULT", z -> z.board(), -3);
        tapeAlone("find(3)", z -> z.find(3), -1);
        tapeAlone("find(-1)", z -> z.find(-1), -1);
        tapeAlone("find(1), none such", z -> z.find(1), -1);
        tapeAlone("find(0)", z -> z.find(0), IDLE);
        tapeAlone("board() of 601 bytes", z -> Due.tell(z, " ".repeat(600)), -1);
    }

    private static void tapeAlone(String call, ToIntFunction<LateBinder> how, int want) {
        LateBinder x = stand();
        due.is(call, how.applyAsInt(x), want);
        LateBinder y = stand();
        y.end(0);
        due.alike(call, Snapshot.of(x), Snapshot.of(y));
    }

    private static void questionsOfAll() {
        due.part("questions change nothing");
        for (int d = 0; d < 6; d++) {
            int n = d;
            asked("device " + d, x -> many(12, i -> x.device(n, i)));
            asked("links " + d, x -> many(7, i -> x.links(n, i)));
            asked("line " + d, x -> many(6, i -> x.line(n, i)));
            asked("would " + d, x -> many(3, i -> x.would(n, i)));
            asked("order " + d, x -> many(6, i -> x.order(n, i)));
            asked("ring " + d, x -> many(6, i -> x.ring(n, i - 1)));
            asked("wanted " + d, x -> many(2, i -> x.wanted(n, i)));
            asked("score " + d, x -> many(5, i -> x.score(i, n)));
        }
        asked("driver", x -> many(20, i -> x.driver(i / 4, i % 4)));
        asked("supply", x -> many(6, i -> x.supply(i / 3, i % 3)));
        asked("taken", x -> many(16, i -> x.taken(i)));
        asked("log", x -> many(30, i -> Due.log(x, i / 3, i % 3)));
        asked("count", x -> many(11, i -> x.count(i)));
    }

    private interface Question {
        int ask(int i);
    }

    private static int many(int times, Question question) {
        for (int i = 0; i < times; i++) {
            question.ask(i);
        }
        return 0;
    }

    private static void asked(String call, ToIntFunction<LateBinder> how) {
        refused(call, how, 0);
    }

    private static void questionsOfOthers() {
        due.part("13 to 26: refused questions change nothing");
        for (int n : new int[] {MIN, -2, -1, 12, 16, 32, 50, MAX}) {
            asked("device " + n, x -> x.device(n, 0) + 2 + x.device(0, n) + 2);
            asked("links " + n, x -> x.links(n, 0) + 1 + x.links(0, n) + 1);
            asked("driver " + n, x -> x.driver(n, 0) + 1 + x.driver(0, n) + 1);
            asked("score " + n, x -> x.score(n, 0) + 1 + x.score(0, n) + 1);
            asked("line " + n, x -> x.line(n, 0) + 1 + x.line(0, n) + 1);
            asked("would " + n, x -> x.would(n, 0) + 1 + x.would(IDLE, n) + 1);
            asked("order " + n, x -> x.order(n, 0) + 1 + x.order(0, n) + 1);
            asked("ring " + n, x -> x.ring(n, -1) + 1 + x.ring(DEFERRED, n) + 1);
            asked("wanted " + n, x -> x.wanted(n, 0) + 1 + x.wanted(IDLE, n) + 1);
            asked("supply " + n, x -> x.supply(n, 0) + 2 + x.supply(0, n) + 2);
            asked("taken " + n, x -> n == 12 ? x.taken(n) + 1 : x.taken(n) + 2);
            asked("log " + n, x -> Due.log(x, n, 0) - Due.THROWN + Due.log(x, 0, n) - Due.THROWN);
            asked("count " + n, x -> x.count(n) + 1);
        }
        asked("would of others", x -> x.would(BOUND, 0) + 1 + x.would(AWAY, 2) + 1);
        asked("wanted of others", x -> x.wanted(BOUND, 0) + 1 + x.wanted(AWAY, 1) + 1);
        asked("order of others", x -> x.order(IDLE, 0) + 1 + x.order(DEFERRED, 0) + 1 + x.order(AWAY, 0) + 1);
    }

    /** Every change is played on both; the one is asked in between what is only thought through. */
    private static void questionsBetweenCalls() {
        due.part("questions between calls change no later answer");
        LateBinder x = stand();
        LateBinder y = stand();
        for (int step = 0; step < 24; step++) {
            for (int d = 0; d < 6; d++) {
                x.would(d, 2);
                x.wanted(d, 1);
            }
            x.order(step % 6, 0);
            x.ring(step % 6, -1);
            due.is("call " + step, change(x, step), change(y, step));
        }
        due.is("the LOG", x.count(9), y.count(9));
        for (int d = 0; d < 6; d++) {
            for (int what = 0; what <= 11; what++) {
                due.is("device(" + d + ", " + what + ")", x.device(d, what), y.device(d, what));
            }
        }
    }

    private static int change(LateBinder x, int step) {
        switch (step % 12) {
            case 0:
                return x.load(3);
            case 1:
                return x.add(AWAY);
            case 2:
                return x.unbind(0);
            case 3:
                return x.rescan();
            case 4:
                return x.bind(IDLE, 4);
            case 5:
                return x.remove(1);
            case 6:
                return x.unload(0);
            case 7:
                return x.load(0);
            case 8:
                return x.add(1);
            case 9:
                return x.forget(IDLE);
            case 10:
                return x.remove(DEFERRED);
            default:
                return x.add(DEFERRED);
        }
    }

    /** A trial that binds or lets go much writes no row, takes nothing and leaves the ROW as it is. */
    private static void trialsLeaveNoTrace() {
        due.part("what would be leaves no trace");
        LateBinder x = Boards.started(due, "device a :a;device b :b needs u;device c :c in b;device d :a;"
            + "driver p :a give u map 9 line 3;driver q :b;driver r :c;driver s :a map 99 break;");
        x.unload(3);
        x.unbind(0);
        int rows = x.count(9);
        due.is("would", x.would(0, 2), 3);
        due.is("wanted: by any that makes load() TRY it", x.wanted(0, 1), 8);
        due.is("count(9)", x.count(9), rows);
        due.is("count(3)", x.count(3), 99);
        due.is("count(4)", x.count(4), 0);
        due.is("count(7)", x.count(7), 1);
        due.is("taken(3)", x.taken(3), -1);
        due.row(x, 2, 1);
        due.reason(x, 0, 0, -1);
        due.is("bind(0, 0)", x.bind(0, 0), 3);
        rows = x.count(9);
        due.is("order", x.order(0, 2), 0);
        due.is("WITH", x.links(0, 5), 7);
        due.is("count(9)", x.count(9), rows);
        due.is("count(4)", x.count(4), 7);
        due.is("taken(3)", x.taken(3), 0);
        due.is("supply(0, 0)", x.supply(0, 0), 0);
    }
}
