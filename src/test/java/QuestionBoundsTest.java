/** The bounds of the questions (Terms, part 3; promises 13 to 24 and 26): at them, below and beyond. */
public final class QuestionBoundsTest {
    private static final Due due = new Due();
    private static final int ALL = Boards.ALL_DEVICES;
    private static final int MAX = Integer.MAX_VALUE;
    private static final int MIN = Integer.MIN_VALUE;
    /** Also such as would wrap around in a shift or a product. */
    private static final int[] FAR = {MIN, MIN + 1, -33, -32, -12, -8, -2, 32, 33, 43, 64, 1 << 16, 1 << 30, MAX - 1, MAX};

    public static void main(String[] args) {
        device();
        deviceInEachState();
        links();
        linksOfThoseNotBound();
        driver();
        score();
        line();
        would();
        wouldInEachState();
        wouldBindAll();
        order();
        ring();
        ringOfTwo();
        ringOfTwelve();
        wanted();
        wantedAllEight();
        wantedInEachState();
        wantedWithoutAPass();
        supply();
        taken();
        logBounds();
        logOfFifty();
        logAnew();
        count();
        countAtItsMost();
        high();
        lacks();
        waits();
        waitsForItsParent();
        givesOfOneDriver();
        aboveByTwoWays();
        due.finish("QuestionBoundsTest");
    }

    private static LateBinder full() {
        return Boards.started(due, Boards.full());
    }

    private static boolean within(int n, int least, int most) {
        return n >= least && n <= most;
    }

    private static void device() {
        due.part("13 device: -2, others");
        LateBinder x = full();
        for (int what = -1; what <= 12; what++) {
            boolean good = within(what, 0, 11);
            due.is("device(0, " + what + ") is answered", x.device(0, what) != -2 ? 1 : 0, good ? 1 : 0);
            due.is("device(11, " + what + ") is answered", x.device(11, what) != -2 ? 1 : 0, good ? 1 : 0);
            due.is("device(-1, " + what + ")", x.device(-1, what), -2);
            due.is("device(12, " + what + ")", x.device(12, what), -2);
        }
        for (int n : FAR) {
            due.is("device(" + n + ", 0)", x.device(n, 0), -2);
            due.is("device(0, " + n + ")", x.device(0, n), -2);
        }
        LateBinder one = due.board("device a :x;");
        due.is("device(0, 0)", one.device(0, 0), 0);
        due.is("device(1, 0)", one.device(1, 0), -2);
    }

    private static void deviceInEachState() {
        due.part("13 device: AWAY, IDLE, DEFERRED, BOUND");
        LateBinder x = Boards.started(due, "device a :a;device b :b in a;device c :c needs w;device d :d in c;device e :e in c;"
            + "driver p :a give u map 4 line 3;driver q :b get u map 3 map 2 line 0 give v;driver r :c;driver s :e;");
        x.remove(3);
        int[][] want = {
            {3, 0, -1, 0, -1, -1, 1, 0, 4, 8, 2, 0},
            {3, 1, 0, 0, -1, -1, 1, 1, 5, 1, 4, 0},
            {2, -1, -1, 2, 0, 0, 0, -1, 0, 0, 0, 1},
            {0, -1, 2, 0, -1, -1, 0, -1, 0, 0, 0, 0},
            {2, -1, 2, 1, 2, 1, 0, -1, 0, 0, 0, 0}};
        for (int d = 0; d < want.length; d++) {
            for (int what = 0; what <= 11; what++) {
                due.is("device(" + d + ", " + what + ")", x.device(d, what), want[d][what]);
            }
        }
        x.unbind(0);
        int[][] then = {{1, -1, -1, 0, -1, -1, 0, -1, 0, 0, 0, 0}, {2, -1, 0, 0, -1, 2, 0, -1, 0, 0, 0, 2}};
        for (int d = 0; d < then.length; d++) {
            for (int what = 0; what <= 11; what++) {
                due.is("LET GO, device(" + d + ", " + what + ")", x.device(d, what), then[d][what]);
            }
        }
    }

    private static void links() {
        due.part("14 links: NONE, others");
        LateBinder x = full();
        for (int what = -1; what <= 7; what++) {
            boolean good = within(what, 0, 6);
            due.is("links(0, " + what + ") is answered", x.links(0, what) != -1 ? 1 : 0, good ? 1 : 0);
            due.is("links(11, " + what + ") is answered", x.links(11, what) != -1 ? 1 : 0, good ? 1 : 0);
            due.is("links(-1, " + what + ")", x.links(-1, what), -1);
            due.is("links(12, " + what + ")", x.links(12, what), -1);
        }
        for (int n : FAR) {
            due.is("links(" + n + ", 0)", x.links(n, 0), -1);
            due.is("links(0, " + n + ")", x.links(0, n), -1);
        }
    }

    private static void linksOfThoseNotBound() {
        due.part("14 links: 0, if not BOUND");
        LateBinder x = Boards.started(due, "device a :a;device b :b needs u;device c :c in b needs u;driver p :a give u;driver q :b;driver r :c;");
        int[][] bound = {{0, 6, 0, 6, 0, 7, 0}, {1, 0, 1, 0, 1, 6, 0}, {1, 0, 1, 0, 3, 4, 0}};
        due.states(x, "333");
        same("BOUND", x, bound);
        x.unbind(0);
        int[][] free = {{0, 0, 0, 6, 0, 0, 0}, {0, 0, 1, 0, 1, 0, 1}, {0, 0, 1, 0, 3, 0, 3}};
        due.states(x, "122");
        same("IDLE and DEFERRED", x, free);
        x.remove(0);
        x.remove(1);
        int[][] away = {{0, 0, 0, 6, 0, 0, 0}, {0, 0, 1, 0, 1, 0, 0}, {0, 0, 1, 0, 3, 0, 0}};
        due.states(x, "000");
        same("AWAY", x, away);
    }

    private static void same(String state, LateBinder x, int[][] want) {
        for (int d = 0; d < want.length; d++) {
            for (int what = 0; what <= 6; what++) {
                due.is(state + ", links(" + d + ", " + what + ")", x.links(d, what), want[d][what]);
            }
        }
    }

    private static void driver() {
        due.part("15 driver");
        LateBinder x = full();
        for (int what = -1; what <= 4; what++) {
            due.is("driver(0, " + what + ")", x.driver(0, what), within(what, 0, 3) ? 1 : -1);
            due.is("driver(7, " + what + ")", x.driver(7, what), within(what, 0, 3) ? 1 : -1);
            due.is("driver(-1, " + what + ")", x.driver(-1, what), -1);
            due.is("driver(8, " + what + ")", x.driver(8, what), -1);
        }
        for (int n : FAR) {
            due.is("driver(" + n + ", 0)", x.driver(n, 0), -1);
            due.is("driver(0, " + n + ")", x.driver(0, n), -1);
        }
        LateBinder all = Boards.started(due, Boards.chain());
        due.is("12 are BOUND to it", all.driver(0, 3), 12);
        due.is("STEPS: none", all.driver(0, 1), 0);
        all.remove(6);
        due.is("6 are BOUND to it", all.driver(0, 3), 6);
        all.unload(0);
        due.is("not LOADED", all.driver(0, 0), 0);
        due.is("none is BOUND to it", all.driver(0, 3), 0);
        LateBinder most = due.board("driver p :x or :y or :z map 1 line 2 get u give v break break;");
        due.is("STEPS", most.driver(0, 1), 6);
        due.is("PATTERNS", most.driver(0, 2), 3);
    }

    private static void score() {
        due.part("16 score: NONE, others");
        LateBinder x = due.board(Boards.full());
        due.is("LOADED or not", x.score(0, 0), 1);
        due.is("the last of both", x.score(7, 11), 1);
        for (int d = 0; d < 12; d++) {
            due.is("score(8, " + d + ")", x.score(8, d), -1);
            due.is("score(-1, " + d + ")", x.score(-1, d), -1);
        }
        for (int r = 0; r < 8; r++) {
            due.is("score(" + r + ", 12)", x.score(r, 12), -1);
            due.is("score(" + r + ", -1)", x.score(r, -1), -1);
        }
        for (int n : FAR) {
            due.is("score(" + n + ", 0)", x.score(n, 0), -1);
            due.is("score(0, " + n + ")", x.score(0, n), -1);
        }
        x.load(0);
        due.is("LOADED", x.score(0, 0), 1);
        LateBinder zero = due.board("device a :x;driver p :*;driver q :y;");
        due.is("0 is not NONE", zero.score(0, 0), 0);
        due.is("NONE: none MATCHES", zero.score(1, 0), -1);
    }

    private static void line() {
        due.part("17 line: NONE, others, none such");
        LateBinder x = full();
        for (int i = 0; i < 8; i++) {
            due.is("line(0, " + i + ")", x.line(0, i), i);
            due.is("line(11, " + i + ")", x.line(11, i), i);
        }
        due.is("line(0, 8)", x.line(0, 8), -1);
        due.is("line(0, -1)", x.line(0, -1), -1);
        due.is("line(-1, 0)", x.line(-1, 0), -1);
        due.is("line(12, 0)", x.line(12, 0), -1);
        for (int n : FAR) {
            due.is("line(" + n + ", 0)", x.line(n, 0), -1);
            due.is("line(0, " + n + ")", x.line(0, n), -1);
        }
        x.unload(7);
        due.is("line(0, 7)", x.line(0, 7), -1);
        due.is("line(0, 6)", x.line(0, 6), 6);
        x.unload(0);
        due.is("line(0, 0)", x.line(0, 0), 1);
        due.is("line(0, 6)", x.line(0, 6), -1);
        x.remove(0);
        due.is("of an AWAY one, too", x.line(0, 0), 1);
    }

    private static void would() {
        due.part("18 would: NONE, others");
        LateBinder x = full();
        due.states(x, "333333331111");
        for (int what = -1; what <= 3; what++) {
            int want = what == 0 ? 1 : what == 2 ? 0 : -1;
            due.is("would(11, " + what + ")", x.would(11, what), want);
            due.is("would(8, " + what + ")", x.would(8, what), want);
            due.is("would(7, " + what + "): BOUND", x.would(7, what), -1);
            due.is("would(12, " + what + ")", x.would(12, what), -1);
            due.is("would(-1, " + what + ")", x.would(-1, what), -1);
        }
        for (int n : FAR) {
            due.is("would(" + n + ", 0)", x.would(n, 0), -1);
            due.is("would(11, " + n + ")", x.would(11, n), -1);
        }
        x.unbind(7);
        due.is("would(11, 0)", x.would(11, 0), 3);
        due.is("would(11, 1): the last in LINE", x.would(11, 1), 7);
        due.is("would(11, 2)", x.would(11, 2), 1);
    }

    private static void wouldInEachState() {
        due.part("18 would: of an IDLE or DEFERRED DEVICE");
        LateBinder x = Boards.started(due, "device a :a;device b :b needs u;device c :c;device d :d;driver p :a give u;driver q :b;driver r :c break;");
        x.unbind(0);
        x.remove(3);
        due.states(x, "1210");
        int[][] want = {{3, 0, 2}, {2, -1, 0}, {1, -1, 0}, {-1, -1, -1}};
        for (int d = 0; d < 4; d++) {
            for (int what = 0; what <= 2; what++) {
                due.is("would(" + d + ", " + what + ")", x.would(d, what), want[d][what]);
            }
        }
        x.add(3);
        due.is("none in LINE", x.would(3, 0), 1);
        x.unload(1);
        due.is("a DEFERRED one with none in LINE", x.would(1, 0), 1);
        x.rescan();
        due.is("BOUND", x.would(0, 0), -1);
        due.is("BOUND", x.would(0, 2), -1);
    }

    private static void wouldBindAll() {
        due.part("18 would: how many would be BOUND in all, 0 to 12");
        LateBinder x = Boards.started(due, Boards.chain());
        for (int d = 0; d < 12; d++) {
            due.is("unbind(" + d + ")", x.unbind(d), 12 - d);
            due.is("would(" + d + ", 0)", x.would(d, 0), 3);
            due.is("would(" + d + ", 2)", x.would(d, 2), 12 - d);
            if (d < 11) {
                due.is("would(" + (d + 1) + ", 2)", x.would(d + 1, 2), 0);
                due.is("would(" + (d + 1) + ", 0)", x.would(d + 1, 0), 2);
            }
            due.is("rescan()", x.rescan(), 12 - d);
        }
    }

    private static void order() {
        due.part("19 order: all 12, NONE: others, none such");
        LateBinder x = Boards.started(due, Boards.chain());
        for (int i = -1; i <= 12; i++) {
            due.is("order(0, " + i + ")", x.order(0, i), within(i, 0, 11) ? 11 - i : -1);
            due.is("order(11, " + i + ")", x.order(11, i), i == 0 ? 11 : -1);
            due.is("order(-1, " + i + ")", x.order(-1, i), -1);
            due.is("order(12, " + i + ")", x.order(12, i), -1);
        }
        for (int n : FAR) {
            due.is("order(" + n + ", 0)", x.order(n, 0), -1);
            due.is("order(0, " + n + ")", x.order(0, n), -1);
        }
        x.unbind(0);
        due.is("IDLE", x.order(0, 0), -1);
        due.is("DEFERRED", x.order(1, 0), -1);
        x.remove(0);
        due.is("AWAY", x.order(0, 0), -1);
    }

    private static void ring() {
        due.part("20 ring: NONE, others");
        LateBinder x = full();
        for (int d = -1; d <= 12; d++) {
            for (int i = -2; i <= 1; i++) {
                due.is("ring(" + d + ", " + i + "): it is in none", x.ring(d, i), -1);
            }
        }
        for (int n : FAR) {
            due.is("ring(" + n + ", NONE)", x.ring(n, -1), -1);
            due.is("ring(11, " + n + ")", x.ring(11, n), -1);
        }
    }

    private static void ringOfTwo() {
        due.part("20 ring: of two, the shortest there can be");
        LateBinder x = Boards.started(due, "device a :a;device b :b;device c :c;driver p :a get v give u;driver q :b get u give v;"
            + "driver r :c get w give w;");
        due.ring(x, 0, 1);
        due.ring(x, 1, 0);
        due.is("itself alone is no RING", x.ring(2, -1), -1);
        for (int n : FAR) {
            due.is("ring(0, " + n + ")", x.ring(0, n), -1);
        }
        x.unload(1);
        due.is("broken", x.ring(0, -1), -1);
        due.is("broken", x.ring(0, 0), -1);
        due.is("broken", x.ring(1, -1), -1);
    }

    private static void ringOfTwelve() {
        due.part("20 ring: of 12, the longest there can be");
        String text = Boards.chain().replace("device a:x;", "device a:x needs u;").replace("device l:x", "device l:z");
        LateBinder x = Boards.started(due, text + "driver q:z give u;");
        due.states(x, "222222222222");
        due.ring(x, 0, 11, 10, 9, 8, 7, 6, 5, 4, 3, 2, 1);
        due.ring(x, 11, 10, 9, 8, 7, 6, 5, 4, 3, 2, 1, 0);
        due.ring(x, 6, 5, 4, 3, 2, 1, 0, 11, 10, 9, 8, 7);
        due.is("ring(12, NONE)", x.ring(12, -1), -1);
        due.is("ring(0, -2)", x.ring(0, -2), -1);
        x.remove(11);
        due.is("one is AWAY", x.ring(0, -1), -1);
        due.is("AWAY", x.ring(11, -1), -1);
        due.part("20 ring: AWAY ones are in none");
        LateBinder away = due.board("device a :a needs u;device b :b in a;driver p :a;driver q :b give u;");
        away.load(0);
        away.load(1);
        due.is("both are AWAY", away.ring(0, -1), -1);
        away.add(0);
        due.is("one is AWAY", away.ring(0, -1), -1);
        due.is("one is AWAY", away.ring(1, -1), -1);
        away.add(1);
        due.ring(away, 0, 1);
    }

    private static void wanted() {
        due.part("21 wanted: NONE, others");
        LateBinder x = due.board(Boards.full());
        x.add(0);
        x.add(11);
        for (int what = -1; what <= 2; what++) {
            int want = within(what, 0, 1) ? 1 : -1;
            due.is("wanted(0, " + what + ")", x.wanted(0, what), want);
            due.is("wanted(1, " + what + "): AWAY", x.wanted(1, what), -1);
            due.is("wanted(12, " + what + ")", x.wanted(12, what), -1);
            due.is("wanted(-1, " + what + ")", x.wanted(-1, what), -1);
        }
        for (int n : FAR) {
            due.is("wanted(" + n + ", 0)", x.wanted(n, 0), -1);
            due.is("wanted(0, " + n + ")", x.wanted(0, n), -1);
        }
        due.is("two for the second of them", x.wanted(11, 0), 2);
        due.is("the least as bits", x.wanted(11, 1), 3);
        for (int r = 0; r < 8; r++) {
            x.load(r);
        }
        due.is("BOUND", x.wanted(11, 0), -1);
    }

    private static void wantedAllEight() {
        due.part("21 wanted: 1 to 8, by none");
        StringBuilder text = new StringBuilder("device a:i0;driver ra:i0;");
        for (int d = 1; d < 8; d++) {
            text.append("device ").append(Boards.letter(d)).append(":i").append(d).append(" in ").append(Boards.letter(d - 1));
            text.append(";driver r").append(Boards.letter(d)).append(":i").append(d).append(';');
        }
        LateBinder x = due.board(text + "device z:z in h;");
        for (int d = 0; d < 9; d++) {
            x.add(d);
        }
        for (int d = 0; d < 8; d++) {
            due.wanted(x, d, d + 1, (1 << d + 1) - 1);
        }
        due.wanted(x, 8, -1, -1);
        x.load(7);
        x.load(0);
        due.wanted(x, 7, 6, 0x7e);
        due.wanted(x, 0, -1, -1);
        for (int r = 1; r < 6; r++) {
            x.load(r);
        }
        due.wanted(x, 7, 1, 0x40);
        x.unload(7);
        due.wanted(x, 7, 2, 0xc0);
        x.load(6);
        due.wanted(x, 7, 1, 0x80);
    }

    private static void wantedInEachState() {
        due.part("21 wanted: of a DEVICE that is not AWAY nor BOUND");
        LateBinder x = due.board("device a :a;device b :b needs u;driver p :a give u;driver q :b;");
        due.wanted(x, 0, -1, -1);
        x.add(1);
        due.wanted(x, 1, -1, -1);
        x.add(0);
        due.wanted(x, 0, 1, 1);
        due.wanted(x, 1, 2, 3);
        x.load(1);
        due.is("DEFERRED", x.device(1, 0), 2);
        due.wanted(x, 1, 1, 1);
        x.load(0);
        due.wanted(x, 0, -1, -1);
        due.wanted(x, 1, -1, -1);
        x.unbind(0);
        due.is("all are LOADED: by none", x.wanted(0, 0), -1);
        x.unload(0);
        due.wanted(x, 1, 1, 1);
    }

    /** The third DEVICE was BOUND by another DRIVER than its own, which would bind it as soon as it is TRIED. */
    private static void wantedWithoutAPass() {
        due.part("21 wanted: as load() does, with no pass if none is BOUND");
        LateBinder x = due.board("device a :a;device b :b;device c :c;driver p :zz;driver q :a give u;driver r :c;"
            + "driver s :zz get u;driver t :b;driver u :zz;");
        x.load(1);
        x.load(3);
        for (int d = 0; d < 3; d++) {
            x.add(d);
        }
        due.is("bind(2, 3)", x.bind(2, 3), 3);
        x.load(2);
        due.is("unbind(0)", x.unbind(0), 2);
        due.states(x, "112");
        due.is("would", x.would(0, 2), 2);
        due.wanted(x, 2, 1, 1 << 4);
        due.is("load(0)", x.load(0), 0);
        due.states(x, "112");
        due.is("load(5)", x.load(5), 0);
        due.states(x, "112");
        due.is("load(4)", x.load(4), 2);
        due.states(x, "133");
    }

    private static void supply() {
        due.part("22 supply: -2, others");
        LateBinder x = full();
        for (int what = -1; what <= 3; what++) {
            boolean good = within(what, 0, 2);
            due.is("supply(0, " + what + ")", x.supply(0, what), good ? new int[] {0, 0, 1}[what] : -2);
            due.is("supply(7, " + what + ")", x.supply(7, what), good ? new int[] {7, 0, 128}[what] : -2);
            due.is("supply(8, " + what + ")", x.supply(8, what), -2);
            due.is("supply(-1, " + what + ")", x.supply(-1, what), -2);
        }
        for (int n : FAR) {
            due.is("supply(" + n + ", 0)", x.supply(n, 0), -2);
            due.is("supply(0, " + n + ")", x.supply(0, n), -2);
        }
        x.unbind(7);
        due.is("nobody", x.supply(7, 0), -1);
        LateBinder gets = due.board("device a :x needs u;device b :x needs w;driver p :x get u get v;driver q :x give w;");
        due.is("needs of one", gets.supply(0, 1), 1);
        due.is("a get is no give", gets.supply(0, 2), 0);
        due.is("needs of none", gets.supply(2, 1), 0);
        due.is("a give of one", gets.supply(1, 2), 2);
        StringBuilder all = new StringBuilder();
        for (int d = 0; d < 12; d++) {
            all.append("device ").append(Boards.letter(d)).append(":x needs u needs u;");
        }
        for (int r = 0; r < 8; r++) {
            all.append("driver r").append(Boards.letter(r)).append(":x give u;");
        }
        LateBinder most = due.board(all.toString());
        due.is("needs of all", most.supply(0, 1), ALL);
        due.is("a give of all", most.supply(0, 2), 255);
    }

    private static void taken() {
        due.part("23 taken: -2, others");
        LateBinder x = Boards.started(due, "device a :a;driver p :a line 0 line 15;");
        for (int n = 0; n < 16; n++) {
            due.is("taken(" + n + ")", x.taken(n), n == 0 || n == 15 ? 0 : -1);
        }
        due.is("taken(-1)", x.taken(-1), -2);
        due.is("taken(16)", x.taken(16), -2);
        for (int n : FAR) {
            due.is("taken(" + n + ")", x.taken(n), -2);
        }
    }

    private static void logBounds() {
        due.part("24 log: NoSuchElementException, others, none such");
        LateBinder x = Boards.started(due, "device a :a;driver p :a;");
        due.is("count(9)", x.count(9), 1);
        due.is("log(0, 0)", Due.log(x, 0, 0), 1);
        due.is("log(0, 1)", Due.log(x, 0, 1), 0);
        due.is("log(0, 2)", Due.log(x, 0, 2), 0);
        for (int what = -1; what <= 3; what++) {
            due.is("log(1, " + what + ")", Due.log(x, 1, what), Due.THROWN);
            due.is("log(-1, " + what + ")", Due.log(x, -1, what), Due.THROWN);
        }
        due.is("log(0, -1)", Due.log(x, 0, -1), Due.THROWN);
        due.is("log(0, 3)", Due.log(x, 0, 3), Due.THROWN);
        for (int n : FAR) {
            due.is("log(" + n + ", 0)", Due.log(x, n, 0), Due.THROWN);
            due.is("log(0, " + n + ")", Due.log(x, 0, n), Due.THROWN);
        }
    }

    /** 12 DEVICES and 8 DRIVERS that FAIL, so that each bind() writes one row, told by both numbers. */
    private static LateBinder breaking() {
        StringBuilder text = new StringBuilder();
        for (int d = 0; d < 12; d++) {
            text.append("device ").append(Boards.letter(d)).append(":x;");
        }
        for (int r = 0; r < 8; r++) {
            text.append("driver r").append(Boards.letter(r)).append(":z break;");
        }
        return Boards.started(due, text.toString());
    }

    private static void logOfFifty() {
        due.part("LOG: the latest 50");
        for (int rows : new int[] {0, 1, 2, 48, 49, 50, 51, 52, 99, 100, 101, 151}) {
            LateBinder x = breaking();
            for (int k = 0; k < rows; k++) {
                x.bind(k % 12, k % 8);
            }
            int kept = Math.min(rows, 50);
            due.is("count(9) of " + rows, x.count(9), kept);
            for (int i = 0; i < kept; i++) {
                int k = rows - 1 - i;
                due.is("log(" + i + ", 1) of " + rows, Due.log(x, i, 1), k % 12);
                due.is("log(" + i + ", 2) of " + rows, Due.log(x, i, 2), k % 8);
            }
            due.is("log(" + kept + ", 0) of " + rows, Due.log(x, kept, 0), Due.THROWN);
            due.is("log(-1, 0) of " + rows, Due.log(x, -1, 0), Due.THROWN);
        }
    }

    private static void logAnew() {
        due.part("LOG: empty with a new BOARD, kept with a FAULT");
        LateBinder x = breaking();
        for (int k = 0; k < 60; k++) {
            x.bind(k % 12, k % 8);
        }
        Due.tell(x, "device a :x");
        due.is("a FAULT", x.count(9), 50);
        due.is("log(49, 1)", Due.log(x, 49, 1), 10);
        Due.tell(x, "device a :x;driver p :x;");
        due.is("a BOARD", x.count(9), 0);
        due.is("log(0, 0)", Due.log(x, 0, 0), Due.THROWN);
        x.add(0);
        x.load(0);
        due.is("count(9)", x.count(9), 1);
        due.is("log(0, 0)", Due.log(x, 0, 0), 1);
        due.is("log(1, 0)", Due.log(x, 1, 0), Due.THROWN);
    }

    private static void count() {
        due.part("26 count: NONE for another what");
        LateBinder x = full();
        int[] want = {12, 8, 8, 99, 255, 0, 255, 0, 255};
        for (int what = 0; what < want.length; what++) {
            due.is("count(" + what + ")", x.count(what), want[what]);
        }
        due.is("count(9)", x.count(9), 50);
        due.is("count(10)", x.count(10), 0);
        due.is("count(11)", x.count(11), -1);
        due.is("count(-1)", x.count(-1), -1);
        for (int n : FAR) {
            due.is("count(" + n + ")", x.count(n), -1);
        }
    }

    private static void countAtItsMost() {
        due.part("26 count: each at its least and most");
        LateBinder x = Boards.started(due, Boards.chain().replace("p:x", "p:x map 8"));
        due.is("free POOL", x.count(3), 3);
        due.is("BOUND ones", x.count(4), ALL);
        due.is("in the ROW", x.count(5), 0);
        x.unbind(0);
        due.is("free POOL", x.count(3), 99);
        due.is("BOUND ones", x.count(4), 0);
        due.is("in the ROW", x.count(5), 11);
        x.rescan();
        x.unbind(11);
        due.is("free POOL", x.count(3), 11);
        due.is("BOUND ones", x.count(4), ALL >> 1);
        due.is("LOADED ones", x.count(6), 1);
        x.unload(0);
        due.is("LOADED ones", x.count(6), 0);
        Due.feed(x, " ".repeat(648));
        due.is("bytes on the TAPE", x.count(10), 648);
    }

    private static void high() {
        due.part("HIGH: 0 to 11");
        LateBinder x = Boards.started(due, Boards.chain());
        for (int d = 0; d < 12; d++) {
            due.is("device(" + d + ", 7)", x.device(d, 7), d);
        }
        due.part("HIGH: the greatest of the PARENT and of those that it CONSUMES");
        x = Boards.started(due, "device a :a;device b :b in a;device c :c;device d :d in c needs u;device e :d in b needs v;"
            + "device f :f needs u needs v;driver p :b give u;driver q :c give v;driver r :d;driver s :f;driver t :a;");
        int[] want = {0, 1, 0, 2, 2, 2};
        for (int d = 0; d < 6; d++) {
            due.is("device(" + d + ", 7)", x.device(d, 7), want[d]);
        }
        x.unbind(0);
        due.is("IDLE", x.device(0, 7), -1);
        due.is("DEFERRED", x.device(1, 7), -1);
        due.is("BOUND still", x.device(2, 7), 0);
    }

    private static void lacks() {
        due.part("LACKS: none, all eight");
        LateBinder x = due.board("device a :a needs sa needs sb needs sc;driver p :a get sd get se get sf get sg get sh;"
            + "driver q :* give sa get sb;device b :b needs sa;driver r :b give sh;device c :c;");
        due.is("its needs", x.device(0, 11), 7);
        x.load(1);
        due.is("and gets of the only one in LINE", x.device(0, 11), 7);
        x.load(0);
        due.is("all", x.device(0, 11), 255);
        x.unload(1);
        due.is("none", x.device(2, 11), 0);
        x.add(2);
        x.load(1);
        due.is("and gets of the first in LINE", x.device(2, 11), 2);
        x.unload(0);
        due.is("the first in LINE is another one", x.device(0, 11), 7);
        x = Boards.started(due, "device a :a needs u needs v;device b :b;driver p :b give u;driver q :a get w;");
        due.is("one that is GIVEN is not lacked", x.device(0, 11), 6);
        x.unbind(1);
        due.is("GIVEN no more", x.device(0, 11), 7);
        due.is("of a BOUND one, too", boundOneLacks(), 1);
    }

    /** It is BOUND by the first DRIVER, and another one that is LOADED then is ahead of that in LINE. */
    private static int boundOneLacks() {
        LateBinder x = due.board("device a :a;driver p :*;driver q :a get u;");
        x.load(0);
        x.add(0);
        due.is("BOUND", x.device(0, 0), 3);
        due.is("LACKS", x.device(0, 11), 0);
        x.load(1);
        return x.device(0, 11);
    }

    private static void waits() {
        due.part("WAITS: for none, for all others");
        StringBuilder text = new StringBuilder("device a:a needs u;");
        for (int d = 1; d < 12; d++) {
            text.append("device ").append(Boards.letter(d)).append(":x needs v;");
        }
        LateBinder x = Boards.started(due, text + "driver p:x give u;driver q:a give v;");
        due.is("links(0, 6)", x.links(0, 6), ALL & ~1);
        due.is("links(11, 6)", x.links(11, 6), 1);
        due.ring(x, 0, 1);
        due.ring(x, 11, 0);
        x.remove(1);
        due.is("not for an AWAY one", x.links(0, 6), ALL & ~3);
        due.is("of an AWAY one", x.links(1, 6), 0);
        x.unload(0);
        due.is("for none", x.links(0, 6), 0);
        due.is("none in LINE, but its needs", x.links(11, 6), 1);
    }

    private static void waitsForItsParent() {
        due.part("WAITS: for its PARENT, if that is not BOUND");
        LateBinder x = due.board("device a :a;device b :b in a;device c :b in b;driver p :a;driver q :b break;");
        x.add(0);
        x.add(1);
        x.add(2);
        due.is("the PARENT is IDLE", x.links(1, 6), 1);
        x.load(1);
        due.is("it is DEFERRED itself", x.links(1, 6), 1);
        due.is("the PARENT is DEFERRED", x.links(2, 6), 2);
        x.load(0);
        due.is("the PARENT is BOUND", x.links(1, 6), 0);
        due.is("the PARENT FAILED", x.links(2, 6), 2);
        x.unbind(0);
        due.is("the PARENT is LET GO", x.links(1, 6), 1);
    }

    private static void givesOfOneDriver() {
        due.part("a DRIVER with several gives: each counts");
        LateBinder x = Boards.started(due, "device a :a;device b :b needs u;device c :b needs v;device d :b needs w;"
            + "driver p :a get z give u give v give w;driver q :b;");
        for (int s = 0; s < 3; s++) {
            due.is("supply(" + s + ", 2)", x.supply(s, 2), 1);
            due.is("links(" + (s + 1) + ", 6)", x.links(s + 1, 6), 1);
        }
        due.is("a get is no give", x.supply(3, 2), 0);
    }

    private static void aboveByTwoWays() {
        due.part("ABOVE: by each of two that it CONSUMES, and what is ABOVE these");
        LateBinder x = Boards.started(due, "device a :n;device b :n;device c :c in a;device d :d in b;device e :e;"
            + "driver p :n;driver q :c give u;driver r :d give v;driver s :e get u get v;");
        due.states(x, "33333");
        due.is("links(4, 2)", x.links(4, 2), 12);
        due.is("links(4, 4)", x.links(4, 4), 15);
        due.is("links(3, 4)", x.links(3, 4), 2);
    }
}
