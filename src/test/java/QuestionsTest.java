/** Promises 13, 14, 18 to 21: LACKS, WAITS, would, order, RINGS, WANTED, and that they change nothing. */
public final class QuestionsTest {
    private static final Due due = new Due();

    public static void main(String[] args) {
        lacksAndWaits();
        would();
        order();
        rings();
        leastRing();
        ringOfParents();
        wanted();
        wantedLeast();
        wantedByOrder();
        due.finish("QuestionsTest");
    }

    private static LateBinder all(String text, int devices, int drivers) {
        LateBinder x = due.board(text);
        for (int d = 0; d < devices; d++) {
            x.add(d);
        }
        for (int r = 0; r < drivers; r++) {
            x.load(r);
        }
        return x;
    }

    private static void lacksAndWaits() {
        due.part("13, 14: LACKS, WAITS");
        LateBinder x = due.board("device a :a needs u;device b :b;device c :c in b;device d :b;"
            + "driver p :a get v;driver q :* get w;driver r :b give u get v;driver s :c give v;");
        due.is("LACKS of an AWAY one", x.device(0, 11), 1);
        x.load(1);
        due.is("LACKS by the first in LINE", x.device(0, 11), 5);
        x.load(0);
        due.is("LACKS by the first in LINE now", x.device(0, 11), 3);
        due.is("WAITS of an AWAY one", x.links(0, 6), 0);
        x.add(0);
        x.add(1);
        due.is("WAITS: no first has a give", x.links(0, 6), 0);
        x.load(2);
        due.is("WAITS", x.links(0, 6), 2);
        x.load(3);
        due.is("WAITS: c is AWAY", x.links(0, 6), 2);
        x.add(2);
        due.is("WAITS", x.links(0, 6), 6);
        due.is("WAITS for its PARENT", x.links(2, 6), 2);
        due.is("WAITS", x.links(1, 6), 4);
        x.add(3);
        due.is("WAITS for all that would", x.links(0, 6), 14);
        due.is("links(4, 6)", x.links(4, 6), -1);
        x = due.board("device a :a;driver p :a get u give u;driver q :a;");
        x.add(0);
        x.load(1);
        due.is("BOUND", x.device(0, 0), 3);
        x.load(0);
        due.is("LACKS of a BOUND one", x.device(0, 11), 1);
        due.is("WAITS of a BOUND one", x.links(0, 6), 0);
        x.unload(1);
        due.is("it is IDLE", x.device(0, 0), 1);
        due.is("WAITS for others alone", x.links(0, 6), 0);
    }

    private static void would() {
        due.part("18 would");
        LateBinder x = due.board("device a :a;device b :b needs u;device c :c in b;device d :d;device e :e needs z;"
            + "driver p :a map 99;driver q :* give u;driver r :b;driver s :c;driver t :d break;driver u :e;");
        for (int r : new int[] {1, 2, 3, 4, 5}) {
            x.load(r);
        }
        x.add(3);
        due.is("add(3)", x.device(3, 0), 3);
        x.unbind(3);
        x.add(1);
        x.add(2);
        x.add(0);
        x.unbind(0);
        due.states(x, "12210");
        int log = x.count(9);
        due.is("would(0, 0)", x.would(0, 0), 3);
        due.is("would(0, 1)", x.would(0, 1), 1);
        due.is("would(0, 2)", x.would(0, 2), 3);
        due.is("would(3, 0)", x.would(3, 0), 3);
        due.is("would(3, 1): the second in LINE", x.would(3, 1), 1);
        due.is("would(2, 0)", x.would(2, 0), 2);
        due.is("would(2, 1)", x.would(2, 1), -1);
        due.is("would(2, 2)", x.would(2, 2), 0);
        due.is("would(4, 0): AWAY", x.would(4, 0), -1);
        due.is("would(5, 0)", x.would(5, 0), -1);
        due.is("would(-1, 0)", x.would(-1, 0), -1);
        due.is("would(0, 3)", x.would(0, 3), -1);
        due.is("would(0, -1)", x.would(0, -1), -1);
        due.states(x, "12210");
        due.is("nothing is written", x.count(9), log);
        due.row(x, 2, 1);
        x.bind(0, 1);
        due.states(x, "33310");
        due.is("would(0, 0): BOUND", x.would(0, 0), -1);
        due.is("would(3, 0): it FAILS by all", x.would(3, 0), 1);
        due.is("would(3, 1)", x.would(3, 1), -1);
        due.is("would(3, 2): of those BOUND already none counts", x.would(3, 2), 0);
    }

    private static void order() {
        due.part("19 order");
        LateBinder x = all("device a :a;device b :b in a;device c :c in a needs u;driver p :a;driver q :b give u;driver r :c;", 3, 3);
        due.order(x, 2, 1, 0);
        due.order(x, 2, 1);
        due.order(x, 2);
        due.is("order(0, -1)", x.order(0, -1), -1);
        due.is("order(3, 0)", x.order(3, 0), -1);
        due.is("order(-1, 0)", x.order(-1, 0), -1);
        due.is("count(4): nothing changed", x.count(4), 7);
        x.unbind(1);
        due.states(x, "312");
        due.is("order(1, 0): IDLE", x.order(1, 0), -1);
        due.is("order(2, 0): DEFERRED", x.order(2, 0), -1);
        due.is("links(1, 5)", x.links(1, 5), 0);
        due.order(x, 0);
    }

    private static void rings() {
        due.part("20 ring");
        LateBinder x = all("device a :a;device b :b;device c :c;device d :d;device e :e;"
            + "driver p :a get v give u;driver q :b get w give v;driver r :c get u give w;driver s :d get u;driver t :e;", 5, 5);
        due.states(x, "22223");
        due.ring(x, 0, 1, 2);
        due.ring(x, 1, 2, 0);
        due.ring(x, 2, 0, 1);
        due.is("ring(3, NONE): it waits, none for it", x.ring(3, -1), -1);
        due.is("ring(3, 0)", x.ring(3, 0), -1);
        due.is("ring(4, NONE): BOUND", x.ring(4, -1), -1);
        due.is("ring(5, NONE)", x.ring(5, -1), -1);
        due.is("ring(-1, NONE)", x.ring(-1, -1), -1);
        due.is("ring(0, -2)", x.ring(0, -2), -1);
        due.is("ring(0, 3)", x.ring(0, 3), -1);
        x.remove(2);
        due.is("ring(0, NONE)", x.ring(0, -1), -1);
    }

    private static void leastRing() {
        due.part("20 ring: the shortest, the least by numbers");
        // a lacks u and v: u by b or c, v by d; b and c lack w, given by e and f; e, f and d lack x, given by a
        LateBinder x = all("device a :a;device b :b;device c :b;device d :d;device e :e;device f :e;"
            + "driver p :a get u get v give x;driver q :b get w give u;driver r :d get w give v;driver s :e get x give w;", 6, 4);
        due.ring(x, 0, 1, 4);
        due.ring(x, 4, 0, 1);
        due.ring(x, 5, 0, 1);
        due.ring(x, 3, 4, 0);
        x.remove(1);
        due.ring(x, 0, 2, 4);
        x.remove(4);
        due.ring(x, 0, 2, 5);
        // a short way by a high number is taken ahead of a long way by low ones
        x = all("device a :a;device b :b;device c :c;device d :d;"
            + "driver p :a get u give x;driver q :b get v give u;driver r :c get x give v;driver s :d get x give u;", 4, 4);
        due.ring(x, 0, 3);
        x.remove(3);
        due.ring(x, 0, 1, 2);
    }

    private static void ringOfParents() {
        due.part("20 ring by a PARENT");
        LateBinder x = all("device a :a needs u;device b :b in a;driver p :a;driver q :b give u;", 2, 2);
        due.states(x, "22");
        due.ring(x, 0, 1);
        due.ring(x, 1, 0);
        due.is("links(0, 6)", x.links(0, 6), 2);
        due.is("links(1, 6)", x.links(1, 6), 1);
    }

    private static void wanted() {
        due.part("21 wanted");
        LateBinder x = all("device a :a needs u;device b :b;device c :c;device d :d in b;device e :e;"
            + "driver p :a;driver q :b get v give u;driver r :c give v;driver s :d;driver t :* break;", 4, 0);
        due.wanted(x, 0, 3, 7);
        due.wanted(x, 1, 2, 6);
        due.wanted(x, 2, 1, 4);
        due.wanted(x, 3, 3, 14);
        due.wanted(x, 4, -1, -1);
        due.wanted(x, 5, -1, -1);
        due.wanted(x, -1, -1, -1);
        due.is("wanted(0, 2)", x.wanted(0, 2), -1);
        due.is("wanted(0, -1)", x.wanted(0, -1), -1);
        due.is("count(6)", x.count(6), 0);
        due.is("count(9)", x.count(9), 0);
        x.load(2);
        due.wanted(x, 0, 2, 3);
        due.wanted(x, 2, -1, -1);
        due.wanted(x, 3, 2, 10);
        x.remove(2);
        due.wanted(x, 0, -1, -1);
        due.wanted(x, 1, -1, -1);
        x.add(4);
        due.wanted(x, 4, -1, -1);
        x.add(2);
        due.wanted(x, 0, 2, 3);
    }

    private static void wantedLeast() {
        due.part("21 wanted: the least as bits");
        LateBinder x = all("device a :a needs u needs v;device b :b;device c :c;"
            + "driver p :a;driver q :zz;driver r :b give u give v;driver s :b give u;driver t :c give v;driver u :a;", 3, 0);
        due.wanted(x, 0, 2, 5);
        due.wanted(x, 1, 1, 4);
        x.load(2);
        x.unbind(1);
        due.wanted(x, 1, 1, 1 << 3);
        due.wanted(x, 0, 2, 1 + 8);
        // by {0, 3} and by {1, 2}: the latter is the least as bits
        x = all("device a :a;device b :b;device c :c;"
            + "driver p :b give u;driver q :a give v;driver r :c get v;driver s :c get u;", 3, 0);
        due.wanted(x, 2, 2, 6);
        x.remove(0);
        due.wanted(x, 2, 2, 9);
        x = all("device a :c1;device b :b needs u;driver p :c? give u;driver q :c1 give u;driver r :b get u;driver s :b;", 2, 0);
        due.wanted(x, 1, 2, 5);
        x.load(1);
        due.wanted(x, 1, 1, 4);
        x.forget(0);
        due.wanted(x, 1, 1, 4);
    }

    private static void wantedByOrder() {
        due.part("21 wanted: the lowest is LOADED first");
        // p takes all of the POOL for a; q alone would bind b
        LateBinder x = all("device a :a;device b :b;driver p :a map 99;driver q :b map 1;", 2, 0);
        due.wanted(x, 0, 1, 1);
        due.wanted(x, 1, 1, 2);
        x.load(0);
        due.wanted(x, 1, -1, -1);
        x.unload(0);
        due.wanted(x, 1, 1, 2);
        // b is bound by s, which needs u of a; r, loaded ahead, takes line 1 for c, which a needs
        x = all("device a :a;device b :b needs u;device c :c;"
            + "driver p :c line 1;driver q :b;driver r :a line 1 give u;driver s :a give u;", 3, 0);
        due.wanted(x, 1, 2, 6);
        x.load(0);
        due.wanted(x, 1, 2, 10);
        due.part("21 wanted and forget");
        x = due.board("device a :a;device b :b;driver p :zz give u;driver q :zz get u;driver r :b give v;driver s :a get v;");
        x.load(0);
        x.load(1);
        x.add(0);
        x.add(1);
        x.bind(0, 0);
        due.is("bind(1, 1)", x.bind(1, 1), 3);
        x.unbind(0);
        due.states(x, "12");
        due.wanted(x, 0, -1, -1);
        due.wanted(x, 1, 1, 4);
        due.is("forget(1)", x.forget(1), 1);
        due.wanted(x, 0, 2, 12);
    }
}
