/** The bounds of what binds and what lets go (Terms, part 2; promises 5 to 12). */
public final class BenchBoundsTest {
    private static final Due due = new Due();
    private static final int ALL = Boards.ALL_DEVICES;

    public static void main(String[] args) {
        addByTheParentsState();
        addTheLastOne();
        removeAllBelow();
        removeAtTheEnds();
        removeInEachState();
        loadBindsAllOrNone();
        loadTriesThoseItIsInLineFor();
        unloadLetsAllGo();
        unloadOfNoneBound();
        unbindLetsAllGo();
        bindEachState();
        rescanBindsAllOrNone();
        passesOneByOne();
        noPassWithoutOneBound();
        noPassBehindOneThatBound();
        forgetNoneOrMany();
        allLinksThereCanBe();
        linkOfTheFirst();
        fullRow();
        rowKeepsPlaces();
        poolToItsLast();
        poolReleased();
        poolOfAll();
        linesAtTheirBounds();
        suppliesAtTheirBounds();
        ownLineAndSupply();
        probeStopsAtTheFirst();
        aboveByOneByTwoByAll();
        reasonAsItWas();
        reasonOfAwayOnes();
        tryNextOnlyIfFailed();
        syncedByNone();
        syncedByEach();
        syncedByTheFirst();
        syncedAtTheEndOfEach();
        due.finish("BenchBoundsTest");
    }

    private static void addByTheParentsState() {
        due.part("5 add: its PARENT is not AWAY");
        LateBinder x = due.board("device a :a;device b :b in a;device c :c in b;driver p :a get u;driver q :a give u;");
        due.is("AWAY", x.add(1), -1);
        due.is("AWAY, and the PARENT's PARENT", x.add(2), -1);
        due.is("add(0)", x.add(0), 1);
        due.is("the PARENT of the PARENT is there, the PARENT is AWAY", x.add(2), -1);
        due.is("the PARENT is IDLE", x.add(1), 1);
        due.is("the PARENT is IDLE", x.add(2), 1);
        x.remove(1);
        x.load(0);
        due.states(x, "200");
        due.is("the PARENT is DEFERRED", x.add(1), 1);
        x.remove(1);
        x.unload(0);
        x.load(1);
        due.states(x, "300");
        due.is("the PARENT is BOUND", x.add(1), 1);
        x.remove(0);
        due.is("the PARENT is AWAY again", x.add(1), -1);
        due.states(x, "000");
    }

    private static void addTheLastOne() {
        due.part("5 add: the first, the last, one beyond");
        LateBinder x = due.board(Boards.free());
        due.is("add(12)", x.add(12), -1);
        due.is("add(11)", x.add(11), 1);
        due.is("add(0)", x.add(0), 1);
        due.is("add(-1)", x.add(-1), -1);
        due.is("add(11) again", x.add(11), -1);
        due.is("STATE of the last", x.device(11, 0), 1);
        due.is("STATE of the first", x.device(0, 0), 1);
        due.is("STATE of another", x.device(10, 0), 0);
    }

    private static void removeAllBelow() {
        due.part("6 remove: all 12 in a chain");
        LateBinder x = Boards.started(due, Boards.chain());
        due.is("count(4)", x.count(4), ALL);
        due.is("remove(12)", x.remove(12), -1);
        due.is("remove(11): none below", x.remove(11), 1);
        due.is("remove(11) again", x.remove(11), -1);
        due.is("remove(6)", x.remove(6), 5);
        due.states(x, "333333000000");
        due.is("remove(0)", x.remove(0), 6);
        due.states(x, "000000000000");
        for (int i = 0; i < 12; i++) {
            due.is("log(" + i + ", 0)", Due.log(x, i, 0), 4);
            due.is("log(" + i + ", 1)", Due.log(x, i, 1), i);
        }
        due.is("count(5)", x.count(5), 0);
        due.is("remove(0) again", x.remove(0), -1);
        due.is("all at once", Boards.started(due, Boards.chain()).remove(0), 12);
    }

    private static void removeAtTheEnds() {
        due.part("6 remove: those that are AWAY already are not counted");
        LateBinder x = due.board(Boards.chain());
        x.add(0);
        due.is("the PARENT alone", x.remove(0), 1);
        for (int d = 0; d < 3; d++) {
            x.add(d);
        }
        due.is("two below", x.remove(0), 3);
        due.part("6 remove: others with the same PARENT stay");
        x = Boards.started(due, "device a :x;device b :x in a;device c :x in a;device d :x in b;device e :x in c;driver p :x;");
        due.is("remove(1)", x.remove(1), 2);
        due.states(x, "30303");
        due.is("remove(2)", x.remove(2), 2);
        due.states(x, "30000");
    }

    private static void removeInEachState() {
        due.part("6 remove: IDLE, DEFERRED, BOUND");
        LateBinder x = Boards.started(due, "device a :a;device b :b needs w;device c :c;driver p :b;driver q :c;");
        due.states(x, "123");
        int rows = x.count(9);
        due.is("IDLE", x.remove(0), 1);
        due.is("DEFERRED", x.remove(1), 1);
        due.is("nothing of it is in the LOG", x.count(9), rows);
        due.is("the ROW", x.count(5), 0);
        due.is("BOUND", x.remove(2), 1);
        due.is("it is LET GO", x.count(9), rows + 1);
        due.logEnds(x, 4, 2, 1);
        due.states(x, "000");
    }

    private static void loadBindsAllOrNone() {
        due.part("7 load: 0 to 12 BOUND");
        LateBinder x = due.board(Boards.chain());
        due.is("none is there", x.load(0), 0);
        x.unload(0);
        for (int d = 0; d < 12; d++) {
            x.add(d);
        }
        due.is("load(1)", x.load(1), -1);
        due.is("load(-1)", x.load(-1), -1);
        due.is("load(0)", x.load(0), 12);
        due.is("load(0) again", x.load(0), -1);
        due.is("count(4)", x.count(4), ALL);
        x = due.board(Boards.full());
        x.add(11);
        due.is("load(8)", x.load(8), -1);
        due.is("load(7)", x.load(7), 1);
        due.is("count(6)", x.count(6), 128);
        due.is("load(0): all are BOUND", x.load(0), 0);
        due.is("count(6)", x.count(6), 129);
    }

    private static void loadTriesThoseItIsInLineFor() {
        due.part("7 load: those for which it is in LINE, and no others");
        LateBinder x = due.board("device a :a;device b :b;driver p :* break;driver q :b;driver r :c;");
        x.add(0);
        x.add(1);
        x.load(0);
        due.is("both FAILED", x.count(9), 2);
        due.is("load(2): for none", x.load(2), 0);
        due.is("nothing is TRIED", x.count(9), 2);
        due.is("load(1)", x.load(1), 1);
        due.logEnds(x, 3, 1, 0, 1, 1, 1);
        due.is("the other one is not TRIED", x.count(9), 3);
    }

    private static void unloadLetsAllGo() {
        due.part("8 unload: all 12");
        LateBinder x = Boards.started(due, Boards.chain());
        due.is("unload(1)", x.unload(1), -1);
        due.is("unload(-1)", x.unload(-1), -1);
        due.is("unload(0)", x.unload(0), 12);
        due.states(x, "111111111111");
        due.is("the ROW is empty", x.count(5), 0);
        due.is("unload(0) again", x.unload(0), -1);
        for (int i = 0; i < 12; i++) {
            due.is("log(" + i + ", 1)", Due.log(x, i, 1), i);
        }
        due.is("count(6)", x.count(6), 0);
        x = Boards.started(due, Boards.full());
        due.is("unload(8)", x.unload(8), -1);
        due.is("unload(7)", x.unload(7), 1);
        due.is("STATE", x.device(7, 0), 1);
        due.is("count(4)", x.count(4), 127);
        due.is("count(6)", x.count(6), 127);
    }

    private static void unloadOfNoneBound() {
        due.part("8 unload: none is BOUND to it");
        LateBinder x = due.board("device a :a;device b :b;driver p :a;driver q :b;");
        x.load(0);
        x.load(1);
        x.add(0);
        due.is("unload(1)", x.unload(1), 0);
        due.states(x, "30");
        due.is("a DEFERRED one stays", waitsAfterUnload(), 2);
    }

    private static int waitsAfterUnload() {
        LateBinder x = due.board("device a :a needs u;driver p :a;");
        x.load(0);
        x.add(0);
        x.unload(0);
        return x.device(0, 0);
    }

    private static void unbindLetsAllGo() {
        due.part("9 unbind: 1 to 12 are LET GO");
        LateBinder x = Boards.started(due, Boards.chain());
        due.is("unbind(12)", x.unbind(12), -1);
        due.is("unbind(-1)", x.unbind(-1), -1);
        due.is("unbind(11)", x.unbind(11), 1);
        due.states(x, "333333333331");
        due.is("unbind(11) again", x.unbind(11), -1);
        x.rescan();
        due.is("unbind(0)", x.unbind(0), 12);
        due.states(x, "122222222222");
        due.row(x, 11, 10, 9, 8, 7, 6, 5, 4, 3, 2, 1);
        for (int d = 0; d < 12; d++) {
            due.is("none is BOUND: unbind(" + d + ")", x.unbind(d), -1);
        }
    }

    private static void bindEachState() {
        due.part("10 bind: IDLE and DEFERRED ones, LOADED DRIVERS");
        LateBinder x = due.board("device a :a;device b :b;device c :c;driver p :zz;driver q :zz get u;driver r :zz;");
        x.load(0);
        x.load(1);
        due.is("AWAY", x.bind(0, 0), -1);
        x.add(0);
        x.add(1);
        due.is("not LOADED", x.bind(0, 2), -1);
        due.is("IDLE", x.bind(0, 0), 3);
        due.is("BOUND", x.bind(0, 0), -1);
        due.is("PUT OFF", x.bind(1, 1), 2);
        due.is("DEFERRED", x.bind(1, 0), 3);
        due.is("one beyond", x.bind(3, 0), -1);
        due.is("one beyond", x.bind(2, 3), -1);
        x = Boards.started(due, Boards.full());
        due.is("the last of both", x.bind(11, 7), 1);
        due.is("one beyond", x.bind(11, 8), -1);
        due.is("one beyond", x.bind(12, 7), -1);
        due.reason(x, 11, 6, 7);
    }

    private static void rescanBindsAllOrNone() {
        due.part("11 rescan: 0 to 12 BOUND");
        LateBinder x = Boards.started(due, Boards.chain());
        due.is("all are BOUND", x.rescan(), 0);
        x.unbind(0);
        due.is("all but none", x.rescan(), 12);
        x.unbind(11);
        due.is("one", x.rescan(), 1);
        x.remove(0);
        due.is("all are AWAY", x.rescan(), 0);
        due.is("count(4)", x.count(4), 0);
    }

    private static void passesOneByOne() {
        due.part("passes: each binds one alone, till all 12 are BOUND");
        LateBinder x = Boards.started(due, Boards.chain());
        x.unbind(0);
        due.is("bind(0, 0)", x.bind(0, 0), 3);
        due.is("count(4)", x.count(4), ALL);
        due.is("the ROW is empty", x.count(5), 0);
        due.order(x, 11, 10, 9, 8, 7, 6, 5, 4, 3, 2, 1, 0);
        due.logEnds(x, 2, 11, 0, 2, 10, 0, 1, 9, 0, 2, 11, 0, 1, 10, 0, 1, 11, 0);
        x.unload(0);
        x.load(0);
        x.unbind(1);
        due.is("those not BOUND by this call are not counted", x.rescan(), 11);
    }

    private static void noPassWithoutOneBound() {
        due.part("passes: none at the end of a call by which none was BOUND");
        LateBinder x = due.board("device a :a needs w;device b :b;device c :c;driver p :a;driver q :b break;driver r :c;");
        x.load(0);
        x.load(1);
        x.add(0);
        due.is("one is PUT OFF", x.count(9), 1);
        due.is("add(1): it FAILS", x.add(1), 1);
        due.is("no pass", x.count(9), 2);
        due.is("load(2): none is there", x.load(2), 0);
        due.is("no pass", x.count(9), 2);
        due.is("add(2): it is BOUND", x.add(2), 3);
        due.is("one pass, which binds none", x.count(9), 4);
        due.is("unbind(2)", x.unbind(2), 1);
        due.is("no pass", x.count(9), 5);
    }

    /** A call by which one was BOUND is just behind us; the next one binds none. */
    private static void noPassBehindOneThatBound() {
        due.part("passes: none by what an earlier call bound");
        String[] calls = {"add", "remove", "load", "unload", "unbind", "bind", "rescan"};
        int[] written = {1, 1, 0, 0, 1, 1, 1};
        for (int i = 0; i < calls.length; i++) {
            LateBinder x = due.board("device a :a needs w;device b :b;device c :c;device d :d;driver p :a;driver q :b break;"
                + "driver r :c;driver s :zz break;driver t :zz;");
            for (int r = 0; r < 4; r++) {
                x.load(r);
            }
            x.add(0);
            x.add(3);
            due.is("add(2)", x.add(2), 3);
            due.is("PUT OFF, BOUND, PUT OFF by the pass", x.count(9), 3);
            switch (i) {
                case 0: x.add(1); break;
                case 1: x.remove(2); break;
                case 2: x.load(4); break;
                case 3: x.unload(3); break;
                case 4: x.unbind(2); break;
                case 5: x.bind(3, 3); break;
                default: x.rescan(); break;
            }
            due.is("rows written by " + calls[i], x.count(9), 3 + written[i]);
        }
    }

    private static void forgetNoneOrMany() {
        due.part("12 forget: none, 1, 11");
        LateBinder x = freed();
        due.is("none", x.forget(11), 0);
        due.is("forget(12)", x.forget(12), -1);
        due.is("forget(-1)", x.forget(-1), -1);
        x.bind(0, 0);
        x.bind(11, 1);
        due.is("one that it CONSUMES", x.forget(11), 0);
        due.is("links(11, 2)", x.links(11, 2), 1);
        x.unbind(0);
        x.bind(1, 0);
        x.bind(11, 1);
        due.is("one that it CONSUMES no more", x.forget(11), 1);
        due.is("links(11, 2)", x.links(11, 2), 2);
        x.unbind(1);
        due.is("one, it is not BOUND", x.forget(11), 1);
        for (int d = 0; d < 11; d++) {
            x.bind(d, 0);
            x.bind(11, 1);
            x.unbind(d);
        }
        due.is("links(11, 2)", x.links(11, 2), 0x7ff);
        due.is("count(7)", x.count(7), 11);
        due.is("others have none", x.forget(0), 0);
        due.is("eleven", x.forget(11), 11);
        due.is("links(11, 2)", x.links(11, 2), 0);
        due.is("count(7)", x.count(7), 0);
        due.is("again", x.forget(11), 0);
    }

    private static LateBinder freed() {
        return Boards.started(due, Boards.free());
    }

    private static void allLinksThereCanBe() {
        due.part("LINKS: remembered till forget(), all 66");
        LateBinder x = freed();
        for (int to = 0; to < 12; to++) {
            for (int from = to + 1; from < 12; from++) {
                x.bind(to, 0);
                x.bind(from, 1);
                x.unbind(to);
            }
        }
        due.is("count(7)", x.count(7), 66);
        for (int d = 0; d < 12; d++) {
            due.is("links(" + d + ", 2)", x.links(d, 2), (1 << d) - 1);
            due.is("links(" + d + ", 3)", x.links(d, 3), ALL & ~((1 << d + 1) - 1));
            due.is("links(" + d + ", 4)", x.links(d, 4), (1 << d) - 1);
        }
        due.is("none from the first one", x.links(0, 2), 0);
        x.bind(11, 0);
        due.is("each is ABOVE the last", x.bind(0, 1), 1);
        due.reason(x, 0, 3, 11);
        due.is("each is ABOVE the last", x.bind(10, 1), 1);
        due.reason(x, 10, 3, 11);
        x.remove(11);
        x.add(11);
        due.is("AWAY and back: they stay", x.count(7), 66);
    }

    private static void linkOfTheFirst() {
        due.part("LINKS: from the first to the last");
        LateBinder x = freed();
        x.bind(11, 0);
        due.is("bind(0, 1)", x.bind(0, 1), 3);
        due.is("count(7)", x.count(7), 1);
        due.is("links(0, 2)", x.links(0, 2), 1 << 11);
        due.is("links(11, 3)", x.links(11, 3), 1);
        due.is("links(11, 1)", x.links(11, 1), 1);
        due.is("links(0, 4)", x.links(0, 4), 1 << 11);
        due.is("forget(0)", x.forget(0), 0);
        x.unbind(11);
        due.is("forget(0)", x.forget(0), 1);
        due.is("count(7)", x.count(7), 0);
    }

    private static void fullRow() {
        due.part("ROW: all 12");
        LateBinder x = due.board("device a :x;" + Boards.chain().substring(11).replace("driver p:x;", "driver p:x get u;"));
        x.load(0);
        for (int d = 0; d < 12; d++) {
            due.is("add(" + d + ")", x.add(d), 2);
            due.is("place of the last", x.device(d, 5), d);
            due.is("count(5)", x.count(5), d + 1);
        }
        due.is("rescan()", x.rescan(), 0);
        due.row(x, 0, 1, 2, 3, 4, 5, 6, 7, 8, 9, 10, 11);
        due.is("remove(11)", x.remove(11), 1);
        due.is("place of an AWAY one", x.device(11, 5), -1);
        due.row(x, 0, 1, 2, 3, 4, 5, 6, 7, 8, 9, 10);
    }

    private static void rowKeepsPlaces() {
        due.part("ROW: PUT OFF again it keeps its place; LET GO, or in it anew, it is the last");
        LateBinder x = Boards.started(due, "device a :a needs w;device b :a needs w;device c :a needs w;driver p :a;driver q :zz break;");
        due.row(x, 0, 1, 2);
        due.is("PUT OFF again", x.bind(0, 0), 2);
        due.row(x, 0, 1, 2);
        due.is("by another one, too", x.bind(0, 1), 2);
        due.row(x, 0, 1, 2);
        x.remove(1);
        due.row(x, 0, 2);
        due.is("place of an AWAY one", x.device(1, 5), -1);
        x.add(1);
        due.row(x, 0, 2, 1);
        x.remove(0);
        x.add(0);
        due.row(x, 2, 1, 0);
    }

    private static void poolToItsLast() {
        due.part("POOL of 99");
        LateBinder x = freshPool();
        due.is("98", x.bind(0, 0), 3);
        due.is("count(3)", x.count(3), 1);
        due.is("2 of 1", x.bind(1, 2), 1);
        due.reason(x, 1, 5, -1);
        due.is("count(3)", x.count(3), 1);
        due.is("1 of 1", x.bind(1, 1), 3);
        due.is("count(3)", x.count(3), 0);
        due.is("1 of 0", x.bind(2, 1), 1);
        due.reason(x, 2, 5, -1);
        due.is("unbind(1)", x.unbind(1), 1);
        due.is("count(3)", x.count(3), 1);
        due.is("1 of 1 again", x.bind(2, 1), 3);
        due.is("unbind(0)", x.unbind(0), 1);
        due.is("count(3)", x.count(3), 98);
        due.is("99 of 98", x.bind(0, 3), 1);
        due.is("unbind(2)", x.unbind(2), 1);
        due.is("99 of 99", x.bind(0, 3), 3);
        due.is("count(3)", x.count(3), 0);
        due.is("device(0, 8)", x.device(0, 8), 99);
        due.is("device(1, 8)", x.device(1, 8), 0);
    }

    private static LateBinder freshPool() {
        return Boards.started(due, "device a :a;device b :b;device c :c;driver p :zz map 98;driver q :zz map 1;"
            + "driver r :zz map 2;driver s :zz map 99;driver t :zz map 50 map 50;driver u :zz map 50 map 49;"
            + "driver v :zz map 99 map 1 map 2;");
    }

    private static void poolReleased() {
        due.part("POOL: what a PROBE took is released, if it FAILS");
        LateBinder x = freshPool();
        due.is("50 and 50", x.bind(0, 4), 1);
        due.reason(x, 0, 5, -1);
        due.is("count(3)", x.count(3), 99);
        due.is("count(9)", x.count(9), 2);
        due.logEnds(x, 7, 0, 50, 3, 0, 4);
        due.is("99 and 1", x.bind(0, 6), 1);
        due.logEnds(x, 7, 0, 99, 3, 0, 6);
        due.is("50 and 49", x.bind(0, 5), 3);
        due.is("count(3)", x.count(3), 0);
        due.is("device(0, 8)", x.device(0, 8), 99);
        due.is("unbind(0)", x.unbind(0), 1);
        due.logEnds(x, 7, 0, 49, 7, 0, 50, 4, 0, 5);
        due.is("count(3)", x.count(3), 99);
    }

    private static void poolOfAll() {
        due.part("POOL: 6 STEPS of each of 8 DRIVERS");
        StringBuilder text = new StringBuilder();
        for (int d = 0; d < 8; d++) {
            text.append("device d").append(Boards.letter(d)).append(":").append(d).append(";driver r").append(Boards.letter(d));
            text.append(":").append(d).append(" map 1".repeat(Math.min(d, 6))).append(d < 6 ? " map 9;" : ";");
        }
        LateBinder x = Boards.started(due, text.toString());
        int sum = 0;
        for (int d = 0; d < 8; d++) {
            int want = d < 6 ? d + 9 : 6;
            sum += want;
            due.is("device(" + d + ", 8)", x.device(d, 8), want);
            due.is("driver(" + d + ", 1)", x.driver(d, 1), Math.min(d + 1, 6));
        }
        due.is("count(3)", x.count(3), 99 - sum);
    }

    private static void linesAtTheirBounds() {
        due.part("LINES 0 to 15");
        LateBinder x = Boards.started(due, "device a :a;device b :b;device c :b;driver p :a line 0 line 15;driver q :b line 1 line 14;");
        due.is("device(0, 9)", x.device(0, 9), 0x8001);
        due.is("device(1, 9)", x.device(1, 9), 0x4002);
        due.is("device(2, 9)", x.device(2, 9), 0);
        due.reason(x, 2, 4, 1);
        for (int n = -1; n <= 16; n++) {
            int want = n == 0 || n == 15 ? 0 : n == 1 || n == 14 ? 1 : n < 0 || n > 15 ? -2 : -1;
            due.is("taken(" + n + ")", x.taken(n), want);
        }
        x.unbind(0);
        due.is("taken(0)", x.taken(0), -1);
        due.is("taken(15)", x.taken(15), -1);
        due.is("taken(14)", x.taken(14), 1);
        due.logEnds(x, 6, 0, 15, 6, 0, 0, 4, 0, 0);
    }

    private static void suppliesAtTheirBounds() {
        due.part("SUPPLIES 0 to 7, all CONSUMED by one");
        StringBuilder text = new StringBuilder();
        for (int d = 0; d < 7; d++) {
            text.append("device ").append(Boards.letter(d)).append(":i").append(d).append(";driver r").append(Boards.letter(d));
            text.append(":i").append(d).append(" give s").append(Boards.letter(d)).append(d == 0 ? " give sh;" : ";");
        }
        text.append("device z:z needs sa needs sb needs sc;driver q:z get sd get se get sf get sg get sh;");
        LateBinder x = Boards.started(due, text.toString());
        due.is("count(4)", x.count(4), 0xff);
        due.is("links(7, 0)", x.links(7, 0), 0x7f);
        due.is("device(0, 10)", x.device(0, 10), 3);
        due.is("device(6, 10)", x.device(6, 10), 128);
        due.is("supply(0, 0)", x.supply(0, 0), 0);
        due.is("supply(7, 0)", x.supply(7, 0), 6);
        due.is("supply(8, 0)", x.supply(8, 0), -2);
        due.is("LACKS", x.device(7, 11), 0);
        due.is("unbind(6)", x.unbind(6), 2);
        due.is("LACKS", x.device(7, 11), 128);
        due.reason(x, 7, 0, -1);
        due.is("rescan()", x.rescan(), 2);
        x.unload(6);
        due.is("a PROBE by the last STEPS", x.bind(7, 7), 2);
        due.reason(x, 7, 2, 7);
        due.is("it CONSUMES nothing", x.links(7, 0), 0);
    }

    private static void ownLineAndSupply() {
        due.part("line: its own is not free, either; give: its own is GIVEN; get: of its own nothing");
        LateBinder x = Boards.started(due, "device a :a;driver p :zz line 0 line 0;driver q :zz give u give u;"
            + "driver r :zz give u get u;driver s :zz get u;");
        due.is("line", x.bind(0, 0), 1);
        due.reason(x, 0, 4, 0);
        due.logEnds(x, 6, 0, 0, 3, 0, 0);
        due.is("give", x.bind(0, 1), 1);
        due.reason(x, 0, 6, 0);
        due.logEnds(x, 8, 0, 0, 3, 0, 1);
        due.is("get ahead of a give", x.bind(0, 3), 2);
        due.is("get", x.bind(0, 2), 3);
        due.is("links(0, 0)", x.links(0, 0), 0);
        due.is("count(7)", x.count(7), 0);
    }

    private static void probeStopsAtTheFirst() {
        due.part("a PROBE: PARENT, then needs, then STEPS; the first that is not so tells");
        LateBinder x = due.board("device a :a;device b :b in a needs u needs v;driver p :zz break;driver q :zz give u;"
            + "driver r :zz map 7 get w break;driver s :zz break get w;driver t :zz;driver u :zz give v give u;");
        for (int r = 0; r < 6; r++) {
            x.load(r);
        }
        x.add(0);
        x.add(1);
        due.is("PARENT", x.bind(1, 0), 2);
        due.reason(x, 1, 1, 0);
        due.is("bind(0, 4)", x.bind(0, 4), 3);
        due.is("the first of its needs", x.bind(1, 0), 2);
        due.reason(x, 1, 2, 0);
        x.unbind(0);
        due.is("bind(0, 1)", x.bind(0, 1), 3);
        due.is("the second of its needs", x.bind(1, 0), 2);
        due.reason(x, 1, 2, 1);
        x.unbind(0);
        due.is("bind(0, 5)", x.bind(0, 5), 3);
        due.is("its STEPS", x.bind(1, 0), 1);
        due.reason(x, 1, 7, -1);
        due.is("get ahead of break", x.bind(1, 2), 2);
        due.reason(x, 1, 2, 2);
        due.logEnds(x, 7, 1, 7, 2, 1, 2);
        due.is("break ahead of get", x.bind(1, 3), 1);
        due.reason(x, 1, 7, -1);
        due.is("GIVEN already", x.bind(1, 1), 1);
        due.reason(x, 1, 6, 0);
    }

    private static void aboveByOneByTwoByAll() {
        due.part("ABOVE: of a chain of 12 PARENTS");
        LateBinder x = due.board(Boards.chain().replace("driver p:x;", "driver p:x;driver q:zz give u;driver r:zz get u;"));
        x.load(1);
        x.load(2);
        for (int d = 0; d < 12; d++) {
            x.add(d);
            due.is("links(" + d + ", 4)", x.links(d, 4), (1 << d) - 1);
        }
        x.load(0);
        x.unbind(11);
        due.is("bind(11, 1)", x.bind(11, 1), 3);
        due.is("HIGH", x.device(11, 7), 11);
        due.is("unbind(11)", x.unbind(11), 1);
        x.unbind(10);
        due.is("the last one GIVES", x.bind(10, 1), 3);
        due.is("a PARENT's child may get", x.bind(11, 2), 3);
        due.is("links(11, 2)", x.links(11, 2), 1 << 10);
        due.is("HIGH: PARENT and supplier are one", x.device(11, 7), 11);
    }

    private static void reasonAsItWas() {
        due.part("REASON: 0 at first; without any in LINE as it was");
        LateBinder x = due.board("device a :a;driver p :a break;driver q :zz;");
        due.reason(x, 0, 0, -1);
        x.add(0);
        due.reason(x, 0, 0, -1);
        x.load(0);
        due.reason(x, 0, 7, -1);
        x.unload(0);
        due.is("rescan()", x.rescan(), 0);
        due.reason(x, 0, 7, -1);
        x.load(1);
        due.is("bind(0, 1)", x.bind(0, 1), 3);
        due.reason(x, 0, 0, -1);
        x.unbind(0);
        due.reason(x, 0, 0, -1);
    }

    private static void reasonOfAwayOnes() {
        due.part("REASON: an AWAY one has 0, with NONE");
        LateBinder x = Boards.started(due, "device a :a;device b :b in a;device c :c needs w;driver p :b;driver q :c;driver r :a line 1 line 1;");
        due.reason(x, 0, 4, 0);
        due.reason(x, 1, 1, 0);
        due.reason(x, 2, 2, 0);
        x.remove(2);
        due.reason(x, 2, 0, -1);
        x.remove(0);
        due.reason(x, 0, 0, -1);
        due.reason(x, 1, 0, -1);
        x.unload(2);
        x.add(0);
        due.reason(x, 0, 0, -1);
    }

    private static void tryNextOnlyIfFailed() {
        due.part("to TRY: FAILED, the next one; PUT OFF, it ends");
        LateBinder x = Boards.started(due, "device a :abc;driver p :abc break;driver q :ab? get u;driver r :*;");
        due.states(x, "2");
        due.is("two were asked", x.count(9), 2);
        due.logEnds(x, 3, 0, 0, 2, 0, 1);
        due.reason(x, 0, 2, 0);
        x.unload(1);
        due.is("rescan()", x.rescan(), 1);
        due.is("device(0, 1)", x.device(0, 1), 2);
        due.is("the ROW", x.count(5), 0);
        x = Boards.started(due, "device a :abc;driver p :abc break;driver q :ab? break;driver r :* line 3 line 3;");
        due.states(x, "1");
        due.logEnds(x, 3, 0, 0, 3, 0, 1, 6, 0, 3, 3, 0, 2);
        due.reason(x, 0, 4, 0);
    }

    private static void syncedByNone() {
        due.part("SYNCED: none has a need of it, none a LINK to it");
        LateBinder x = due.board("device a :a;device b :b;driver p :a give u;driver q :b;");
        x.load(0);
        x.load(1);
        x.add(0);
        due.is("device(0, 6)", x.device(0, 6), 1);
        x.add(1);
        due.is("it GIVES nothing", x.device(1, 6), 0);
        due.is("count(8)", x.count(8), 1);
        due.logEnds(x, 1, 0, 0, 5, 0, -1, 1, 1, 1);
        x.rescan();
        due.is("it becomes so once", x.count(9), 3);
        x.unbind(0);
        due.is("till it is LET GO", x.count(8), 0);
        x.rescan();
        due.is("again", x.count(8), 1);
        due.logEnds(x, 1, 0, 0, 5, 0, -1);
        due.is("all eight", Boards.started(due, Boards.full()).count(8), 0xff);
    }

    /** One that is IDLE keeps it from being so; AWAY or BOUND it does not. */
    private static void syncedByEach() {
        due.part("SYNCED: all that are not AWAY and need it are BOUND");
        LateBinder x = due.board("device a :a;device b :b needs u;device c :c needs w needs u;device d :d needs v;"
            + "driver p :a give u give w;driver q :b;driver r :c;");
        x.load(0);
        x.add(1);
        x.add(2);
        x.add(3);
        x.add(0);
        due.is("two are IDLE", x.count(8), 0);
        x.load(1);
        due.is("one is IDLE", x.count(8), 0);
        x.remove(2);
        due.is("none is IDLE, one is AWAY", x.count(8), 1);
        x.add(2);
        due.is("it is so till it is LET GO", x.count(8), 1);
        x.unbind(0);
        x.rescan();
        due.is("one is IDLE again", x.count(8), 0);
        x.load(2);
        due.is("all are BOUND", x.count(8), 1);
        due.states(x, "3331");
    }

    private static void syncedByTheFirst() {
        due.part("SYNCED: the first and the last DEVICE count, too");
        LateBinder x = Boards.started(due, "device a :a needs u;device b :b;device c :c needs v;driver p :b give u give v;");
        due.states(x, "131");
        due.is("count(8)", x.count(8), 0);
        x.remove(2);
        due.is("the first is IDLE", x.count(8), 0);
        x.add(2);
        x.remove(0);
        due.is("the last is IDLE", x.count(8), 0);
        x.remove(2);
        due.is("both are AWAY", x.count(8), 2);
    }

    /** A LINK of an IDLE one kept the first DEVICE from being SYNCED; it is forgotten, no call came since. */
    private static LateBinder nearlySynced(boolean third) {
        LateBinder x = due.board("device a :a;device b :b;device c :c;driver p :a give u;driver q :zz get u;driver r :c;driver s :d;");
        for (int r = 0; r < 3; r++) {
            x.load(r);
        }
        x.add(0);
        x.add(1);
        x.bind(1, 1);
        x.unbind(0);
        x.bind(0, 0);
        if (third) {
            x.add(2);
        }
        due.states(x, third ? "313" : "310");
        due.is("not SYNCED by its LINK", x.count(8), 0);
        due.is("forget(1)", x.forget(1), 1);
        due.is("not SYNCED by forget()", x.count(8), 0);
        return x;
    }

    private static void syncedAtTheEndOfEach() {
        due.part("SYNCED: at the end of add() to rescan()");
        for (int call = 0; call < 7; call++) {
            LateBinder x = nearlySynced(call != 0);
            due.is("call " + call + " is not refused", change(x, call) >= 0 ? 1 : 0, 1);
            due.is("SYNCED by call " + call, x.count(8), 1);
            due.logEnds(x, 5, 0, -1);
        }
        due.part("SYNCED: not if refused");
        LateBinder x = nearlySynced(true);
        due.is("add", x.add(0), -1);
        due.is("remove", x.remove(3), -1);
        due.is("load", x.load(0), -1);
        due.is("unload", x.unload(3), -1);
        due.is("unbind", x.unbind(1), -1);
        due.is("bind", x.bind(0, 0), -1);
        due.is("count(8)", x.count(8), 0);
        due.is("nor by a question", x.would(1, 0), 1);
        due.is("count(8)", x.count(8), 0);
    }

    private static int change(LateBinder x, int call) {
        switch (call) {
            case 0: return x.add(2);
            case 1: return x.remove(2);
            case 2: return x.load(3);
            case 3: return x.unload(2);
            case 4: return x.unbind(2);
            case 5: return x.bind(1, 2);
            default: return x.rescan();
        }
    }
}
