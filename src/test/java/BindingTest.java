/** Promises 5 to 12, with 13 to 15, 22 to 24, 26: what binds, what lets go, what is remembered. */
public final class BindingTest {
    private static final Due due = new Due();

    public static void main(String[] args) {
        add();
        remove();
        removeBranches();
        load();
        unload();
        unbind();
        letGoOrder();
        bind();
        rescan();
        forget();
        reasons();
        above();
        ownThings();
        passes();
        synced();
        log();
        questionsOfOthers();
        due.finish("BindingTest");
    }

    private static void add() {
        due.part("5 add");
        LateBinder x = due.board("device a :a;device b :b in a;device c :c needs u;"
            + "driver p :a give u;driver q :b or :c;driver r :zz;");
        due.is("add(1): its PARENT is AWAY", x.add(1), -1);
        due.is("add(3)", x.add(3), -1);
        due.is("add(-1)", x.add(-1), -1);
        due.is("count(9)", x.count(9), 0);
        x.load(1);
        due.is("add(2): deferred", x.add(2), 2);
        due.is("add(2) again", x.add(2), -1);
        due.is("add(0): none in LINE", x.add(0), 1);
        due.reason(x, 0, 0, -1);
        due.is("add(1)", x.add(1), 2);
        due.row(x, 2, 1);
        due.is("remove(0)", x.remove(0), 2);
        x.load(0);
        due.is("add(0): bound, the ROW behind it", x.add(0), 3);
        due.states(x, "303");
        due.is("add(1)", x.add(1), 3);
        due.is("add(1) when BOUND", x.add(1), -1);
        due.row(x);
    }

    private static void remove() {
        due.part("6 remove");
        LateBinder x = due.board("device a :a;device b :b in a;device c :b in b;device d :d needs u;device e :b;"
            + "driver p :a map 5 line 2;driver q :b give u;driver r :d;");
        due.is("remove(0) when AWAY", x.remove(0), -1);
        due.is("remove(5)", x.remove(5), -1);
        due.is("remove(-1)", x.remove(-1), -1);
        for (int r = 0; r < 3; r++) {
            x.load(r);
        }
        x.add(0);
        x.add(1);
        x.add(2);
        due.reason(x, 2, 6, 1);
        x.add(3);
        due.states(x, "33130");
        due.is("remove(0)", x.remove(0), 3);
        due.states(x, "00020");
        due.reason(x, 2, 0, -1);
        due.row(x, 3);
        due.is("count(3)", x.count(3), 99);
        due.is("links(3, 2)", x.links(3, 2), 2);
        due.logEnds(x, 4, 3, 2, 8, 1, 0, 4, 1, 1, 6, 0, 2, 7, 0, 5, 4, 0, 0);
        due.is("remove(3): DEFERRED", x.remove(3), 1);
        due.row(x);
        due.reason(x, 3, 0, -1);
    }

    private static void removeBranches() {
        due.part("6 remove, the highest number first");
        LateBinder x = due.board("device a :a;device b :a in a;device c :a in a;device d :a in b;device e :a in c;"
            + "driver p :a;");
        x.load(0);
        for (int d = 0; d < 5; d++) {
            due.is("add(" + d + ")", x.add(d), 3);
        }
        due.is("remove(0)", x.remove(0), 5);
        due.logEnds(x, 4, 4, 0, 4, 3, 0, 4, 2, 0, 4, 1, 0, 4, 0, 0);
        due.row(x);
        x.add(0);
        x.add(1);
        x.add(2);
        due.is("remove(2): AWAY ones are not counted", x.remove(2), 1);
        due.is("remove(0)", x.remove(0), 2);
    }

    private static void load() {
        due.part("7 load");
        LateBinder x = due.board("device a :a;device b :b needs u;device c :c;device d :a in c;"
            + "driver p :a give u;driver q :b;driver r :c;driver s :b or :a break;");
        x.add(0);
        x.add(1);
        x.add(2);
        x.add(3);
        due.is("load(4)", x.load(4), -1);
        due.is("load(-1)", x.load(-1), -1);
        due.is("load(1)", x.load(1), 0);
        due.is("load(1) again", x.load(1), -1);
        due.states(x, "1211");
        due.is("load(0): those that it MATCHES, then the ROW", x.load(0), 2);
        due.states(x, "3312");
        due.reason(x, 3, 1, 2);
        due.is("load(2): one in a pass FAILS", x.load(2), 1);
        due.states(x, "3331");
        due.reason(x, 3, 6, 0);
        due.is("count(6)", x.count(6), 7);
        due.is("load(3): it FAILS", x.load(3), 0);
        due.reason(x, 3, 7, -1);
        due.logEnds(x, 1, 2, 2, 3, 3, 0, 3, 3, 0, 3, 3, 3);
    }

    private static void unload() {
        due.part("8 unload");
        LateBinder x = due.board("device a :a;device b :b;device c :a in b;device d :d needs u;"
            + "driver p :a;driver q :b give u;driver r :d;");
        for (int r = 0; r < 3; r++) {
            x.load(r);
        }
        for (int d = 0; d < 4; d++) {
            due.is("add(" + d + ")", x.add(d), 3);
        }
        due.is("unload(3)", x.unload(3), -1);
        due.is("unload(-1)", x.unload(-1), -1);
        due.is("driver(0, 3)", x.driver(0, 3), 2);
        due.is("unload(0)", x.unload(0), 2);
        due.is("unload(0) again", x.unload(0), -1);
        due.logEnds(x, 4, 2, 0, 4, 0, 0);
        due.states(x, "1313");
        due.row(x);
        due.is("load(0)", x.load(0), 2);
        due.is("unload(1): those behind it are DEFERRED", x.unload(1), 3);
        due.states(x, "3122");
        due.row(x, 2, 3);
        due.logEnds(x, 4, 2, 0, 4, 3, 2, 8, 1, 0, 4, 1, 1);
        due.is("driver(1, 0)", x.driver(1, 0), 0);
        due.is("driver(1, 3)", x.driver(1, 3), 0);
    }

    private static void unbind() {
        due.part("9 unbind");
        LateBinder x = due.board("device a :a;device b :b in a;driver p :a;driver q :b;");
        x.load(0);
        x.load(1);
        x.add(0);
        x.add(1);
        due.is("unbind(2)", x.unbind(2), -1);
        due.is("unbind(-1)", x.unbind(-1), -1);
        due.is("unbind(0)", x.unbind(0), 2);
        due.states(x, "12");
        due.row(x, 1);
        due.reason(x, 0, 0, -1);
        due.reason(x, 1, 0, -1);
        due.is("unbind(0): IDLE", x.unbind(0), -1);
        due.is("unbind(1): DEFERRED", x.unbind(1), -1);
        due.is("rescan()", x.rescan(), 2);
        due.is("unbind(1)", x.unbind(1), 1);
        due.states(x, "31");
    }

    private static void letGoOrder() {
        due.part("LET GO, the one BOUND latest first");
        LateBinder x = due.board("device a :a;device b :b needs u;device c :c needs u needs v;device d :d in a;"
            + "driver p :a give u;driver q :b give v;driver r :c;driver s :d;");
        for (int r = 0; r < 4; r++) {
            x.load(r);
        }
        x.add(0);
        x.add(3);
        x.add(1);
        x.add(2);
        due.order(x, 2, 1, 3, 0);
        due.is("links(0, 5)", x.links(0, 5), 15);
        due.is("links(1, 5)", x.links(1, 5), 6);
        due.is("unbind(3)", x.unbind(3), 1);
        due.is("bind(3, 3)", x.bind(3, 3), 3);
        due.order(x, 3, 2, 1, 0);
        due.order(x, 2, 1);
        due.is("unbind(0)", x.unbind(0), 4);
        due.row(x, 3, 2, 1);
        due.logEnds(x, 4, 3, 3, 4, 2, 2, 8, 1, 1, 4, 1, 1, 8, 0, 0, 4, 0, 0);
    }

    private static void bind() {
        due.part("10 bind");
        LateBinder x = due.board("device a :a;device b :b;driver p :a give u;driver q :zz get u;driver r :zz break;driver s :zz;");
        x.add(0);
        x.add(1);
        due.is("bind: not LOADED", x.bind(0, 0), -1);
        x.load(1);
        x.load(2);
        due.is("bind: no DEVICE", x.bind(2, 1), -1);
        due.is("bind: no DEVICE", x.bind(-1, 1), -1);
        due.is("bind: no DRIVER", x.bind(0, 4), -1);
        due.is("bind: no DRIVER", x.bind(0, -1), -1);
        due.is("bind: it does not MATCH", x.bind(1, 1), 2);
        due.reason(x, 1, 2, 0);
        due.row(x, 1);
        due.is("bind: it FAILS", x.bind(1, 2), 1);
        due.reason(x, 1, 7, -1);
        due.row(x);
        due.is("bind(0, 1)", x.bind(0, 1), 2);
        due.is("bind(1, 1)", x.bind(1, 1), 2);
        due.is("bind(0, 1): it keeps its place", x.bind(0, 1), 2);
        due.row(x, 0, 1);
        x.load(3);
        due.is("bind(0, 3)", x.bind(0, 3), 3);
        due.is("a pass finds none in LINE for the other", x.device(1, 0), 1);
        due.reason(x, 1, 2, 0);
        due.row(x);
        due.is("bind: BOUND", x.bind(0, 3), -1);
        x.remove(0);
        due.is("bind: AWAY", x.bind(0, 3), -1);
    }

    private static void rescan() {
        due.part("11 rescan");
        LateBinder x = due.board("device a :a needs u;device b :b;device c :c needs w;driver p :a;driver q :b give u;driver r :c;");
        due.is("rescan()", x.rescan(), 0);
        for (int r = 0; r < 3; r++) {
            x.load(r);
        }
        for (int d = 0; d < 3; d++) {
            x.add(d);
        }
        due.states(x, "332");
        x.unbind(1);
        x.unbind(1);
        due.states(x, "212");
        due.row(x, 2, 0);
        due.is("rescan(): by numbers, then the ROW", x.rescan(), 2);
        due.states(x, "332");
        due.row(x, 2);
        due.logEnds(x, 2, 0, 0, 1, 1, 1, 2, 2, 2, 2, 2, 2, 1, 0, 0, 2, 2, 2, 5, 1, -1);
        due.is("rescan(): nothing new", x.rescan(), 0);
        due.logEnds(x, 5, 1, -1, 2, 2, 2);
    }

    private static void forget() {
        due.part("12 forget");
        LateBinder x = due.board("device a :a;device b :b;device c :c;driver p :a give u;driver q :b give v;"
            + "driver r :c get u get v;driver s :zz get u;");
        for (int r = 0; r < 4; r++) {
            x.load(r);
        }
        for (int d = 0; d < 3; d++) {
            x.add(d);
        }
        due.is("forget(3)", x.forget(3), -1);
        due.is("forget(-1)", x.forget(-1), -1);
        due.is("links(2, 2)", x.links(2, 2), 3);
        due.is("forget(2): it CONSUMES both", x.forget(2), 0);
        x.unbind(2);
        due.is("bind(2, 3)", x.bind(2, 3), 3);
        due.is("links(2, 0)", x.links(2, 0), 1);
        due.is("links(2, 2)", x.links(2, 2), 3);
        due.is("count(7)", x.count(7), 2);
        due.is("forget(2)", x.forget(2), 1);
        due.is("links(2, 2)", x.links(2, 2), 1);
        x.remove(2);
        due.is("links(2, 2): AWAY", x.links(2, 2), 1);
        due.is("links(0, 3)", x.links(0, 3), 4);
        due.is("forget(2): AWAY", x.forget(2), 1);
        due.is("count(7)", x.count(7), 0);
    }

    private static void reasons() {
        due.part("REASONS");
        LateBinder x = due.board("device a :a;device b :b in a;device c :c needs w;device d :d;"
            + "driver p :a line 3 map 60 give u;driver q :b get u;driver r :zz map 40;driver s :zz line 4 map 39 line 3;"
            + "driver t :zz map 1 give v give u;driver u :zz break;driver v :zz map 7 get w;driver w :zz map 39;");
        for (int r = 1; r < 8; r++) {
            x.load(r);
        }
        for (int d = 0; d < 4; d++) {
            x.add(d);
        }
        due.is("bind(1, 1)", x.bind(1, 1), 2);
        due.reason(x, 1, 1, 0);
        due.is("bind(2, 7)", x.bind(2, 7), 2);
        due.reason(x, 2, 2, 0);
        x.load(0);
        due.states(x, "3311");
        due.reason(x, 1, 0, -1);
        due.is("count(3)", x.count(3), 39);
        due.is("taken(3)", x.taken(3), 0);
        due.is("bind(3, 2)", x.bind(3, 2), 1);
        due.reason(x, 3, 5, -1);
        due.is("bind(3, 3)", x.bind(3, 3), 1);
        due.reason(x, 3, 4, 0);
        due.logEnds(x, 7, 3, 39, 6, 3, 4, 3, 3, 3);
        due.is("taken(4)", x.taken(4), -1);
        due.is("bind(3, 4)", x.bind(3, 4), 1);
        due.reason(x, 3, 6, 0);
        due.logEnds(x, 8, 3, 2, 7, 3, 1, 3, 3, 4);
        due.is("bind(3, 5)", x.bind(3, 5), 1);
        due.reason(x, 3, 7, -1);
        due.is("bind(3, 6)", x.bind(3, 6), 2);
        due.reason(x, 3, 2, 0);
        due.logEnds(x, 7, 3, 7, 2, 3, 6);
        due.is("bind(3, 7): all that is left", x.bind(3, 7), 3);
        due.is("count(3)", x.count(3), 0);
        due.reason(x, 3, 0, -1);
        due.is("links(3, 0)", x.links(3, 0), 0);
    }

    private static void above() {
        due.part("ABOVE: it FAILS by 3");
        LateBinder x = due.board("device a :a;device b :b;device c :c in b;driver p :zz give u;driver q :zz get u;"
            + "driver r :zz map 3 get u;driver s :zz give v;");
        for (int r = 0; r < 4; r++) {
            x.load(r);
        }
        for (int d = 0; d < 3; d++) {
            x.add(d);
        }
        x.bind(0, 0);
        due.is("bind(1, 1)", x.bind(1, 1), 3);
        due.is("bind(2, 3)", x.bind(2, 3), 3);
        due.is("links(2, 4)", x.links(2, 4), 3);
        due.is("links(1, 4)", x.links(1, 4), 1);
        due.is("links(0, 4)", x.links(0, 4), 0);
        due.is("unbind(0)", x.unbind(0), 3);
        due.is("bind(1, 0)", x.bind(1, 0), 3);
        due.states(x, "131");
        due.is("bind(0, 2): it is ABOVE by a LINK", x.bind(0, 2), 1);
        due.reason(x, 0, 3, 1);
        due.logEnds(x, 7, 0, 3, 3, 0, 2);
        due.is("links(0, 2)", x.links(0, 2), 0);
        x.unbind(1);
        x.bind(1, 3);
        due.is("bind(2, 0)", x.bind(2, 0), 3);
        due.is("bind(0, 2): ABOVE one that is ABOVE it", x.bind(0, 2), 1);
        due.reason(x, 0, 3, 2);
        due.is("forget(1)", x.forget(1), 1);
        due.is("bind(0, 2): the LINK is forgotten", x.bind(0, 2), 3);
        due.is("links(0, 4)", x.links(0, 4), 6);
        due.is("device(0, 7)", x.device(0, 7), 2);
        due.is("device(2, 7)", x.device(2, 7), 1);
        due.is("device(1, 7)", x.device(1, 7), 0);
    }

    private static void ownThings() {
        due.part("of its own");
        LateBinder x = due.board("device a :a;driver p :a give u get u map 4 line 0 map 5 line 15;driver q :zz line 7 line 7;"
            + "driver r :zz give v give v;driver s :zz get u give u;");
        x.add(0);
        due.is("load(0)", x.load(0), 1);
        due.is("links(0, 0)", x.links(0, 0), 0);
        due.is("count(7)", x.count(7), 0);
        due.is("device(0, 7)", x.device(0, 7), 0);
        due.is("device(0, 8)", x.device(0, 8), 9);
        due.is("device(0, 9)", x.device(0, 9), 0x8001);
        due.is("device(0, 10)", x.device(0, 10), 1);
        due.is("unload(0)", x.unload(0), 1);
        due.logEnds(x, 6, 0, 15, 7, 0, 5, 6, 0, 0, 7, 0, 4, 8, 0, 0, 4, 0, 0);
        due.is("device(0, 8)", x.device(0, 8), 0);
        due.is("device(0, 9)", x.device(0, 9), 0);
        due.is("device(0, 10)", x.device(0, 10), 0);
        x.load(1);
        x.load(2);
        x.load(3);
        due.is("bind(0, 1)", x.bind(0, 1), 1);
        due.reason(x, 0, 4, 0);
        due.is("bind(0, 2)", x.bind(0, 2), 1);
        due.reason(x, 0, 6, 0);
        due.is("bind(0, 3)", x.bind(0, 3), 2);
        due.reason(x, 0, 2, 0);
    }

    private static void passes() {
        due.part("passes along the ROW");
        LateBinder x = due.board("device a :a needs v;device b :b needs u;device c :c;device d :d needs w;"
            + "driver p :a give w;driver q :b give v;driver r :c give u;driver s :d;");
        x.load(0);
        x.load(1);
        x.load(3);
        for (int d = 0; d < 4; d++) {
            x.add(d);
        }
        due.row(x, 0, 1, 3);
        due.is("load(2)", x.load(2), 4);
        due.states(x, "3333");
        due.row(x);
        due.logEnds(x, 1, 2, 2, 2, 0, 0, 1, 1, 1, 2, 3, 3, 1, 0, 0, 1, 3, 3, 5, 0, -1, 5, 1, -1, 5, 2, -1);
        due.is("device(3, 7)", x.device(3, 7), 3);
        due.is("links(3, 4)", x.links(3, 4), 7);
        due.part("a pass after the last that binds");
        x = due.board("device a :a needs z;device b :b;driver p :a;driver q :b;");
        x.load(0);
        x.load(1);
        x.add(0);
        due.is("count(9)", x.count(9), 1);
        due.is("add(1)", x.add(1), 3);
        due.is("count(9)", x.count(9), 3);
        due.logEnds(x, 2, 0, 0, 1, 1, 1, 2, 0, 0);
    }

    private static void synced() {
        due.part("SYNCED");
        LateBinder x = due.board("device a :a;device b :b needs u;device c :c;device d :d;"
            + "driver p :a give u;driver q :b;driver r :c get u;driver s :d;");
        x.load(0);
        x.load(3);
        x.add(1);
        x.add(0);
        due.is("device(0, 6): one needs it", x.device(0, 6), 0);
        due.is("load(1)", x.load(1), 1);
        due.is("count(8)", x.count(8), 1);
        due.logEnds(x, 1, 1, 1, 5, 0, -1);
        x.add(3);
        due.is("device(3, 6): it GIVES nothing", x.device(3, 6), 0);
        x.load(2);
        x.add(2);
        due.is("unbind(2)", x.unbind(2), 1);
        due.is("it is so till it is LET GO", x.count(8), 1);
        due.is("unbind(0)", x.unbind(0), 2);
        due.is("count(8)", x.count(8), 0);
        x.unload(2);
        due.is("bind(0, 0)", x.bind(0, 0), 3);
        due.states(x, "3313");
        due.is("a LINK of one that is IDLE", x.count(8), 0);
        due.is("forget(2)", x.forget(2), 1);
        due.is("not by forget", x.count(8), 0);
        due.is("add(0) is refused", x.add(0), -1);
        due.is("not by what is refused", x.count(8), 0);
        due.is("rescan()", x.rescan(), 0);
        due.is("count(8)", x.count(8), 1);
        due.part("SYNCED when the last one goes AWAY");
        x = due.board("device a :a;device b :b needs u;driver p :a give u;");
        x.load(0);
        x.add(0);
        due.is("an AWAY one does not matter", x.count(8), 1);
        x.unbind(0);
        x.add(1);
        x.rescan();
        due.is("count(8)", x.count(8), 0);
        x.remove(1);
        due.is("count(8)", x.count(8), 1);
    }

    private static void log() {
        due.part("24 log");
        LateBinder x = due.board("device a :a;driver p :a map 5;");
        x.add(0);
        x.load(0);
        due.is("log(0, 0)", Due.log(x, 0, 0), 1);
        due.is("log(0, -1)", Due.log(x, 0, -1), Due.THROWN);
        due.is("log(0, 3)", Due.log(x, 0, 3), Due.THROWN);
        due.is("log(1, 0)", Due.log(x, 1, 0), Due.THROWN);
        due.is("log(-1, 0)", Due.log(x, -1, 0), Due.THROWN);
        for (int i = 0; i < 20; i++) {
            x.unbind(0);
            x.rescan();
        }
        due.is("count(9)", x.count(9), 50);
        for (int i = 0; i < 50; i++) {
            due.is("log(" + i + ", 0)", Due.log(x, i, 0), i % 3 == 0 ? 1 : i % 3 == 1 ? 4 : 7);
            due.is("log(" + i + ", 2)", Due.log(x, i, 2), i % 3 == 2 ? 5 : 0);
        }
        due.is("log(50, 0)", Due.log(x, 50, 0), Due.THROWN);
        due.is("log(MAX, 0)", Due.log(x, Integer.MAX_VALUE, 0), Due.THROWN);
    }

    private static void questionsOfOthers() {
        due.part("13, 14, 15, 22, 23: others");
        LateBinder x = due.board("device a :a;driver p :a map 1 give u;");
        for (int what : new int[] {-1, 12, Integer.MAX_VALUE}) {
            due.is("device(0, " + what + ")", x.device(0, what), -2);
        }
        for (int d : new int[] {-1, 1, 12, Integer.MIN_VALUE}) {
            due.is("device(" + d + ", 0)", x.device(d, 0), -2);
            due.is("links(" + d + ", 0)", x.links(d, 0), -1);
            due.is("driver(" + d + ", 0)", x.driver(d, 0), -1);
            due.is("supply(" + d + ", 0)", x.supply(d, 0), -2);
        }
        due.is("links(0, -1)", x.links(0, -1), -1);
        due.is("links(0, 7)", x.links(0, 7), -1);
        due.is("driver(0, -1)", x.driver(0, -1), -1);
        due.is("driver(0, 4)", x.driver(0, 4), -1);
        due.is("supply(0, -1)", x.supply(0, -1), -2);
        due.is("supply(0, 3)", x.supply(0, 3), -2);
        due.is("taken(-1)", x.taken(-1), -2);
        due.is("taken(16)", x.taken(16), -2);
        due.is("taken(15)", x.taken(15), -1);
        due.is("driver(0, 0)", x.driver(0, 0), 0);
        x.add(0);
        x.load(0);
        due.is("driver(0, 0)", x.driver(0, 0), 1);
        due.is("driver(0, 3)", x.driver(0, 3), 1);
        due.is("device(0, 1)", x.device(0, 1), 0);
        due.is("supply(0, 0)", x.supply(0, 0), 0);
        x.unbind(0);
        due.is("supply(0, 0)", x.supply(0, 0), -1);
        due.is("device(0, 1)", x.device(0, 1), -1);
        due.is("device(0, 7)", x.device(0, 7), -1);
    }
}
