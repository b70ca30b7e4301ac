import java.nio.charset.StandardCharsets;

/** Promises 1 to 4, 16, 17, 25: a new object, the TAPE, the text of the BOARD, patterns, names. */
public final class BoardTextTest {
    private static final Due due = new Due();

    public static void main(String[] args) {
        newObject();
        tape();
        faultsOfTokens();
        faultsOfDevices();
        faultsOfDrivers();
        faultsOfNumbers();
        tooMany();
        boardTakesTheTape();
        goodTexts();
        scores();
        lines();
        names();
        due.finish("BoardTextTest");
    }

    private static void newObject() {
        due.part("1 a new object");
        LateBinder x = new LateBinder();
        for (int what = 0; what <= 10; what++) {
            due.is("count(" + what + ")", x.count(what), what == 3 ? 99 : 0);
        }
        due.is("count(-1)", x.count(-1), -1);
        due.is("count(11)", x.count(11), -1);
        due.is("add(0)", x.add(0), -1);
        due.is("rescan()", x.rescan(), 0);
        due.is("log", Due.log(x, 0, 0), Due.THROWN);
        due.is("end(0)", x.end(0), 0);
        due.is("board()", x.board(), 0);
    }

    private static void tape() {
        due.part("2 feed");
        LateBinder x = new LateBinder();
        due.is("feed", x.feed(0x6465766963652061L, 0x203a7820696e2062L, 0x3b00000000000000L), 24);
        due.is("board: the highest byte is the first", x.board(), -2 - (8 * 15 + 3));
        for (int i = 1; i <= 27; i++) {
            due.is("feed " + i, x.feed(-1, 0, Long.MIN_VALUE), 24 * i);
        }
        due.is("feed 28", x.feed(1, 2, 3), -1);
        due.is("count(10)", x.count(10), 648);
        due.part("3 end");
        due.is("end(649)", x.end(649), -1);
        due.is("end(-1)", x.end(-1), -1);
        due.is("end(MIN)", x.end(Integer.MIN_VALUE), -1);
        due.is("end(MAX)", x.end(Integer.MAX_VALUE), -1);
        due.is("count(10)", x.count(10), 648);
        due.is("end(648)", x.end(648), 648);
        due.is("end(625)", x.end(625), 625);
        due.is("feed", x.feed(0, 0, 0), -1);
        due.is("end(624)", x.end(624), 624);
        due.is("feed", x.feed(0, 0, 0), 648);
        due.is("end(5)", x.end(5), 5);
        due.is("end(6)", x.end(6), -1);
        due.is("count(10)", x.count(10), 5);
        due.is("end(0)", x.end(0), 0);
        due.is("count(10)", x.count(10), 0);
    }

    private static void faultsOfTokens() {
        due.part("4 board, TOKENS");
        due.fault(1, "|;");
        due.fault(1, " \n |;");
        due.fault(1, "|x a :x;");
        due.fault(1, "|7;");
        due.fault(1, "|:x;");
        due.fault(1, "device a :x;|;");
        due.fault(1, "device |abcdefgh :x;");
        due.fault(1, "device |a1 :x;");
        due.fault(1, "device a|B :x;");
        due.fault(1, "|Device a :x;");
        due.fault(1, "device|\ta :x;");
        due.fault(1, "device a :x|\r;");
        due.fault(1, "device a :x|\u00e1;");
        due.fault(1, "device a :x|\0;");
        due.fault(1, "device a |: x;");
        due.fault(1, "device a |:;");
        due.fault(1, "device a |:xxxxxxxxx;");
        due.fault(1, "device a |:********x;");
        due.fault(1, "device a :x |:y;");
        due.fault(1, "device a :x|");
        due.fault(1, "device a :x \n |");
        due.fault(1, "device|");
        due.fault(1, "device a|");
        due.fault(1, "device a :x;driver p :x map|");
        due.fault(1, "device a |;");
    }

    private static void faultsOfDevices() {
        due.part("4 board, DEVICES");
        for (String told : new String[] {"device", "driver", "in", "needs", "or", "map", "line", "get", "give", "break"}) {
            due.fault(1, "device |" + told + " :x;");
            due.fault(1, "driver |" + told + " :x;");
            due.fault(1, "device a :x in |" + told + ";");
            due.fault(1, "device a :x needs |" + told + ";");
            due.fault(1, "driver p :x get |" + told + ";");
            due.fault(1, "driver p :x give |" + told + ";");
        }
        due.fault(1, "device |:x;");
        due.fault(1, "device a |x1;");
        due.fault(2, "device a |:x*;");
        due.fault(2, "device a |:?;");
        due.fault(3, "device a :x;device |a :y;");
        due.fault(3, "device a :x;driver |a :y;");
        due.fault(3, "driver p :x;device |p :y;");
        due.fault(3, "driver p :x;driver |p :y;");
        due.fault(3, "device a :x in |a;");
        due.fault(3, "device a :x in |b;device b :y;");
        due.fault(3, "driver p :x;device a :x in |p;");
        due.fault(1, "device a :x in |7;");
        due.fault(1, "device a :x;device b :y in a |in a;");
        due.fault(1, "device a :x;device b :y needs u |in a;");
        due.fault(1, "device a :x needs |7;");
        due.fault(1, "device a :x needs u |u;");
        due.fault(1, "device a :x |or :y;");
        due.fault(1, "device a :x |map 1;");
        due.fault(4, "device a :x needs u needs v needs u |needs u;");
    }

    private static void faultsOfDrivers() {
        due.part("4 board, DRIVERS");
        due.fault(1, "driver p |x;");
        due.fault(1, "driver p |map 1;");
        due.fault(1, "driver p :x or |or;");
        due.fault(1, "driver p :x or |y;");
        due.fault(1, "driver p :x |in a;");
        due.fault(1, "driver p :x |needs u;");
        due.fault(1, "driver p :x map 1 |or :y;");
        due.fault(1, "driver p :x break |7;");
        due.fault(1, "driver p :x get |7;");
        due.fault(1, "driver p :x give |:u;");
        due.fault(1, "driver p :x |get1 u;");
        due.fault(1, "driver p:x*map |1;");
        due.fault(4, "driver p :x or :y or :z |or :x;");
        due.fault(4, "driver p :x break map 1 line 2 get u give v break |break;");
    }

    private static void faultsOfNumbers() {
        due.part("4 board, NUMBERS");
        due.fault(2, "driver p :x map |0;");
        due.fault(2, "driver p :x map |00;");
        due.fault(1, "driver p :x map |100;");
        due.fault(1, "driver p :x map |007;");
        due.fault(1, "driver p :x map |1a;");
        due.fault(1, "driver p :x map |u;");
        due.fault(1, "driver p :x map |;");
        due.fault(1, "driver p :x |map7;");
        due.fault(2, "driver p :x line |16;");
        due.fault(2, "driver p :x line |99;");
        due.fault(1, "driver p :x line |160;");
        due.board("driver p :x map 1 map 01 map 99 line 0 line 00 line 15;");
    }

    private static void tooMany() {
        due.part("4 board, one more than there may be");
        StringBuilder t = new StringBuilder();
        for (int i = 0; i < 12; i++) {
            t.append("device ").append((char) ('a' + i)).append(":x;");
        }
        due.board(t.toString());
        due.fault(4, t + "|device z :y;");
        due.fault(4, t + "|device ;");
        StringBuilder r = new StringBuilder();
        for (int i = 0; i < 8; i++) {
            r.append("driver ").append((char) ('m' + i)).append(":x;");
        }
        due.board(t.toString() + r);
        due.fault(4, r + "|driver z :y;");
        due.fault(4, r + "device a :x;|driver");
        String eight = "device a :x needs sa needs sb needs sc;driver p :x get sd give se get sf get sg give sh";
        due.board(eight + " get sa;");
        due.fault(4, eight + " get |si;");
        due.fault(4, eight + ";device b :x needs sa needs |si;");
        due.fault(4, eight + ";driver q :x give |si;");
    }

    private static void boardTakesTheTape() {
        due.part("4 board, the TAPE and what was");
        LateBinder x = due.board("device a :x;driver p :x give u;");
        x.add(0);
        x.load(0);
        String text = "device b :y;device c :z;";
        due.is("601 bytes", Due.tell(x, text + " ".repeat(601 - text.length())), -1);
        due.is("count(10)", x.count(10), 0);
        due.is("a FAULT", Due.tell(x, text + "|"), -2 - (8 * 24 + 1));
        due.is("count(4)", x.count(4), 1);
        due.is("count(0)", x.count(0), 1);
        due.is("count(9)", x.count(9), 2);
        due.is("600 bytes", Due.tell(x, text + "\n".repeat(600 - text.length())), 2);
        due.is("count(0)", x.count(0), 2);
        due.is("count(1)", x.count(1), 0);
        due.is("count(2)", x.count(2), 0);
        due.is("count(4)", x.count(4), 0);
        due.is("count(6)", x.count(6), 0);
        due.is("count(9)", x.count(9), 0);
        due.states(x, "00");
        due.is("600 bytes without an end", Due.tell(x, "device a :x" + " ".repeat(589)), -2 - (8 * 600 + 1));
        due.is("end of 648 bytes", feedMany(x), -1);
    }

    private static int feedMany(LateBinder x) {
        for (int i = 0; i < 27; i++) {
            x.feed(0x2020202020202020L, 0x2020202020202020L, 0x2020202020202020L);
        }
        return x.board();
    }

    private static void goodTexts() {
        due.part("4 board, good texts");
        LateBinder x = due.board("device a:x1;\ndevice b :y2 in a needs u needs b needs p;\n"
            + "driver p:* or:?? or :x1 map 9 line 15 get u give p break;");
        due.is("count(0)", x.count(0), 2);
        due.is("count(1)", x.count(1), 1);
        due.is("count(2)", x.count(2), 3);
        due.is("driver(0, 1)", x.driver(0, 1), 5);
        due.is("driver(0, 2)", x.driver(0, 2), 3);
        due.is("device(1, 2)", x.device(1, 2), 0);
        due.is("device(0, 2)", x.device(0, 2), -1);
        due.is("supply(0, 1)", x.supply(0, 1), 2);
        due.is("supply(2, 2)", x.supply(2, 2), 1);
    }

    private static void scores() {
        due.part("16 score");
        LateBinder x = due.board("device a :abc;device b :a;device c :aaaabbbb;device d :1x1;"
            + "driver p :abc or :a*;driver q :?? or :*b* or :???;driver r :a or :*;driver s :*a*b*b;"
            + "driver t :aaaabbbb or :1?1;driver u :****??**;driver v :a?c* or :*c or :**abc**;");
        int[][] want = {
            {3, 1, 1, -1}, {1, -1, 1, 0}, {0, 1, 0, 0}, {-1, -1, 3, -1},
            {-1, -1, 8, 2}, {0, -1, 0, 0}, {3, -1, -1, -1}};
        for (int r = 0; r < want.length; r++) {
            for (int d = 0; d < 4; d++) {
                due.is("score(" + r + ", " + d + ")", x.score(r, d), want[r][d]);
            }
        }
        due.is("score(7, 0)", x.score(7, 0), -1);
        due.is("score(-1, 0)", x.score(-1, 0), -1);
        due.is("score(0, 4)", x.score(0, 4), -1);
        due.is("score(0, -1)", x.score(0, -1), -1);
        due.is("score(MAX, MIN)", x.score(Integer.MAX_VALUE, Integer.MIN_VALUE), -1);
    }

    private static void lines() {
        due.part("17 line");
        LateBinder x = due.board("device a :abc;driver p :*;driver q :abc;driver r :a*;driver s :?b?;driver t :zz;driver u :?bc;");
        due.is("line(0, 0)", x.line(0, 0), -1);
        for (int r = 5; r >= 0; r--) {
            x.load(r);
        }
        int[] want = {1, 5, 2, 3, 0, -1};
        for (int i = 0; i < want.length; i++) {
            due.is("line(0, " + i + ")", x.line(0, i), want[i]);
        }
        x.unload(1);
        x.unload(3);
        due.is("line(0, 0)", x.line(0, 0), 5);
        due.is("line(0, 1)", x.line(0, 1), 2);
        due.is("line(0, 2)", x.line(0, 2), 0);
        due.is("line(0, 3)", x.line(0, 3), -1);
        due.is("line(0, -1)", x.line(0, -1), -1);
        due.is("line(1, 0)", x.line(1, 0), -1);
        due.is("line(-1, 0)", x.line(-1, 0), -1);
        due.is("line(0, MAX)", x.line(0, Integer.MAX_VALUE), -1);
    }

    private static void names() {
        due.part("25 find");
        LateBinder x = due.board("device a :x;device longest :x needs u;driver p :x give p get zzzzzzz;driver q :x;");
        due.is("a 0", Due.find(x, "a", 0), 0);
        due.is("longest 0", Due.find(x, "longest", 0), 1);
        due.is("q 1", Due.find(x, "q", 1), 1);
        due.is("p 1", Due.find(x, "p", 1), 0);
        due.is("p 2", Due.find(x, "p", 2), 1);
        due.is("u 2", Due.find(x, "u", 2), 0);
        due.is("zzzzzzz 2", Due.find(x, "zzzzzzz", 2), 2);
        due.is("p 0", Due.find(x, "p", 0), -1);
        due.is("a 1", Due.find(x, "a", 1), -1);
        due.is("a 2", Due.find(x, "a", 2), -1);
        due.is("with a blank", Due.find(x, "a ", 0), -1);
        due.is("with a blank ahead", Due.find(x, " a", 0), -1);
        due.is("device", Due.find(x, "device", 0), -1);
        due.is("empty", Due.find(x, "", 0), -1);
        due.is("eight letters", Due.find(x, "longestx", 0), -1);
        due.is("a capital", Due.find(x, "A", 0), -1);
        due.is("what 3", Due.find(x, "a", 3), -1);
        due.is("count(10): a refused one reads, too", x.count(10), 0);
        due.is("what -1", Due.find(x, "a", -1), -1);
        due.is("count(10)", x.count(10), 0);
        Due.feed(x, new String(new byte[] {'a', 0}, StandardCharsets.ISO_8859_1));
        due.is("with a zero", x.find(0), -1);
        due.is("count(10)", x.count(10), 0);
    }
}
