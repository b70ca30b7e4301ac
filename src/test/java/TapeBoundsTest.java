/** The bounds of the TAPE and of a new object: promises 1 to 4 and 25, at them, below and beyond. */
public final class TapeBoundsTest {
    private static final Due due = new Due();
    private static final long BLANKS = 0x2020202020202020L;
    private static final int MAX = Integer.MAX_VALUE;
    private static final int MIN = Integer.MIN_VALUE;

    public static void main(String[] args) {
        newObjectHasNothing();
        newObjectAnswersNoNumber();
        feedUpToTheBound();
        feedBeyondTheBound();
        feedHighestByteFirst();
        feedComesBehindWhatIsLeft();
        endAtItsBounds();
        endRefusedLeavesTheTape();
        boardOfNoBytes();
        boardOf600Bytes();
        boardRefusedChangesNothingElse();
        boardFaultChangesNothingElse();
        boardIsAnotherOne();
        boardBehindOthers();
        findByLength();
        findTheLastOnes();
        findAllOfTheTape();
        findRefusedEmptiesTheTape();
        due.finish("TapeBoundsTest");
    }

    private static LateBinder fedBlanks(int times) {
        LateBinder x = new LateBinder();
        for (int i = 0; i < times; i++) {
            x.feed(BLANKS, BLANKS, BLANKS);
        }
        return x;
    }

    private static void newObjectHasNothing() {
        due.part("1 a BOARD without LINES, an empty TAPE");
        LateBinder x = new LateBinder();
        due.is("count(0)", x.count(0), 0);
        due.is("count(1)", x.count(1), 0);
        due.is("count(2)", x.count(2), 0);
        due.is("count(3)", x.count(3), 99);
        due.is("count(10)", x.count(10), 0);
        due.is("end(1)", x.end(1), -1);
        due.is("end(0)", x.end(0), 0);
        due.is("find(0)", x.find(0), -1);
        for (int n = 0; n < 16; n++) {
            due.is("taken(" + n + ")", x.taken(n), -1);
        }
        due.alike("board() of no bytes", afterBoard(), Snapshot.of(new LateBinder()));
    }

    private static Snapshot afterBoard() {
        LateBinder x = new LateBinder();
        due.is("board()", x.board(), 0);
        return Snapshot.of(x);
    }

    private static void newObjectAnswersNoNumber() {
        due.part("1 a new object has no DEVICE, no DRIVER, no SUPPLY");
        for (int n : new int[] {MIN, -2, -1, 0, 1, 7, 8, 11, 12, 32, MAX}) {
            LateBinder x = new LateBinder();
            due.is("add " + n, x.add(n), -1);
            due.is("remove " + n, x.remove(n), -1);
            due.is("load " + n, x.load(n), -1);
            due.is("unload " + n, x.unload(n), -1);
            due.is("unbind " + n, x.unbind(n), -1);
            due.is("bind " + n, x.bind(n, n), -1);
            due.is("forget " + n, x.forget(n), -1);
            due.is("device " + n, x.device(n, 0), -2);
            due.is("links " + n, x.links(n, 0), -1);
            due.is("driver " + n, x.driver(n, 0), -1);
            due.is("score " + n, x.score(n, n), -1);
            due.is("line " + n, x.line(n, 0), -1);
            due.is("would " + n, x.would(n, 0), -1);
            due.is("order " + n, x.order(n, 0), -1);
            due.is("ring " + n, x.ring(n, -1), -1);
            due.is("wanted " + n, x.wanted(n, 0), -1);
            due.is("supply " + n, x.supply(n, 0), -2);
            due.is("log " + n, Due.log(x, n, 0), Due.THROWN);
            due.is("rescan", x.rescan(), 0);
            due.is("count(9)", x.count(9), 0);
        }
    }

    private static void feedUpToTheBound() {
        due.part("2 feed: how many it has");
        LateBinder x = new LateBinder();
        for (int i = 1; i <= 27; i++) {
            due.is("feed " + i, x.feed(i, -i, Long.MAX_VALUE), 24 * i);
            due.is("count(10)", x.count(10), 24 * i);
        }
        due.is("feed beyond 648", x.feed(0, 0, 0), -1);
        due.is("feed beyond 648 again", x.feed(-1, -1, -1), -1);
        due.is("count(10)", x.count(10), 648);
    }

    private static void feedBeyondTheBound() {
        due.part("2 feed: none come, if it would have more than 648");
        for (int left = 623; left <= 626; left++) {
            LateBinder x = fedBlanks(27);
            x.end(left);
            boolean comes = left <= 624;
            due.is("feed behind " + left, x.feed(BLANKS, BLANKS, BLANKS), comes ? left + 24 : -1);
            due.is("count(10)", x.count(10), comes ? left + 24 : left);
        }
        due.part("2 feed: what is refused leaves the bytes that are there");
        for (int left : new int[] {625, 640, 648}) {
            LateBinder x = new LateBinder();
            Due.feed(x, "device a :x;" + " ".repeat(left - 12));
            due.is("feed", x.feed(0, 0, 0), -1);
            due.is("count(10)", x.count(10), left);
            due.is("end(600)", x.end(600), 600);
            due.is("board()", x.board(), 1);
        }
    }

    private static void feedHighestByteFirst() {
        due.part("2 feed: of each the highest byte first");
        for (int place = 0; place < 24; place++) {
            long[] eights = {BLANKS, BLANKS, BLANKS};
            int shift = 56 - 8 * (place % 8);
            eights[place / 8] ^= (long) (' ' ^ ';') << shift;
            LateBinder x = new LateBinder();
            x.feed(eights[0], eights[1], eights[2]);
            due.is("a ; at " + place, x.board(), -2 - (8 * place + 1));
        }
    }

    private static void feedComesBehindWhatIsLeft() {
        due.part("2 feed: behind the TAPE");
        LateBinder x = new LateBinder();
        Due.feed(x, "device a");
        due.is("count(10)", x.count(10), 8);
        Due.feed(x, ":x;");
        due.is("count(10)", x.count(10), 11);
        Due.feed(x, "");
        Due.feed(x, "driver p :x;");
        due.is("count(10)", x.count(10), 23);
        due.is("board()", x.board(), 2);
    }

    private static void endAtItsBounds() {
        due.part("3 end: its first n bytes alone");
        for (int n : new int[] {MIN, -24, -1, 25, 48, 648, MAX}) {
            LateBinder x = fedBlanks(1);
            due.is("end(" + n + ") of 24", x.end(n), -1);
            due.is("count(10)", x.count(10), 24);
        }
        for (int n : new int[] {0, 1, 23, 24}) {
            LateBinder x = fedBlanks(1);
            due.is("end(" + n + ") of 24", x.end(n), n);
            due.is("count(10)", x.count(10), n);
            due.is("one more is not there", x.end(n + 1), -1);
            due.is("as many are", x.end(n), n);
        }
        LateBinder full = fedBlanks(27);
        due.is("end(649) of 648", full.end(649), -1);
        due.is("end(648) of 648", full.end(648), 648);
        due.is("end(647) of 648", full.end(647), 647);
        due.is("end(648) of 647", full.end(648), -1);
        due.is("end(0)", full.end(0), 0);
        due.is("end(1) of none", full.end(1), -1);
    }

    private static void endRefusedLeavesTheTape() {
        due.part("3 end: what is refused leaves the bytes that are there");
        for (int n : new int[] {-1, 13, MIN, MAX}) {
            LateBinder x = new LateBinder();
            Due.feed(x, "device a :x;");
            due.is("end(" + n + ")", x.end(n), -1);
            due.is("count(10)", x.count(10), 12);
            due.is("board()", x.board(), 1);
        }
        LateBinder cut = new LateBinder();
        Due.feed(cut, "device a :xyz");
        due.is("end(11)", cut.end(11), 11);
        Due.feed(cut, ";driver p :x;");
        due.is("board()", cut.board(), 2);
        due.is("score(0, 0): y and z are gone", cut.score(0, 0), 1);
    }

    private static void boardOfNoBytes() {
        due.part("4 board: of an empty TAPE, of blanks alone");
        for (String text : new String[] {"", " ", "\n", " ".repeat(600), "\n".repeat(599)}) {
            LateBinder x = standing();
            due.is("board() of " + text.length() + " blanks", Due.tell(x, text), 0);
            due.alike("board()", Snapshot.of(x), Snapshot.of(new LateBinder()));
        }
    }

    private static void boardOf600Bytes() {
        due.part("4 board: at most 600 bytes");
        String text = "device a :x;";
        for (int bytes : new int[] {12, 13, 599, 600, 601, 602, 624, 647, 648}) {
            int want = bytes <= 600 ? 1 : -1;
            LateBinder x = new LateBinder();
            due.is("blanks behind, " + bytes, Due.tell(x, text + " ".repeat(bytes - 12)), want);
            due.is("count(10)", x.count(10), 0);
            due.is("count(0)", x.count(0), want == 1 ? 1 : 0);
            x = new LateBinder();
            due.is("blanks ahead, " + bytes, Due.tell(x, "\n".repeat(bytes - 12) + text), want);
            due.is("count(0)", x.count(0), want == 1 ? 1 : 0);
        }
        due.part("4 board: a FAULT of more than 600 bytes is not told");
        due.is("601 bytes of ;", Due.tell(new LateBinder(), ";".repeat(601)), -1);
        due.is("600 bytes of ;", Due.tell(new LateBinder(), ";".repeat(600)), -3);
    }

    /** Some are BOUND, one is DEFERRED, one is AWAY; the TAPE is empty. */
    private static LateBinder standing() {
        LateBinder x = due.board("device a :a;device b :b needs u;device c :c needs w;device d :d;"
            + "driver p :a give u map 5 line 2;driver q :b;driver r :c;");
        for (int i = 0; i < 3; i++) {
            x.load(i);
            x.add(i);
        }
        due.states(x, "3320");
        return x;
    }

    private static void boardRefusedChangesNothingElse() {
        due.part("4 board: refused, it changes nothing but the TAPE");
        for (int bytes : new int[] {601, 648}) {
            LateBinder x = standing();
            due.is("board() of " + bytes, Due.tell(x, "device z :z;" + " ".repeat(bytes - 12)), -1);
            due.alike("board()", Snapshot.of(x), Snapshot.of(standing()));
        }
    }

    private static void boardFaultChangesNothingElse() {
        due.part("4 board: with a FAULT the BOARD that was stays");
        String[] texts = {";", "device z :z", "device z :z;device z :y;", "device z :*;", "driver z :z map 0;",
            "device y :a needs v;driver z :* give v break;driver z :x;", "device z :z needs v;device y :y in v;"};
        for (String text : texts) {
            LateBinder x = standing();
            due.is("board() of " + text + " has a FAULT", Due.tell(x, text) <= -3 ? 1 : 0, 1);
            due.alike("board()", Snapshot.of(x), Snapshot.of(standing()));
            due.is("find a", Due.find(x, "a", 0), 0);
            due.is("find z", Due.find(x, "z", 0), -1);
            due.is("find v", Due.find(x, "v", 2), -1);
        }
    }

    private static void boardIsAnotherOne() {
        due.part("4 board: without a FAULT all is AWAY, nothing LOADED, no LINKS, an empty LOG");
        String text = "device k :a;driver m :b map 3;device l :b in k needs u needs v;driver n :* give v;";
        LateBinder x = standing();
        due.is("board()", Due.tell(x, text), 4);
        due.alike("board()", Snapshot.of(x), Snapshot.of(due.board(text)));
        due.is("the same names again", Due.tell(x, text), 4);
        due.is("find a", Due.find(x, "a", 0), -1);
        due.is("find k", Due.find(x, "k", 0), 0);
    }

    private static final String RICH = "device a :x needs u needs v needs w;device b :x in a needs u;device c :x in b;"
        + "device d :x in c;driver p :* or :x or :? give u get v map 3 line 4 give w;driver q :* give v;"
        + "driver r :x map 9 map 8 map 7 map 6 map 5 map 4;";
    private static final String OTHER = "device e :x;device f :x in e needs z;device g :x needs y;device h :x in f;"
        + "driver s :? give z line 1 line 2;driver t :x get z give y;driver u :* or :x break;";
    private static final String POOR = "device i :x;device j :y needs u;device k :x;device l :x needs v;driver m :x;driver n :z;driver o :y line 3;";

    /** What was told, taken and written ahead of it does not come through. */
    private static void boardBehindOthers() {
        due.part("4 board: nothing of the BOARDS that were");
        String[][] rows = {{RICH, OTHER, POOR}, {OTHER, RICH, POOR}, {RICH, POOR}, {RICH, RICH + ";", POOR},
            {RICH + ";", POOR}, {POOR, RICH, OTHER}, {OTHER + "device", OTHER, RICH}, {RICH, OTHER, ""}};
        for (String[] texts : rows) {
            String last = texts[texts.length - 1];
            LateBinder x = new LateBinder();
            for (String text : texts) {
                start(x);
                Due.tell(x, text);
            }
            due.alike("board()", Snapshot.of(x), Snapshot.of(due.board(last)));
            LateBinder y = due.board(last);
            LateBinder z = new LateBinder();
            for (String text : texts) {
                Due.tell(z, text);
                start(z);
            }
            start(y);
            due.alike("load() and add()", Snapshot.of(z), Snapshot.of(y));
        }
    }

    private static void start(LateBinder x) {
        for (int i = 0; i < 3; i++) {
            x.load(i);
        }
        for (int i = 0; i < 4; i++) {
            x.add(i);
        }
    }

    private static void findByLength() {
        due.part("25 find: a WORD of 1 to 7 small letters");
        LateBinder x = due.board("device a :x;device z :x;device aaaaaaa :x;device zzzzzzz :x;device ab :x needs zzzzzzz;driver aa :x;");
        due.is("a", Due.find(x, "a", 0), 0);
        due.is("z", Due.find(x, "z", 0), 1);
        due.is("aaaaaaa", Due.find(x, "aaaaaaa", 0), 2);
        due.is("zzzzzzz", Due.find(x, "zzzzzzz", 0), 3);
        due.is("zzzzzzz, a SUPPLY", Due.find(x, "zzzzzzz", 2), 0);
        for (String word : new String[] {"", "aaaaaa", "aaaaaaaa", "zzzzzz", "zzzzzzzz", "aa", "b", "ba", "azzzzzzz",
            "A", "a1", "1", "{", "`", ":a", "a;", "device", "in"}) {
            due.is("'" + word + "'", Due.find(x, word, 0), -1);
        }
    }

    private static void findTheLastOnes() {
        due.part("25 find: the first and the last of each");
        StringBuilder text = new StringBuilder();
        for (int i = 0; i < 12; i++) {
            text.append("device d").append((char) ('a' + i)).append(":x;");
        }
        for (int i = 0; i < 8; i++) {
            text.append("driver r").append((char) ('a' + i)).append(":x get s").append((char) ('a' + i)).append(';');
        }
        LateBinder x = due.board(text.toString());
        for (int i = 0; i < 13; i++) {
            char c = (char) ('a' + i);
            due.is("d" + c, Due.find(x, "d" + c, 0), i < 12 ? i : -1);
            due.is("r" + c, Due.find(x, "r" + c, 1), i < 8 ? i : -1);
            due.is("s" + c, Due.find(x, "s" + c, 2), i < 8 ? i : -1);
            due.is("d" + c + ", no DRIVER", Due.find(x, "d" + c, 1), -1);
            due.is("r" + c + ", no SUPPLY", Due.find(x, "r" + c, 2), -1);
            due.is("s" + c + ", no DEVICE", Due.find(x, "s" + c, 0), -1);
        }
    }

    private static void findAllOfTheTape() {
        due.part("25 find: all of the TAPE, with no blanks");
        for (String tape : new String[] {" a", "a ", "\na", "a\n", "a\0", "\0a", "a a", "a".repeat(24), "a" + " ".repeat(647)}) {
            LateBinder x = due.board("device a :x;");
            due.is("'" + tape + "'", Due.find(x, tape, 0), -1);
            due.is("count(10)", x.count(10), 0);
        }
        LateBinder x = due.board("device a :x;");
        x.feed((long) 'a' << 56, 0, 0);
        due.is("24 bytes", x.find(0), -1);
        x.feed((long) 'a' << 56, 0, 0);
        x.end(1);
        due.is("1 byte", x.find(0), 0);
        due.is("the TAPE is empty then", x.count(10), 0);
        due.is("again", x.find(0), -1);
    }

    private static void findRefusedEmptiesTheTape() {
        due.part("25 find: refused, it changes nothing but the TAPE");
        for (int what : new int[] {MIN, -1, 3, 32, MAX}) {
            LateBinder x = standing();
            due.is("find(" + what + ")", Due.find(x, "a", what), -1);
            due.alike("find()", Snapshot.of(x), Snapshot.of(standing()));
        }
        for (int what = 0; what <= 2; what++) {
            LateBinder x = standing();
            due.is("none such", Due.find(x, "nn", what), -1);
            due.alike("find()", Snapshot.of(x), Snapshot.of(standing()));
        }
    }
}
