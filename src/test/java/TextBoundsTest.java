/** The bounds of a BOARD's text (Terms, part 1; promises 4, 16, 17): at them, below and beyond. */
public final class TextBoundsTest {
    private static final Due due = new Due();
    private static final String[] TOLD =
        {"device", "driver", "in", "needs", "or", "map", "line", "get", "give", "break"};

    public static void main(String[] args) {
        placesOfFaults();
        signsBetweenTokens();
        signsBehindAWord();
        signsBehindAnId();
        signsBehindAPattern();
        signsBehindANumber();
        blanksOrNot();
        lengthsOfWords();
        toldWords();
        nearlyToldWords();
        lengthsOfSigns();
        numbersOfMap();
        numbersOfLine();
        idWithPatternSigns();
        namesToldOnce();
        devicesToldAhead();
        twelveDevices();
        eightDrivers();
        threeNeeds();
        threePatterns();
        sixSteps();
        eightSupplies();
        numberedAsTold();
        firstAlongTheText();
        leastOfOneToken();
        whatCannotComeThere();
        endOfTheText();
        matching();
        matchingByLength();
        scores();
        patternsOfAll();
        equalScores();
        due.finish("TextBoundsTest");
    }

    private static String letters(int n) {
        return "abcdefghijk".substring(0, n);
    }

    /** The answer to this text on a new object. */
    private static int told(String text) {
        return Due.tell(new LateBinder(), text);
    }

    private static int faultAt(int place, int kind) {
        return -2 - (8 * place + kind);
    }

    private static boolean isLetter(int b) {
        return b >= 'a' && b <= 'z';
    }

    private static boolean isDigit(int b) {
        return b >= '0' && b <= '9';
    }

    private static boolean isBlank(int b) {
        return b == 32 || b == 10;
    }

    private static void placesOfFaults() {
        due.part("FAULT: its place, from 0 to the end");
        for (int place : new int[] {0, 1, 2, 23, 24, 255, 256, 598, 599}) {
            due.is("a ; at " + place, told(" ".repeat(place) + ";"), faultAt(place, 1));
        }
        due.is("a ; at 599, 600 bytes", told("\n".repeat(599) + ";"), -2 - (8 * 599 + 1));
        due.is("the end of 600 bytes", told(" ".repeat(594) + "device"), -2 - (8 * 600 + 1));
        due.is("kind 2, the last place", told(" ".repeat(583) + "driver p :x map 0"), faultAt(599, 2));
    }

    private static void signsBetweenTokens() {
        due.part("blanks (32, 10) between TOKENS");
        for (int b = 0; b < 256; b++) {
            int want = isBlank(b) ? 1 : isLetter(b) || isDigit(b) ? faultAt(0, 1) : faultAt(6, 1);
            due.is("device, byte " + b + ", a :x;", told("device" + (char) b + "a :x;"), want);
        }
    }

    private static void signsBehindAWord() {
        due.part("a WORD: small letters");
        for (int b = 0; b < 256; b++) {
            int want = isBlank(b) || isLetter(b) ? 1 : isDigit(b) ? faultAt(7, 1) : faultAt(8, 1);
            due.is("device a, byte " + b + ", :x;", told("device a" + (char) b + " :x;"), want);
        }
    }

    private static void signsBehindAnId() {
        due.part("an ID of small letters and digits");
        for (int b = 0; b < 256; b++) {
            boolean good = isBlank(b) || isLetter(b) || isDigit(b);
            int want = good ? 1 : b == '?' || b == '*' ? faultAt(9, 2) : b == ';' ? faultAt(12, 1) : faultAt(11, 1);
            due.is("device a :x, byte " + b, told("device a :x" + (char) b + ";"), want);
        }
    }

    private static void signsBehindAPattern() {
        due.part("a PATTERN of small letters, digits, ? and *");
        for (int b = 0; b < 256; b++) {
            boolean good = isBlank(b) || isLetter(b) || isDigit(b) || b == '?' || b == '*';
            int want = good ? 1 : b == ';' ? faultAt(12, 1) : faultAt(11, 1);
            due.is("driver p :x, byte " + b, told("driver p :x" + (char) b + ";"), want);
        }
    }

    private static void signsBehindANumber() {
        due.part("a NUMBER of digits");
        for (int b = 0; b < 256; b++) {
            boolean good = isBlank(b) || isDigit(b);
            int want = good ? 1 : isLetter(b) ? faultAt(16, 1) : b == ';' ? faultAt(18, 1) : faultAt(17, 1);
            due.is("driver p :x map 1, byte " + b, told("driver p :x map 1" + (char) b + ";"), want);
        }
    }

    private static void blanksOrNot() {
        due.part("blanks between TOKENS or not");
        due.is("none that can be left out", told("device a:x needs u;driver p:x or:y map 1 break;"), 2);
        due.is("many", told(" \n device \n a  :x\n\n needs\nu ;  driver  p :x   or\n:y ;\n"), 2);
        due.fault(1, "|devicea :x;");
        due.fault(1, "device a :x |needsu;");
        due.fault(1, "driver p :x |map1;");
        due.fault(1, "driver p :x map |1map 2;");
        due.fault(1, "device a |: x;");
        due.fault(1, "device a |:\nx;");
        due.fault(1, "|de vice a :x;");
        due.is("a PATTERN ends ahead of :", told("driver p :x:y;"), faultAt(11, 1));
    }

    private static void lengthsOfWords() {
        due.part("a WORD: 1 to 7 letters");
        for (int n = 1; n <= 9; n++) {
            String w = letters(n);
            boolean good = n <= 7;
            due.is("device " + w, told("device " + w + " :x;"), good ? 1 : faultAt(7, 1));
            due.is("driver " + w, told("driver " + w + " :x;"), good ? 1 : faultAt(7, 1));
            due.is("needs " + w, told("device z :x needs " + w + ";"), good ? 1 : faultAt(18, 1));
            due.is("get " + w, told("driver z :x get " + w + ";"), good ? 1 : faultAt(16, 1));
            due.is("give " + w, told("driver z :x give " + w + ";"), good ? 1 : faultAt(17, 1));
            due.is("in " + w, told("device " + letters(7) + " :x;device z :x in " + w + ";"),
                n == 7 ? 2 : faultAt(33, n < 7 ? 3 : 1));
        }
        due.is("device zzzzzzz", told("device zzzzzzz :x;"), 1);
        due.is("a LINE's first WORD of eight letters", told("devicesx z :x;"), -3);
    }

    private static void toldWords() {
        due.part("NAME, DEVICE, SUPPLY: none of those told here");
        for (String w : TOLD) {
            due.fault(1, "device |" + w + " :x;");
            due.fault(1, "driver |" + w + " :x;");
            due.fault(1, "device a :x;device b :x in |" + w + ";");
            due.fault(1, "device a :x needs |" + w + ";");
            due.fault(1, "driver p :x get |" + w + ";");
            due.fault(1, "driver p :x give |" + w + ";");
            boolean begins = w.equals("device") || w.equals("driver");
            due.is("a LINE's first WORD " + w, told(w + " a :x;"), begins ? 1 : -3);
        }
    }

    private static void nearlyToldWords() {
        due.part("NAMES that are nearly told words");
        for (String w : TOLD) {
            for (String name : new String[] {w.substring(1), w.substring(0, w.length() - 1), w + "s", "x" + w}) {
                due.is("device " + name, told("device " + name + " :x needs " + name + ";"), 1);
                due.is("driver " + name, told("driver " + name + " :x get " + name + " give " + name + ";"), 1);
            }
        }
    }

    private static void lengthsOfSigns() {
        due.part(": with 1 to 8 signs");
        for (int n = 0; n <= 10; n++) {
            boolean good = n >= 1 && n <= 8;
            String id = "a1b2c3d4e5".substring(0, n);
            due.is("ID of " + n, told("device a :" + id + ";"), good ? 1 : faultAt(9, 1));
            due.is("PATTERN of " + n, told("driver p :" + id + ";"), good ? 1 : faultAt(9, 1));
            due.is("PATTERN of * " + n, told("driver p :" + "*".repeat(n) + ";"), good ? 1 : faultAt(9, 1));
            due.is("PATTERN behind or, of " + n, told("driver p :x or :" + "?".repeat(n) + ";"), good ? 1 : faultAt(15, 1));
        }
    }

    private static void numbersOfMap() {
        due.part("map NUMBER (1 to 99), 1 or 2 digits");
        for (int v = 0; v <= 120; v++) {
            int want = v == 0 ? faultAt(16, 2) : v <= 99 ? 1 : faultAt(16, 1);
            due.is("map " + v, told("driver p :x map " + v + ";"), want);
            if (v < 10) {
                due.is("map 0" + v, told("driver p :x map 0" + v + ";"), want);
                due.is("map 00" + v, told("driver p :x map 00" + v + ";"), faultAt(16, 1));
            }
        }
        LateBinder x = bound("device a :x;driver p :x map 1 map 09 map 10;");
        due.is("1 and 9 and 10 of the POOL", x.device(0, 8), 20);
        due.is("99 of the POOL", bound("device a :x;driver p :x map 99;").count(3), 0);
        due.is("98 of the POOL", bound("device a :x;driver p :x map 98;").count(3), 1);
    }

    private static void numbersOfLine() {
        due.part("line NUMBER (0 to 15), 1 or 2 digits");
        for (int v = 0; v <= 120; v++) {
            int want = v <= 15 ? 1 : v <= 99 ? faultAt(17, 2) : faultAt(17, 1);
            due.is("line " + v, told("driver p :x line " + v + ";"), want);
            if (v <= 15) {
                LateBinder x = bound("device a :x;driver p :x line " + v + ";");
                due.is("device(0, 9), line " + v, x.device(0, 9), 1 << v);
                due.is("taken " + v, x.taken(v), 0);
            }
            if (v < 10) {
                due.is("line 0" + v, told("driver p :x line 0" + v + ";"), 1);
                due.is("line 00" + v, told("driver p :x line 00" + v + ";"), faultAt(17, 1));
            }
        }
    }

    private static LateBinder bound(String text) {
        LateBinder x = due.board(text);
        x.add(0);
        due.is("load(0) of " + text, x.load(0), 1);
        return x;
    }

    private static void idWithPatternSigns() {
        due.part("FAULT 2: an ID with ? or *");
        due.fault(2, "device a |:?;");
        due.fault(2, "device a |:*;");
        due.fault(2, "device a |:?xxxxxxx;");
        due.fault(2, "device a |:xxxxxxx*;");
        due.fault(2, "device a |:xxx?xxxx");
        due.fault(2, "device a :x;device b |:x? in z;");
        due.fault(1, "device a |:xxxxxxxx*;");
    }

    private static void namesToldOnce() {
        due.part("FAULT 3: a NAME told ahead");
        due.fault(3, "device a :x;device |a :x;");
        due.fault(3, "driver a :x;driver |a :x;");
        due.fault(3, "device a :x;driver |a :x;");
        due.fault(3, "driver a :x;device |a :x;");
        due.fault(3, "device abcdefg :x;device b :x;device |abcdefg");
        due.is("others", told("device a :x;device aa :x;device aaaaaaa :x;driver aaaaaa :x;"), 4);
        due.is("a SUPPLY's WORD as a NAME", told("device a :x needs b needs p;device b :x;driver p :x give a;"), 3);
        LateBinder x = new LateBinder();
        due.is("a FAULT behind it", Due.tell(x, "device a :x;driver p :x;;"), faultAt(24, 1));
        due.is("a NAME of a refused text is not told", Due.tell(x, "device p :x;driver a :x;"), 2);
        due.is("nor is one of the BOARD that was", Due.tell(x, "device a :x;driver p :x;"), 2);
    }

    private static void devicesToldAhead() {
        due.part("in: a DEVICE told ahead");
        due.fault(3, "device a :x in |a;");
        due.fault(3, "device a :x in |b;device b :x;");
        due.fault(3, "driver p :x;device a :x in |p;");
        due.fault(3, "device b :x needs u;device a :x in |u;");
        due.fault(3, "device a :x;device b :x in |aa;");
        StringBuilder text = new StringBuilder("device a:x;");
        for (int d = 1; d < 12; d++) {
            text.append("device ").append((char) ('a' + d)).append(":x in ").append(d == 11 ? 'k' : 'a').append(';');
        }
        LateBinder x = due.board(text.toString());
        for (int d = 0; d < 12; d++) {
            due.is("device(" + d + ", 2)", x.device(d, 2), d == 0 ? -1 : d == 11 ? 10 : 0);
        }
        LateBinder y = new LateBinder();
        Due.tell(y, "device z :x;");
        due.is("a DEVICE of the BOARD that was", Due.tell(y, "device a :x in z;"), faultAt(15, 3));
    }

    private static String devices(int n) {
        StringBuilder text = new StringBuilder();
        for (int i = 0; i < n; i++) {
            text.append("device d").append((char) ('a' + i)).append(":x;");
        }
        return text.toString();
    }

    private static String drivers(int n) {
        StringBuilder text = new StringBuilder();
        for (int i = 0; i < n; i++) {
            text.append("driver r").append((char) ('a' + i)).append(":x;");
        }
        return text.toString();
    }

    private static void twelveDevices() {
        due.part("12 DEVICES at most, FAULT 4 at the LINE's first WORD");
        for (int n = 11; n <= 12; n++) {
            LateBinder x = new LateBinder();
            due.is(n + " DEVICES", Due.tell(x, devices(n)), n);
            due.is("count(0)", x.count(0), n);
        }
        due.fault(4, devices(12) + "|device z :y;");
        due.fault(4, devices(12) + " \n |device");
        due.fault(4, devices(12) + "|device da :y;");
        due.fault(4, devices(12) + drivers(8) + "|device z :y;");
        due.is("12 DEVICES and a DRIVER", told(devices(12) + "driver p :x;"), 13);
        due.fault(1, devices(12) + "|devices");
    }

    private static void eightDrivers() {
        due.part("8 DRIVERS at most, FAULT 4 at the LINE's first WORD");
        for (int n = 7; n <= 8; n++) {
            LateBinder x = new LateBinder();
            due.is(n + " DRIVERS", Due.tell(x, drivers(n)), n);
            due.is("count(1)", x.count(1), n);
        }
        due.fault(4, drivers(8) + "|driver z :y;");
        due.fault(4, drivers(8) + "|driver");
        due.fault(4, drivers(8) + "|driver 7;");
        due.fault(4, drivers(8) + devices(12) + "|driver z :y;");
        due.is("8 DRIVERS and a DEVICE", told(drivers(8) + "device a :x;"), 9);
        due.is("all LINES that there may be", told(drivers(8) + devices(12)), 20);
    }

    private static void threeNeeds() {
        due.part("3 needs of a DEVICE at most, FAULT 4 at needs");
        String three = "device a :x needs u needs v needs w";
        due.is("2 needs", told("device a :x needs u needs v;"), 1);
        due.is("3 needs", told(three + ";"), 1);
        due.is("3 needs, all alike", told("device a :x needs u needs u needs u;"), 1);
        due.fault(4, three + " |needs z;");
        due.fault(4, three + " |needs u;");
        due.fault(4, three + " |needs 7;");
        due.fault(4, three + " |needs");
        due.is("3 needs of each", told(three + ";device b :x in a needs u needs v needs w;"), 2);
        LateBinder x = due.board(three + ";device b :x needs w;");
        due.is("supply(0, 1)", x.supply(0, 1), 1);
        due.is("supply(2, 1)", x.supply(2, 1), 3);
    }

    private static void threePatterns() {
        due.part("3 PATTERNS of a DRIVER at most, FAULT 4 at or");
        String three = "driver p :x or :y or :z";
        for (int n = 1; n <= 3; n++) {
            LateBinder x = due.board(three.substring(0, 11 + 6 * (n - 1)) + ";driver q :x;");
            due.is("driver(0, 2)", x.driver(0, 2), n);
            due.is("driver(1, 2)", x.driver(1, 2), 1);
        }
        due.fault(4, three + " |or :x;");
        due.fault(4, three + " |or 7;");
        due.fault(4, three + " |or");
        due.is("3 PATTERNS of each", told(three + ";" + three.replace("p", "q") + " break;"), 2);
    }

    private static void sixSteps() {
        due.part("6 STEPS of a DRIVER at most, FAULT 4 at the STEP's WORD");
        String steps = "";
        for (int n = 0; n <= 6; n++) {
            LateBinder x = due.board("driver p :x" + steps + ";driver q :x break;");
            due.is("driver(0, 1)", x.driver(0, 1), n);
            due.is("driver(1, 1)", x.driver(1, 1), 1);
            steps += new String[] {" map 1", " line 2", " get u", " give v", " break", " break", ""}[n];
        }
        for (String step : new String[] {"map 1", "line 0", "get u", "give u", "break", "map 0", "get 7", "line"}) {
            due.fault(4, "driver p :x" + steps + " |" + step + ";");
        }
        due.fault(1, "driver p :x" + steps + " |or :x;");
        due.fault(1, "driver p :x" + steps + " |z;");
        due.is("6 STEPS of each", told("driver p :x" + steps + ";driver q :x" + steps + ";"), 2);
    }

    private static void eightSupplies() {
        due.part("8 SUPPLIES at most, FAULT 4 at a SUPPLY");
        String seven = "device a :x needs sa needs sb needs sc;driver p :x get sd give se get sf give sg";
        due.is("count(2) of 7", due.board(seven + ";").count(2), 7);
        due.is("count(2) of 8 by get", due.board(seven + " get sh;").count(2), 8);
        due.is("count(2) of 8 by give", due.board(seven + " give sh;").count(2), 8);
        due.is("count(2) of 8 by needs", due.board(seven + ";device b :x needs sh;").count(2), 8);
        String eight = seven + " get sh";
        due.fault(4, eight + " get |si;");
        due.fault(4, eight + " give |si;");
        due.fault(4, eight + ";device b :x needs |si;");
        due.fault(4, eight + ";device b :x needs |a;");
        due.fault(4, eight + ";driver q :x give |si");
        due.fault(1, eight + " get |in;");
        due.fault(1, eight + " get |7;");
        LateBinder x = due.board(eight + " give sa;device b :x needs sh needs sa;driver q :x get sd give sh;");
        due.is("one that is told already is none more", x.count(2), 8);
        due.is("supply(7, 1)", x.supply(7, 1), 2);
        due.is("supply(7, 2)", x.supply(7, 2), 2);
        due.is("supply(0, 1)", x.supply(0, 1), 3);
        due.is("supply(0, 2)", x.supply(0, 2), 1);
        due.is("a NAME is no SUPPLY by itself", due.board("device a :x;driver p :x;").count(2), 0);
    }

    private static void numberedAsTold() {
        due.part("each numbered from 0 as told, SUPPLIES as they come first");
        LateBinder x = due.board("driver p :x give u get w;device a :x needs v needs u;driver q :x get a;device b :x in a needs p;");
        due.is("p", Due.find(x, "p", 1), 0);
        due.is("q", Due.find(x, "q", 1), 1);
        due.is("a", Due.find(x, "a", 0), 0);
        due.is("b", Due.find(x, "b", 0), 1);
        String[] supplies = {"u", "w", "v", "a", "p"};
        for (int s = 0; s < 5; s++) {
            due.is(supplies[s], Due.find(x, supplies[s], 2), s);
        }
        due.is("q is no SUPPLY", Due.find(x, "q", 2), -1);
    }

    private static void firstAlongTheText() {
        due.part("FAULT: the first along the text");
        due.fault(3, "device a :x;device |a :?;");
        due.fault(2, "device a |:? in 7;");
        due.fault(2, "driver p :x map |0 map 7a;");
        due.fault(3, "device a :x in |z needs device;");
        due.fault(4, "device a :x needs u needs u needs u |needs device;");
        due.fault(1, "|; device a :?;");
        due.fault(4, "driver p :x or :x or :x |or :xxxxxxxxx;");
        due.fault(2, "driver p :x line |16 line 7 \u00ff");
        due.fault(1, "device a :x|\u00ff; device a :*;");
    }

    private static void leastOfOneToken() {
        due.part("FAULT: of one TOKEN the least");
        due.fault(1, "device |in :x;");
        due.fault(1, "device a :x in |device;");
        due.fault(1, "device a |:?********;");
        due.fault(1, "driver p :x map |000;");
        due.fault(1, "driver p :x line |160;");
        due.fault(1, "driver p :x or :y or :z map 1 |or :x;");
        due.fault(1, "device a :x needs sa needs sb needs sc;driver p :x get sd get se get sf get sg get sh;device b :x needs |break;");
        due.fault(1, "device a :x needs u needs u needs u |in a;");
    }

    /** Behind each TOKEN every kind of TOKEN that can't come there, at the place where it begins. */
    private static void whatCannotComeThere() {
        due.part("FAULT 1: a TOKEN that can't come there");
        String all = "device driver in needs or map line get give break 7 12 :x :? ; word";
        String[][] there = {
            {"", "device driver"},
            {"device", "word"},
            {"device a", ":x :?"},
            {"device a :x", "in needs ;"},
            {"device a :x;device b :x in", "word"},
            {"device a :x;device b :x in a", "needs ;"},
            {"device a :x needs", "word"},
            {"device a :x needs u", "needs ;"},
            {"device a :x;", "device driver"},
            {"driver", "word"},
            {"driver p", ":x :?"},
            {"driver p :x", "or map line get give break ;"},
            {"driver p :x or", ":x :?"},
            {"driver p :x or :y", "or map line get give break ;"},
            {"driver p :x map", "7 12"},
            {"driver p :x line", "7 12"},
            {"driver p :x get", "word"},
            {"driver p :x give", "word"},
            {"driver p :x map 7", "map line get give break ;"},
            {"driver p :x line 7", "map line get give break ;"},
            {"driver p :x get u", "map line get give break ;"},
            {"driver p :x give u", "map line get give break ;"},
            {"driver p :x break", "map line get give break ;"},
            {"driver p :x;", "device driver"}};
        for (String[] row : there) {
            String ahead = row[0].isEmpty() ? "" : row[0] + " ";
            for (String token : all.split(" ")) {
                int place = ahead.length();
                int got = told(ahead + token);
                boolean can = (" " + row[1] + " ").contains(" " + token + " ");
                due.is("whether FAULT 1 is at the end of " + ahead + token, got == faultAt(place, 1) ? 1 : 0, can ? 0 : 1);
            }
            for (String none : new String[] {"$", "A", "_", "\u00ff", "\t", "\0", "abcdefgh", "1a", "a1", "123", ":", ":abcdefghi",
                "?", "*", "/", "-1", "\r"}) {
                due.fault(1, ahead.length(), ahead + none);
                due.fault(1, ahead.length(), ahead + none + " :x;");
            }
        }
    }

    private static void endOfTheText() {
        due.part("FAULT 1: the end, its place is how many bytes there are");
        String line = "device a :x;driver p :x or :y map 7 line 12 get u give v break;device b :z in a needs u;";
        for (int bytes = 0; bytes <= line.length(); bytes++) {
            String text = line.substring(0, bytes);
            boolean whole = text.isEmpty() || text.endsWith(";");
            int lines = text.length() - text.replace(";", "").length();
            boolean token = bytes == line.length() || !isLetter(line.charAt(bytes)) && !isDigit(line.charAt(bytes));
            if (whole) {
                due.is("board() of " + text, told(text), lines);
                due.is("board() of it and a blank", told(text + "\n"), lines);
            } else if (token && !text.endsWith(":")) {
                due.fault(1, bytes, text);
                due.fault(1, bytes + 2, text + " \n");
            }
        }
    }

    private static int score(String id, String patterns) {
        LateBinder x = due.board("device a :" + id + ";driver p :" + patterns.replace(" ", " or :") + ";");
        return x.score(0, 0);
    }

    private static void matching() {
        due.part("MATCHES: ? is any one sign, * any signs, also none");
        String[] rows = {
            "x x 1", "x y -1", "x xx -1", "xx x -1", "x ? 0", "x ?? -1", "xx ? -1", "xx ?? 0", "x * 0", "x *x 1", "x x* 1",
            "x *x* 1", "x **x** 1", "x *?* 0", "x *??* -1", "x x? -1", "x ?x -1", "x ?* 0", "x *? 0", "xy x*y 2", "xzy x*y 2",
            "xzzzzzzy x*y 2", "xy x?y -1", "xzy x?y 2", "xzzy x?y -1", "xyx x*x 2", "x x*x -1", "xx x*x 2", "ab ba -1",
            "abab *ab 2", "abab ab* 2", "ababa *b*b* 2", "aba *b*b* -1", "aab *ab 2", "aaab *a?b 2", "12 1? 1", "12 ?2 1",
            "12 *1 -1", "12 2* -1", "x1 x? 1", "0 0 1", "9 9 1", "z z 1", "abc a*c* 2", "abcab *ab 2", "abcabd *ab -1"};
        for (String row : rows) {
            String[] cells = row.split(" ");
            due.is(cells[0] + " by " + cells[1], score(cells[0], cells[1]), Integer.parseInt(cells[2]));
        }
    }

    private static void matchingByLength() {
        due.part("MATCHES: an ID of 1 to 8 signs");
        for (int n = 1; n <= 8; n++) {
            String id = "a1b2c3d4".substring(0, n);
            for (int k = 1; k <= 8; k++) {
                due.is(id + " by " + k + " ?", score(id, "?".repeat(k)), k == n ? 0 : -1);
                due.is(id + " by " + k + " *", score(id, "*".repeat(k)), 0);
                String head = "a1b2c3d4".substring(0, k);
                due.is(id + " by " + head, score(id, head), k == n ? n : -1);
                if (k < 8) {
                    due.is(id + " by " + head + "*", score(id, head + "*"), k <= n ? k : -1);
                    due.is(id + " by " + head + "?", score(id, head + "?"), k + 1 == n ? k : -1);
                }
            }
        }
    }

    private static void scores() {
        due.part("SCORE: of PATTERNS that MATCH the greatest, 0 to 8; NONE: none MATCHES");
        due.is("8", score("abcdefgh", "abcdefgh"), 8);
        due.is("7 and ?", score("abcdefgh", "abcdefg?"), 7);
        due.is("0", score("abcdefgh", "*"), 0);
        due.is("none of three", score("a", "b c ??"), -1);
        due.is("the first of three", score("abc", "abc a* *"), 3);
        due.is("the second of three", score("abc", "a* ab? *"), 2);
        due.is("the third of three", score("abc", "* a* abc"), 3);
        due.is("one that does not MATCH does not count", score("abc", "abcd ??? abd"), 0);
        due.is("the last one alone MATCHES", score("abc", "b c ?bc"), 2);
    }

    private static void patternsOfAll() {
        due.part("3 PATTERNS of each of 8 DRIVERS");
        StringBuilder text = new StringBuilder();
        for (int d = 0; d < 12; d++) {
            text.append("device d").append(Boards.letter(d)).append(":").append(Boards.letter(d)).append(";");
        }
        for (int r = 0; r < 8; r++) {
            char own = Boards.letter(r);
            text.append("driver r").append(own).append(":").append(own).append(" or:z or:").append(own).append("*;");
        }
        LateBinder x = due.board(text.toString());
        for (int r = 0; r < 8; r++) {
            for (int d = 0; d < 12; d++) {
                due.is("score(" + r + ", " + d + ")", x.score(r, d), r == d ? 1 : -1);
            }
        }
    }

    private static void equalScores() {
        due.part("in LINE: by SCORE, downwards, of equal ones the lowest");
        LateBinder x = due.board("device a :ab;driver i :*;driver j :a*;driver k :ab;driver l :??;driver m :?b;driver n :ab;"
            + "driver o :b;driver p :*b;");
        int[] want = {2, 5, 1, 4, 7, 0, 3, -1};
        for (int r = 7; r >= 0; r--) {
            x.load(r);
        }
        for (int i = 0; i < want.length; i++) {
            due.is("line(0, " + i + ")", x.line(0, i), want[i]);
        }
        due.part("in LINE: all eight, none");
        LateBinder all = due.board("device a :x;device b :y;" + drivers(8));
        due.is("none is LOADED", all.line(0, 0), -1);
        for (int r = 7; r >= 0; r--) {
            all.load(r);
            due.is("the lowest that is LOADED", all.line(0, 0), r);
            due.is("the last of them", all.line(0, 7 - r), 7);
            due.is("one beyond", all.line(0, 8 - r), -1);
        }
        due.is("none MATCHES", all.line(1, 0), -1);
    }
}
