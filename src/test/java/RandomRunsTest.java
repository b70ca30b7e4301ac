import java.nio.charset.StandardCharsets;
import java.util.NoSuchElementException;
import java.util.Random;

/** Random runs of calls on LateBinder and on Model: each answer, and all that can be asked, is alike. */
public final class RandomRunsTest {
    private static final int RUNS = 100;
    private static final int CALLS = 90;

    private final Random random;
    private final long seed;
    private LateBinder binder;
    private Model model;
    private int wrong;
    /** A board with few SUPPLIES and many that MATCH, so that much is BOUND. */
    private boolean few;
    private final StringBuilder story = new StringBuilder();

    private RandomRunsTest(long seed) {
        this.seed = seed;
        random = new Random(seed);
    }

    public static void main(String[] args) {
        int runs = args.length > 0 ? Integer.parseInt(args[0]) : RUNS;
        int wrong = 0;
        for (int i = 0; i < runs && wrong == 0; i++) {
            RandomRunsTest run = new RandomRunsTest(1000 + i);
            run.play();
            wrong += run.wrong;
        }
        System.out.println(wrong == 0 ? runs + " random runs are alike" : wrong + " answers differ");
        if (wrong != 0) {
            System.exit(1);
        }
    }

    private void same(String call, long got, long want) {
        if (got != want && wrong < 5) {
            wrong++;
            System.out.println("seed " + seed + ":\n" + story + call + " answered " + got + ", due is " + want);
        }
    }

    private void play() {
        binder = new LateBinder();
        model = new Model();
        boards(random.nextInt(4));
        for (int i = 0; i < CALLS && wrong == 0; i++) {
            change();
            if (random.nextInt(4) == 0) {
                askAll();
            }
        }
        askAll();
    }

    // ---- boards

    private void boards(int faulty) {
        for (int i = 0; i < faulty; i++) {
            tell(mutate(text()));
        }
        for (int i = 0; i < 20; i++) {
            if (tell(text()) >= 6) {
                return;
            }
        }
    }

    private int tell(String text) {
        story.append("board ").append(text.replace("\n", "\\n")).append('\n');
        byte[] bytes = text.getBytes(StandardCharsets.ISO_8859_1);
        for (int i = 0; i < bytes.length; i += 24) {
            long[] words = new long[3];
            for (int k = 0; k < 24; k++) {
                int b = i + k < bytes.length ? bytes[i + k] & 255 : 0;
                words[k / 8] = words[k / 8] << 8 | b;
            }
            same("feed", binder.feed(words[0], words[1], words[2]), model.feed(words[0], words[1], words[2]));
        }
        same("end", binder.end(bytes.length), model.end(bytes.length));
        if (bytes.length <= 7 && random.nextInt(2) == 0) {
            int what = random.nextInt(5) - 1;
            same("find " + text + what, binder.find(what), model.find(what));
            return NONE_TOLD;
        }
        int due = model.board();
        same("board", binder.board(), due);
        same("count(10)", binder.count(10), 0);
        return due;
    }

    private static final int NONE_TOLD = -1;

    private String oneOf(String... all) {
        return all[random.nextInt(all.length)];
    }

    private String blank() {
        return oneOf(" ", " ", " ", "\n", "  ");
    }

    private String supplyName() {
        return few ? oneOf("u", "v") : oneOf("u", "v", "w", "clk", "a", "pwr");
    }

    private String id() {
        StringBuilder id = new StringBuilder();
        int n = 1 + random.nextInt(3);
        for (int i = 0; i < n; i++) {
            id.append(oneOf("x", "y", "1"));
        }
        return id.toString();
    }

    private String pattern() {
        StringBuilder p = new StringBuilder();
        if (few && random.nextInt(2) == 0) {
            return oneOf("*", "?*", "x*", "*1", "*y*");
        }
        int n = 1 + random.nextInt(4);
        for (int i = 0; i < n; i++) {
            p.append(oneOf("x", "y", "1", "?", "*", "*"));
        }
        return p.toString();
    }

    /** Each DEVICE has a DRIVER of its own that gives one SUPPLY and gets some of the others. */
    private String chain() {
        StringBuilder t = new StringBuilder();
        int n = 3 + random.nextInt(6);
        for (int i = 0; i < n; i++) {
            t.append("device ").append((char) ('a' + i)).append(" :").append((char) ('k' + i));
            if (i > 0 && random.nextInt(4) == 0) {
                t.append(" in ").append((char) ('a' + random.nextInt(i)));
            }
            if (random.nextInt(4) == 0) {
                t.append(" needs s").append((char) ('a' + random.nextInt(n)));
            }
            t.append(";driver ").append((char) ('p' + i)).append(" :").append((char) ('k' + i));
            if (random.nextInt(3) == 0) {
                t.append(" or :").append(random.nextInt(2) == 0 ? '?' : (char) ('k' + random.nextInt(n)));
            }
            if (random.nextInt(3) > 0) {
                int other = random.nextInt(4) > 0 && i > 0 ? random.nextInt(i) : random.nextInt(n);
                t.append(" get s").append((char) ('a' + other));
            }
            t.append(" give s").append((char) ('a' + i));
            t.append(random.nextInt(4) == 0 ? " " + step().replaceAll("(get|give) .*", "map 20") : "").append(';');
        }
        return t.toString();
    }

    private String text() {
        if (random.nextInt(2) == 0) {
            return chain();
        }
        StringBuilder text = new StringBuilder();
        few = random.nextInt(3) > 0;
        int devices = few ? 4 + random.nextInt(6) : random.nextInt(13);
        int drivers = 1 + random.nextInt(8);
        int dev = 0;
        int drv = 0;
        while (dev < devices || drv < drivers) {
            boolean device = drv >= drivers || dev < devices && random.nextInt(3) > 0;
            String more = device ? deviceText(dev) : driverText(drv);
            if (text.length() + more.length() > 600) {
                break;
            }
            text.append(more);
            dev += device ? 1 : 0;
            drv += device ? 0 : 1;
        }
        return text.toString();
    }

    private String deviceText(int n) {
        StringBuilder t = new StringBuilder("device").append(blank()).append((char) ('a' + n));
        t.append(oneOf("", " ")).append(':').append(id());
        if (n > 0 && random.nextInt(3) == 0) {
            t.append(" in").append(blank()).append((char) ('a' + random.nextInt(n)));
        }
        int needs = Math.max(0, random.nextInt(5) - (few ? 3 : 2));
        for (int i = 0; i < needs; i++) {
            t.append(" needs ").append(supplyName());
        }
        return t.append(oneOf(";", " ;", ";\n")).toString();
    }

    private String driverText(int n) {
        StringBuilder t = new StringBuilder("driver ").append((char) ('p' + n)).append(" :").append(pattern());
        int more = Math.max(0, random.nextInt(5) - 2);
        for (int i = 0; i < more; i++) {
            t.append(" or :").append(pattern());
        }
        int steps = random.nextInt(few ? 3 : 5);
        for (int i = 0; i < steps; i++) {
            t.append(' ').append(step());
        }
        return t.append(';').toString();
    }

    private String step() {
        switch (random.nextInt(random.nextInt(3) == 0 ? 6 : 5)) {
            case 0:
                return "map " + (random.nextInt(3) == 0 ? 1 + random.nextInt(99) : 1 + random.nextInt(9));
            case 1:
                return "line " + random.nextInt(random.nextInt(2) == 0 ? 16 : 2);
            case 2:
                return "get " + supplyName();
            case 3:
            case 4:
                return "give " + supplyName();
            default:
                return "break";
        }
    }

    private String mutate(String text) {
        StringBuilder t = new StringBuilder(text);
        int times = 1 + random.nextInt(2);
        for (int i = 0; i < times; i++) {
            int at = random.nextInt(t.length() + 1);
            String piece = oneOf(";", ":", " ", "a", "Z", "7", "?", "*", "device ", "in ", "needs q ", "or ",
                "map 0 ", "line 16 ", "map 100 ", "\t", "\0", "\u00e9", "needs map ", ":xxxxxxxxx ", "abcdefgh ",
                "needs qa needs qb needs qc ", " map 1 map 2 map 3 map 4 ", "driver p :x;", "device a :y;",
                "get qa give qb get qc give qd ", "or :x or :y or :1 ", "in a ");
            switch (random.nextInt(4)) {
                case 0:
                    t.delete(at, Math.min(t.length(), at + 1 + random.nextInt(4)));
                    break;
                case 1:
                    t.setLength(at);
                    break;
                default:
                    int word = t.lastIndexOf(" ", at) + 1;
                    t.insert(random.nextInt(3) > 0 ? word : at, piece);
                    break;
            }
        }
        if (random.nextInt(30) == 0) {
            while (t.length() < 600) {
                t.append(' ');
            }
        }
        if (t.length() > 648) {
            t.setLength(648);
        }
        return t.toString();
    }

    // ---- calls

    private int number(int limit) {
        return random.nextInt(20) == 0 ? random.nextInt(limit + 4) - 2 : random.nextInt(Math.max(1, limit));
    }

    private void change() {
        int d = number(model.devs.size());
        int r = number(model.drvs.size());
        switch (random.nextInt(30)) {
            case 0: case 1: case 2: case 3: case 4: case 5:
                story.append("add ").append(d).append('\n');
                same("add " + d, binder.add(d), model.add(d));
                break;
            case 6: case 7:
                story.append("remove ").append(d).append('\n');
                same("remove " + d, binder.remove(d), model.remove(d));
                break;
            case 8: case 9: case 10: case 11: case 12:
                story.append("load ").append(r).append('\n');
                same("load " + r, binder.load(r), model.load(r));
                break;
            case 13: case 14:
                story.append("unload ").append(r).append('\n');
                same("unload " + r, binder.unload(r), model.unload(r));
                break;
            case 15: case 16: case 17:
                story.append("unbind ").append(d).append('\n');
                same("unbind " + d, binder.unbind(d), model.unbind(d));
                break;
            case 18: case 19: case 20:
                story.append("bind ").append(d).append(' ').append(r).append('\n');
                same("bind " + d + " " + r, binder.bind(d, r), model.bind(d, r));
                break;
            case 21:
                story.append("rescan\n");
                same("rescan", binder.rescan(), model.rescan());
                break;
            case 22: case 23:
                story.append("forget ").append(d).append('\n');
                same("forget " + d, binder.forget(d), model.forget(d));
                break;
            case 24:
                rare();
                break;
            default:
                int away = firstAway();
                story.append("add ").append(away).append('\n');
                same("add " + away, binder.add(away), model.add(away));
                break;
        }
    }

    private int firstAway() {
        for (Model.Dev d : model.devs) {
            if (d.state == 0) {
                return d.no;
            }
        }
        return 0;
    }

    private void rare() {
        if (random.nextInt(8) == 0) {
            boards(2);
        } else if (random.nextInt(2) == 0) {
            tell(oneOf("a", "b", "p", "q", "u", "clk", "in", "clk ", "", "abcdefgh", "U", "zz"));
        } else {
            int n = random.nextInt(40) - 5;
            same("feed", binder.feed(n, 7L << 60, -1), model.feed(n, 7L << 60, -1));
            same("end " + n, binder.end(n), model.end(n));
            same("count(10)", binder.count(10), model.count(10));
            same("end 0", binder.end(0), model.end(0));
        }
    }

    private void askAll() {
        for (int w = -1; w <= 11; w++) {
            same("count " + w, binder.count(w), model.count(w));
        }
        for (int d = -1; d <= model.devs.size(); d++) {
            askDevice(d);
        }
        for (int r = -1; r <= model.drvs.size(); r++) {
            for (int w = -1; w <= 4; w++) {
                same("driver " + r + " " + w, binder.driver(r, w), model.driver(r, w));
            }
            for (int d = -1; d <= model.devs.size(); d++) {
                same("score " + r + " " + d, binder.score(r, d), model.score(r, d));
            }
        }
        for (int s = -1; s <= model.supplies.size(); s++) {
            for (int w = -1; w <= 3; w++) {
                same("supply " + s + " " + w, binder.supply(s, w), model.supply(s, w));
            }
        }
        for (int n = -1; n <= 16; n++) {
            same("taken " + n, binder.taken(n), model.taken(n));
        }
        for (int i = -1; i <= 50; i++) {
            for (int w = -1; w <= 3; w++) {
                same("log " + i + " " + w, logOf(i, w), logDue(i, w));
            }
        }
    }

    private void askDevice(int d) {
        for (int w = -1; w <= 12; w++) {
            same("device " + d + " " + w, binder.device(d, w), model.device(d, w));
        }
        for (int w = -1; w <= 7; w++) {
            same("links " + d + " " + w, binder.links(d, w), model.links(d, w));
        }
        for (int i = -2; i <= 8; i++) {
            same("line " + d + " " + i, binder.line(d, i), model.line(d, i));
        }
        for (int i = -2; i <= 12; i++) {
            same("order " + d + " " + i, binder.order(d, i), model.order(d, i));
            same("ring " + d + " " + i, binder.ring(d, i), model.ring(d, i));
        }
        for (int w = -1; w <= 3; w++) {
            same("would " + d + " " + w, binder.would(d, w), model.would(d, w));
        }
        if (random.nextInt(8) == 0) {
            for (int w = -1; w <= 2; w++) {
                same("wanted " + d + " " + w, binder.wanted(d, w), model.wanted(d, w));
            }
        }
    }

    private static final int THROWN = -99;

    private int logOf(int i, int w) {
        try {
            return binder.log(i, w);
        } catch (NoSuchElementException e) {
            return THROWN;
        }
    }

    private int logDue(int i, int w) {
        try {
            return model.log(i, w);
        } catch (NoSuchElementException e) {
            return THROWN;
        }
    }
}
