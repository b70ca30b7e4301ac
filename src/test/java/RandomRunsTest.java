import java.nio.charset.StandardCharsets;
import java.util.NoSuchElementException;
import java.util.Random;

/** Random runs of calls on LateBinder and on Model: each answer, and all that can be asked, is alike. */
public final class RandomRunsTest {
    private static final int RUNS = 100;
    private static final int CALLS = 90;

    private final Random random;
    private final RandomTexts texts;
    private final long seed;
    private LateBinder binder;
    private Model model;
    private int wrong;
    private final StringBuilder story = new StringBuilder();

    private RandomRunsTest(long seed) {
        this.seed = seed;
        random = new Random(seed);
        texts = new RandomTexts(random);
    }

    public static void main(String[] args) {
        int runs = args.length > 0 ? Integer.parseInt(args[0]) : RUNS;
        int wrong = 0;
        for (int i = 0; i < runs && wrong == 0; i++) {
            RandomRunsTest run = new RandomRunsTest(1000 + i);
            run.play();
            wrong += run.wrong;
        }
        System.out.println(wrong == 0 ? runs + " random runs are alike" : wrong + " answers differ");
        if (wrong != 0) {
            System.exit(1);
        }
    }

    private void same(String call, long got, long want) {
        if (got != want && wrong < 5) {
            wrong++;
            System.out.println("seed " + seed + ":\n" + story + call + " answered " + got + ", due is " + want);
        }
    }

    private void play() {
        binder = new LateBinder();
        model = new Model();
        boards(random.nextInt(4));
        for (int i = 0; i < CALLS && wrong == 0; i++) {
            change();
            if (random.nextInt(4) == 0) {
                askAll();
            }
        }
        askAll();
    }

    // ---- boards

    private void boards(int faulty) {
        for (int i = 0; i < faulty; i++) {
            tell(texts.mutate(texts.text()));
        }
        for (int i = 0; i < 20; i++) {
            if (tell(texts.text()) >= 6) {
                return;
            }
        }
    }

    private int tell(String text) {
        story.append("board ").append(text.replace("\n", "\\n")).append('\n');
        byte[] bytes = text.getBytes(StandardCharsets.ISO_8859_1);
        for (int i = 0; i < bytes.length; i += 24) {
            long[] words = new long[3];
            for (int k = 0; k < 24; k++) {
                int b = i + k < bytes.length ? bytes[i + k] & 255 : 0;
                words[k / 8] = words[k / 8] << 8 | b;
            }
            same("feed", binder.feed(words[0], words[1], words[2]), model.feed(words[0], words[1], words[2]));
        }
        same("end", binder.end(bytes.length), model.end(bytes.length));
        if (bytes.length <= 7 && random.nextInt(2) == 0) {
            int what = random.nextInt(5) - 1;
            same("find " + text + what, binder.find(what), model.find(what));
            return NONE_TOLD;
        }
        int due = model.board();
        same("board", binder.board(), due);
        same("count(10)", binder.count(10), 0);
        return due;
    }

    private static final int NONE_TOLD = -1;

    // ---- calls

    private int number(int limit) {
        return random.nextInt(20) == 0 ? random.nextInt(limit + 4) - 2 : random.nextInt(Math.max(1, limit));
    }

    private void change() {
        int d = number(model.devs.size());
        int r = number(model.drvs.size());
        switch (random.nextInt(30)) {
            case 0: case 1: case 2: case 3: case 4: case 5:
                story.append("add ").append(d).append('\n');
                same("add " + d, binder.add(d), model.add(d));
                break;
            case 6: case 7:
                story.append("remove ").append(d).append('\n');
                same("remove " + d, binder.remove(d), model.remove(d));
                break;
            case 8: case 9: case 10: case 11: case 12:
                story.append("load ").append(r).append('\n');
                same("load " + r, binder.load(r), model.load(r));
                break;
            case 13: case 14:
                story.append("unload ").append(r).append('\n');
                same("unload " + r, binder.unload(r), model.unload(r));
                break;
            case 15: case 16: case 17:
                story.append("unbind ").append(d).append('\n');
                same("unbind " + d, binder.unbind(d), model.unbind(d));
                break;
            case 18: case 19: case 20:
                story.append("bind ").append(d).append(' ').append(r).append('\n');
                same("bind " + d + " " + r, binder.bind(d, r), model.bind(d, r));
                break;
            case 21:
                story.append("rescan\n");
                same("rescan", binder.rescan(), model.rescan());
                break;
            case 22: case 23:
                story.append("forget ").append(d).append('\n');
                same("forget " + d, binder.forget(d), model.forget(d));
                break;
            case 24:
                rare();
                break;
            default:
                int away = firstAway();
                story.append("add ").append(away).append('\n');
                same("add " + away, binder.add(away), model.add(away));
                break;
        }
    }

    private int firstAway() {
        for (Model.Dev d : model.devs) {
            if (d.state == 0) {
                return d.no;
            }
        }
        return 0;
    }

    private void rare() {
        if (random.nextInt(8) == 0) {
            boards(2);
        } else if (random.nextInt(2) == 0) {
            tell(texts.oneOf("a", "b", "p", "q", "u", "clk", "in", "clk ", "", "abcdefgh", "U", "zz"));
        } else {
            int n = random.nextInt(40) - 5;
            same("feed", binder.feed(n, 7L << 60, -1), model.feed(n, 7L << 60, -1));
            same("end " + n, binder.end(n), model.end(n));
            same("count(10)", binder.count(10), model.count(10));
            same("end 0", binder.end(0), model.end(0));
        }
    }

    private void askAll() {
        for (int w = -1; w <= 11; w++) {
            same("count " + w, binder.count(w), model.count(w));
        }
        for (int d = -1; d <= model.devs.size(); d++) {
            askDevice(d);
        }
        for (int r = -1; r <= model.drvs.size(); r++) {
            for (int w = -1; w <= 4; w++) {
                same("driver " + r + " " + w, binder.driver(r, w), model.driver(r, w));
            }
            for (int d = -1; d <= model.devs.size(); d++) {
                same("score " + r + " " + d, binder.score(r, d), model.score(r, d));
            }
        }
        for (int s = -1; s <= model.supplies.size(); s++) {
            for (int w = -1; w <= 3; w++) {
                same("supply " + s + " " + w, binder.supply(s, w), model.supply(s, w));
            }
        }
        for (int n = -1; n <= 16; n++) {
            same("taken " + n, binder.taken(n), model.taken(n));
        }
        for (int i = -1; i <= 50; i++) {
            for (int w = -1; w <= 3; w++) {
                same("log " + i + " " + w, logOf(i, w), logDue(i, w));
            }
        }
    }

    private void askDevice(int d) {
        for (int w = -1; w <= 12; w++) {
            same("device " + d + " " + w, binder.device(d, w), model.device(d, w));
        }
        for (int w = -1; w <= 7; w++) {
            same("links " + d + " " + w, binder.links(d, w), model.links(d, w));
        }
        for (int i = -2; i <= 8; i++) {
            same("line " + d + " " + i, binder.line(d, i), model.line(d, i));
        }
        for (int i = -2; i <= 12; i++) {
            same("order " + d + " " + i, binder.order(d, i), model.order(d, i));
            same("ring " + d + " " + i, binder.ring(d, i), model.ring(d, i));
        }
        for (int w = -1; w <= 3; w++) {
            same("would " + d + " " + w, binder.would(d, w), model.would(d, w));
        }
        if (random.nextInt(8) == 0) {
            for (int w = -1; w <= 2; w++) {
                same("wanted " + d + " " + w, binder.wanted(d, w), model.wanted(d, w));
            }
        }
    }

    private static final int THROWN = -99;

    private int logOf(int i, int w) {
        try {
            return binder.log(i, w);
        } catch (NoSuchElementException e) {
            return THROWN;
        }
    }

    private int logDue(int i, int w) {
        try {
            return model.log(i, w);
        } catch (NoSuchElementException e) {
            return THROWN;
        }
    }
}
