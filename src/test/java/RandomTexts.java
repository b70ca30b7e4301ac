import java.util.Random;

/** Texts of boards by chance: most are told without a FAULT. */
final class RandomTexts {
    private final Random random;
    /** A board with few SUPPLIES and many that MATCH, so that much is BOUND. */
    private boolean few;

    RandomTexts(Random random) {
        this.random = random;
    }

    String oneOf(String... all) {
        return all[random.nextInt(all.length)];
    }

    private String blank() {
        return oneOf(" ", " ", " ", "\n", "  ");
    }

    private String supplyName() {
        return few ? oneOf("u", "v") : oneOf("u", "v", "w", "clk", "a", "pwr");
    }

    private String id() {
        StringBuilder id = new StringBuilder();
        int n = 1 + random.nextInt(3);
        for (int i = 0; i < n; i++) {
            id.append(oneOf("x", "y", "1"));
        }
        return id.toString();
    }

    private String pattern() {
        StringBuilder p = new StringBuilder();
        if (few && random.nextInt(2) == 0) {
            return oneOf("*", "?*", "x*", "*1", "*y*");
        }
        int n = 1 + random.nextInt(4);
        for (int i = 0; i < n; i++) {
            p.append(oneOf("x", "y", "1", "?", "*", "*"));
        }
        return p.toString();
    }

    /** Each DEVICE has a DRIVER of its own that gives one SUPPLY and gets some of the others. */
    private String chain() {
        StringBuilder t = new StringBuilder();
        int n = 3 + random.nextInt(6);
        for (int i = 0; i < n; i++) {
            t.append("device ").append((char) ('a' + i)).append(" :").append((char) ('k' + i));
            if (i > 0 && random.nextInt(4) == 0) {
                t.append(" in ").append((char) ('a' + random.nextInt(i)));
            }
            if (random.nextInt(4) == 0) {
                t.append(" needs s").append((char) ('a' + random.nextInt(n)));
            }
            t.append(";driver ").append((char) ('p' + i)).append(" :").append((char) ('k' + i));
            if (random.nextInt(3) == 0) {
                t.append(" or :").append(random.nextInt(2) == 0 ? '?' : (char) ('k' + random.nextInt(n)));
            }
            if (random.nextInt(3) > 0) {
                int other = random.nextInt(4) > 0 && i > 0 ? random.nextInt(i) : random.nextInt(n);
                t.append(" get s").append((char) ('a' + other));
            }
            t.append(" give s").append((char) ('a' + i));
            t.append(random.nextInt(4) == 0 ? " " + step().replaceAll("(get|give) .*", "map 20") : "").append(';');
        }
        return t.toString();
    }

    String text() {
        if (random.nextInt(2) == 0) {
            return chain();
        }
        StringBuilder text = new StringBuilder();
        few = random.nextInt(3) > 0;
        int devices = few ? 4 + random.nextInt(6) : random.nextInt(13);
        int drivers = 1 + random.nextInt(8);
        int dev = 0;
        int drv = 0;
        while (dev < devices || drv < drivers) {
            boolean device = drv >= drivers || dev < devices && random.nextInt(3) > 0;
            String more = device ? deviceText(dev) : driverText(drv);
            if (text.length() + more.length() > 600) {
                break;
            }
            text.append(more);
            dev += device ? 1 : 0;
            drv += device ? 0 : 1;
        }
        return text.toString();
    }

    private String deviceText(int n) {
        StringBuilder t = new StringBuilder("device").append(blank()).append((char) ('a' + n));
        t.append(oneOf("", " ")).append(':').append(id());
        if (n > 0 && random.nextInt(3) == 0) {
            t.append(" in").append(blank()).append((char) ('a' + random.nextInt(n)));
        }
        int needs = Math.max(0, random.nextInt(5) - (few ? 3 : 2));
        for (int i = 0; i < needs; i++) {
            t.append(" needs ").append(supplyName());
        }
        return t.append(oneOf(";", " ;", ";\n")).toString();
    }

    private String driverText(int n) {
        StringBuilder t = new StringBuilder("driver ").append((char) ('p' + n)).append(" :").append(pattern());
        int more = Math.max(0, random.nextInt(5) - 2);
        for (int i = 0; i < more; i++) {
            t.append(" or :").append(pattern());
        }
        int steps = random.nextInt(few ? 3 : 5);
        for (int i = 0; i < steps; i++) {
            t.append(' ').append(step());
        }
        return t.append(';').toString();
    }

    private String step() {
        switch (random.nextInt(random.nextInt(3) == 0 ? 6 : 5)) {
            case 0:
                return "map " + (random.nextInt(3) == 0 ? 1 + random.nextInt(99) : 1 + random.nextInt(9));
            case 1:
                return "line " + random.nextInt(random.nextInt(2) == 0 ? 16 : 2);
            case 2:
                return "get " + supplyName();
            case 3:
            case 4:
                return "give " + supplyName();
            default:
                return "break";
        }
    }

    /** With something put in, left out or cut off, so that there is often a FAULT. */
    String mutate(String text) {
        StringBuilder t = new StringBuilder(text);
        int times = 1 + random.nextInt(2);
        for (int i = 0; i < times; i++) {
            int at = random.nextInt(t.length() + 1);
            String piece = oneOf(";", ":", " ", "a", "Z", "7", "?", "*", "device ", "in ", "needs q ", "or ",
                "map 0 ", "line 16 ", "map 100 ", "\t", "\0", "\u00e9", "needs map ", ":xxxxxxxxx ", "abcdefgh ",
                "needs qa needs qb needs qc ", " map 1 map 2 map 3 map 4 ", "driver p :x;", "device a :y;",
                "get qa give qb get qc give qd ", "or :x or :y or :1 ", "in a ");
            switch (random.nextInt(4)) {
                case 0:
                    t.delete(at, Math.min(t.length(), at + 1 + random.nextInt(4)));
                    break;
                case 1:
                    t.setLength(at);
                    break;
                default:
                    int word = t.lastIndexOf(" ", at) + 1;
                    t.insert(random.nextInt(3) > 0 ? word : at, piece);
                    break;
            }
        }
        if (random.nextInt(30) == 0) {
            while (t.length() < 600) {
                t.append(' ');
            }
        }
        if (t.length() > 648) {
            t.setLength(648);
        }
        return t.toString();
    }
}
