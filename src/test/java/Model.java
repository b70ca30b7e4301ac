import java.nio.charset.StandardCharsets;
import java.util.ArrayList;
import java.util.Collections;
import java.util.Comparator;
import java.util.List;
import java.util.NoSuchElementException;
import java.util.Set;
import java.util.TreeSet;
import java.util.regex.Matcher;
import java.util.regex.Pattern;

/**
 * The document a second time, written from its words alone and without regard to cost: lists and
 * texts instead of bits, brute force instead of tables. RandomRunsTest holds LateBinder against it.
 */
final class Model {
    static final int NONE = -1;
    static final Set<String> TOLD = Set.of(
        "device", "driver", "in", "needs", "or", "map", "line", "get", "give", "break");

    static final class Fault extends Exception {
        private static final long serialVersionUID = 1;
        final int code;

        Fault(int place, int kind) {
            code = 8 * place + kind;
        }
    }

    static final class Dev {
        int no;
        String name;
        String id;
        int parent = NONE;
        List<Integer> needs = new ArrayList<>();
        int state;
        int drv = NONE;
        int reason;
        int with = NONE;
        long when;
        boolean synced;
        List<int[]> took = new ArrayList<>();
        Set<Integer> consumes = new TreeSet<>();
        Set<Integer> links = new TreeSet<>();

        Dev copy() {
            Dev c = new Dev();
            c.no = no;
            c.name = name;
            c.id = id;
            c.parent = parent;
            c.needs = needs;
            c.state = state;
            c.drv = drv;
            c.reason = reason;
            c.with = with;
            c.when = when;
            c.synced = synced;
            c.took = new ArrayList<>(took);
            c.consumes = new TreeSet<>(consumes);
            c.links = new TreeSet<>(links);
            return c;
        }
    }

    static final class Drv {
        int no;
        String name;
        List<String> patterns = new ArrayList<>();
        List<String> kinds = new ArrayList<>();
        List<Integer> values = new ArrayList<>();
    }

    String tape = "";
    List<Dev> devs = new ArrayList<>();
    List<Drv> drvs = new ArrayList<>();
    List<String> supplies = new ArrayList<>();
    Set<Integer> loaded = new TreeSet<>();
    List<Integer> row = new ArrayList<>();
    List<int[]> log = new ArrayList<>();
    List<Integer> letGo = new ArrayList<>();
    long clock;
    int boundByCall;

    Model copy() {
        Model m = new Model();
        m.tape = tape;
        for (Dev d : devs) {
            m.devs.add(d.copy());
        }
        m.drvs = drvs;
        m.supplies = supplies;
        m.loaded = new TreeSet<>(loaded);
        m.row = new ArrayList<>(row);
        m.log = new ArrayList<>(log);
        m.clock = clock;
        return m;
    }

    // ---- tape

    int feed(long a, long b, long c) {
        if (tape.length() + 24 > 648) {
            return NONE;
        }
        byte[] more = java.nio.ByteBuffer.allocate(24).putLong(a).putLong(b).putLong(c).array();
        tape += new String(more, StandardCharsets.ISO_8859_1);
        return tape.length();
    }

    int end(int n) {
        if (n < 0 || n > tape.length()) {
            return NONE;
        }
        tape = tape.substring(0, n);
        return n;
    }

    // ---- the text

    static final Pattern LEX = Pattern.compile(
        "[ \\n]*(?:(?<word>[a-z]{1,7}(?![a-z0-9]))|(?<num>[0-9]{1,2}(?![a-z0-9]))|(?<semi>;)"
        + "|:(?<signs>[a-z0-9?*]{1,8}(?![a-z0-9?*]))|(?<bad>[^ \\n])|(?<stop>\\z))");

    final class Text {
        final Model into = new Model();
        final String text;
        int pos;
        int place;
        String type;
        String val;

        Text(String text) throws Fault {
            this.text = text;
            next();
            while (!type.equals("stop")) {
                lineOfText();
            }
        }

        void next() {
            Matcher m = LEX.matcher(text);
            m.region(pos, text.length());
            if (!m.lookingAt()) {
                throw new IllegalStateException("lexer");
            }
            for (String t : new String[] {"word", "num", "semi", "signs", "bad", "stop"}) {
                if (m.group(t) != null) {
                    type = t;
                    val = m.group(t);
                    place = m.start(t) - (t.equals("signs") ? 1 : 0);
                }
            }
            pos = m.end();
        }

        boolean is(String keyword) {
            return type.equals("word") && val.equals(keyword);
        }

        void check(boolean good, int kind) throws Fault {
            if (!good) {
                throw new Fault(place, kind);
            }
        }

        String plain() throws Fault {
            check(type.equals("word") && !TOLD.contains(val), 1);
            return val;
        }

        String freshName() throws Fault {
            String name = plain();
            check(into.devs.stream().noneMatch(d -> d.name.equals(name))
                && into.drvs.stream().noneMatch(d -> d.name.equals(name)), 3);
            return name;
        }

        int supplyHere() throws Fault {
            String name = plain();
            if (!into.supplies.contains(name)) {
                check(into.supplies.size() < 8, 4);
                into.supplies.add(name);
            }
            return into.supplies.indexOf(name);
        }

        void lineOfText() throws Fault {
            if (is("device")) {
                deviceLine();
            } else if (is("driver")) {
                driverLine();
            } else {
                check(false, 1);
            }
            check(type.equals("semi"), 1);
            next();
        }

        void deviceLine() throws Fault {
            check(into.devs.size() < 12, 4);
            Dev d = new Dev();
            d.no = into.devs.size();
            next();
            d.name = freshName();
            next();
            check(type.equals("signs"), 1);
            check(!val.contains("?") && !val.contains("*"), 2);
            d.id = val;
            next();
            if (is("in")) {
                next();
                String name = plain();
                for (Dev p : into.devs) {
                    if (p.name.equals(name)) {
                        d.parent = p.no;
                    }
                }
                check(d.parent != NONE, 3);
                next();
            }
            while (is("needs")) {
                check(d.needs.size() < 3, 4);
                next();
                d.needs.add(supplyHere());
                next();
            }
            into.devs.add(d);
        }

        void driverLine() throws Fault {
            check(into.drvs.size() < 8, 4);
            Drv r = new Drv();
            r.no = into.drvs.size();
            next();
            r.name = freshName();
            do {
                check(r.patterns.size() < 3, 4);
                next();
                check(type.equals("signs"), 1);
                r.patterns.add(val);
                next();
            } while (is("or"));
            while (is("map") || is("line") || is("get") || is("give") || is("break")) {
                check(r.kinds.size() < 6, 4);
                String kind = val;
                int value = 0;
                if (!kind.equals("break")) {
                    next();
                    if (kind.equals("map") || kind.equals("line")) {
                        check(type.equals("num"), 1);
                        value = Integer.parseInt(val);
                        check(kind.equals("map") ? value >= 1 : value <= 15, 2);
                    } else {
                        value = supplyHere();
                    }
                }
                r.kinds.add(kind);
                r.values.add(value);
                next();
            }
            into.drvs.add(r);
        }
    }

    int board() {
        String text = tape;
        tape = "";
        if (text.length() > 600) {
            return NONE;
        }
        try {
            Model told = new Text(text).into;
            devs = told.devs;
            drvs = told.drvs;
            supplies = told.supplies;
            loaded = new TreeSet<>();
            row = new ArrayList<>();
            log = new ArrayList<>();
            clock = 0;
            return devs.size() + drvs.size();
        } catch (Fault f) {
            return -2 - f.code;
        }
    }

    int find(int what) {
        String word = tape;
        tape = "";
        if (what == 0) {
            for (Dev d : devs) {
                if (d.name.equals(word)) {
                    return d.no;
                }
            }
        } else if (what == 1) {
            for (Drv d : drvs) {
                if (d.name.equals(word)) {
                    return d.no;
                }
            }
        } else if (what == 2) {
            return supplies.indexOf(word);
        }
        return NONE;
    }

    // ---- small looks

    boolean dev(int d) {
        return d >= 0 && d < devs.size();
    }

    boolean drv(int r) {
        return r >= 0 && r < drvs.size();
    }

    boolean open(Dev d) {
        return d.state == 1 || d.state == 2;
    }

    int score(int r, int d) {
        if (!drv(r) || !dev(d)) {
            return NONE;
        }
        int best = NONE;
        for (String p : drvs.get(r).patterns) {
            if (devs.get(d).id.matches(p.replace("?", ".").replace("*", ".*"))) {
                best = Math.max(best, p.replace("?", "").replace("*", "").length());
            }
        }
        return best;
    }

    List<Integer> lineFor(int d) {
        List<Integer> in = new ArrayList<>();
        for (int r : loaded) {
            if (score(r, d) >= 0) {
                in.add(r);
            }
        }
        in.sort(Comparator.comparingInt((Integer r) -> -score(r, d)).thenComparingInt(r -> r));
        return in;
    }

    int sumTaken(Dev d, int kind) {
        return d.took.stream().filter(t -> t[0] == kind).mapToInt(t -> t[1]).sum();
    }

    int bitsTaken(Dev d, int kind) {
        return d.took.stream().filter(t -> t[0] == kind).mapToInt(t -> 1 << t[1]).sum();
    }

    int holder(int kind, int which) {
        for (Dev d : devs) {
            for (int[] t : d.took) {
                if (t[0] == kind && t[1] == which) {
                    return d.no;
                }
            }
        }
        return NONE;
    }

    int freePool() {
        return 99 - devs.stream().mapToInt(d -> sumTaken(d, 7)).sum();
    }

    boolean isAbove(int high, int low) {
        Dev l = devs.get(low);
        if (l.parent == high || l.links.contains(high)) {
            return true;
        }
        if (l.parent != NONE && isAbove(high, l.parent)) {
            return true;
        }
        for (int s : l.links) {
            if (isAbove(high, s)) {
                return true;
            }
        }
        return false;
    }

    void note(int which, int d, int with) {
        log.add(0, new int[] {which, d, with});
        if (log.size() > 50) {
            log.remove(50);
        }
    }

    // ---- probes

    /** {REASON, with what}; what goes well is in the DEVICE's lists. */
    int[] run(Dev d, Drv r) {
        if (d.parent != NONE && devs.get(d.parent).state != 3) {
            return new int[] {1, d.parent};
        }
        List<String> kinds = new ArrayList<>(Collections.nCopies(d.needs.size(), "get"));
        List<Integer> values = new ArrayList<>(d.needs);
        kinds.addAll(r.kinds);
        values.addAll(r.values);
        for (int i = 0; i < kinds.size(); i++) {
            int v = values.get(i);
            switch (kinds.get(i)) {
                case "get" -> {
                    int g = holder(8, v);
                    if (g == NONE) {
                        return new int[] {2, v};
                    }
                    if (g != d.no && isAbove(d.no, g)) {
                        return new int[] {3, g};
                    }
                    if (g != d.no) {
                        d.consumes.add(g);
                    }
                }
                case "line" -> {
                    int o = holder(6, v);
                    if (o != NONE) {
                        return new int[] {4, o};
                    }
                    d.took.add(new int[] {6, v});
                }
                case "map" -> {
                    if (freePool() < v) {
                        return new int[] {5, NONE};
                    }
                    d.took.add(new int[] {7, v});
                }
                case "give" -> {
                    int o = holder(8, v);
                    if (o != NONE) {
                        return new int[] {6, o};
                    }
                    d.took.add(new int[] {8, v});
                }
                default -> {
                    return new int[] {7, NONE};
                }
            }
        }
        return new int[] {0, NONE};
    }

    void releaseAll(Dev d) {
        while (!d.took.isEmpty()) {
            int[] t = d.took.remove(d.took.size() - 1);
            note(t[0], d.no, t[1]);
        }
        d.consumes.clear();
    }

    int probe(Dev d, int r) {
        int[] why = run(d, drvs.get(r));
        d.reason = why[0];
        d.with = why[1];
        if (why[0] == 0) {
            d.links.addAll(d.consumes);
            d.state = 3;
            d.drv = r;
            d.when = ++clock;
            row.remove((Integer) d.no);
            boundByCall++;
            note(1, d.no, r);
        } else {
            releaseAll(d);
            note(why[0] < 3 ? 2 : 3, d.no, r);
        }
        return why[0];
    }

    void tryBy(Dev d, List<Integer> drivers) {
        for (int r : drivers) {
            int why = probe(d, r);
            if (why == 0) {
                return;
            }
            if (why < 3) {
                d.state = 2;
                if (!row.contains(d.no)) {
                    row.add(d.no);
                }
                return;
            }
        }
        d.state = 1;
        row.remove((Integer) d.no);
    }

    void tryIt(Dev d) {
        tryBy(d, lineFor(d.no));
    }

    void passes() {
        int before = 0;
        while (boundByCall > before) {
            before = boundByCall;
            for (int d : new ArrayList<>(row)) {
                if (devs.get(d).state == 2) {
                    tryIt(devs.get(d));
                }
            }
        }
    }

    void endOfCall() {
        passes();
        for (Dev d : devs) {
            if (d.state != 3 || d.synced || bitsTaken(d, 8) == 0) {
                continue;
            }
            boolean all = true;
            for (Dev e : devs) {
                boolean concerned = e.links.contains(d.no);
                for (int s : e.needs) {
                    concerned |= holder(8, s) == d.no;
                }
                if (e.state != 0 && concerned && e.state != 3) {
                    all = false;
                }
            }
            if (all) {
                d.synced = true;
                note(5, d.no, NONE);
            }
        }
    }

    void start() {
        boundByCall = 0;
        letGo.clear();
    }

    Dev latest(java.util.function.Predicate<Dev> which) {
        return devs.stream().filter(e -> e.state == 3).filter(which)
            .max(Comparator.comparingLong(e -> e.when)).orElse(null);
    }

    void letGoOf(Dev d) {
        while (true) {
            Dev e = latest(x -> x.parent == d.no || x.consumes.contains(d.no));
            if (e == null) {
                break;
            }
            letGoOf(e);
        }
        releaseAll(d);
        note(4, d.no, d.drv);
        d.drv = NONE;
        d.synced = false;
        d.state = 2;
        row.add(d.no);
        letGo.add(d.no);
    }

    // ---- calls

    int add(int n) {
        if (!dev(n) || devs.get(n).state != 0) {
            return NONE;
        }
        Dev d = devs.get(n);
        if (d.parent != NONE && devs.get(d.parent).state == 0) {
            return NONE;
        }
        start();
        d.state = 1;
        tryIt(d);
        endOfCall();
        return d.state;
    }

    boolean descends(int d, int from) {
        return d == from || devs.get(d).parent != NONE && descends(devs.get(d).parent, from);
    }

    int remove(int n) {
        if (!dev(n) || devs.get(n).state == 0) {
            return NONE;
        }
        start();
        int came = 0;
        for (int i = devs.size() - 1; i >= 0; i--) {
            Dev d = devs.get(i);
            if (d.state != 0 && descends(i, n)) {
                if (d.state == 3) {
                    letGoOf(d);
                }
                d.state = 0;
                d.reason = 0;
                d.with = NONE;
                row.remove((Integer) i);
                came++;
            }
        }
        endOfCall();
        return came;
    }

    void loadOnly(int r) {
        start();
        loaded.add(r);
        for (Dev d : devs) {
            if (open(d) && lineFor(d.no).contains(r)) {
                tryIt(d);
            }
        }
    }

    int load(int r) {
        if (!drv(r) || loaded.contains(r)) {
            return NONE;
        }
        loadOnly(r);
        endOfCall();
        return boundByCall;
    }

    int unload(int r) {
        if (!drv(r) || !loaded.contains(r)) {
            return NONE;
        }
        start();
        loaded.remove(r);
        while (true) {
            Dev d = latest(x -> x.drv == r);
            if (d == null) {
                break;
            }
            letGoOf(d);
            d.state = 1;
            row.remove((Integer) d.no);
        }
        endOfCall();
        return letGo.size();
    }

    int unbind(int n) {
        if (!dev(n) || devs.get(n).state != 3) {
            return NONE;
        }
        start();
        letGoOf(devs.get(n));
        devs.get(n).state = 1;
        row.remove((Integer) n);
        endOfCall();
        return letGo.size();
    }

    int bind(int n, int r) {
        if (!dev(n) || !open(devs.get(n)) || !loaded.contains(r)) {
            return NONE;
        }
        start();
        tryBy(devs.get(n), List.of(r));
        endOfCall();
        return devs.get(n).state;
    }

    int rescan() {
        start();
        for (Dev d : devs) {
            if (open(d)) {
                tryIt(d);
            }
        }
        endOfCall();
        return boundByCall;
    }

    int forget(int n) {
        if (!dev(n)) {
            return NONE;
        }
        Dev d = devs.get(n);
        int before = d.links.size();
        d.links.retainAll(d.consumes);
        return before - d.links.size();
    }

    // ---- questions

    static int bits(Iterable<Integer> numbers) {
        int b = 0;
        for (int i : numbers) {
            b |= 1 << i;
        }
        return b;
    }

    int high(Dev d) {
        int h = 0;
        if (d.parent != NONE) {
            h = 1 + high(devs.get(d.parent));
        }
        for (int s : d.consumes) {
            h = Math.max(h, 1 + high(devs.get(s)));
        }
        return h;
    }

    Set<Integer> lacks(Dev d) {
        Set<Integer> asked = new TreeSet<>(d.needs);
        List<Integer> in = lineFor(d.no);
        if (!in.isEmpty()) {
            Drv r = drvs.get(in.get(0));
            for (int i = 0; i < r.kinds.size(); i++) {
                if (r.kinds.get(i).equals("get")) {
                    asked.add(r.values.get(i));
                }
            }
        }
        asked.removeIf(s -> holder(8, s) != NONE);
        return asked;
    }

    boolean gives(Drv r, int s) {
        for (int i = 0; i < r.kinds.size(); i++) {
            if (r.kinds.get(i).equals("give") && r.values.get(i) == s) {
                return true;
            }
        }
        return false;
    }

    Set<Integer> waits(Dev d) {
        Set<Integer> w = new TreeSet<>();
        if (!open(d)) {
            return w;
        }
        if (d.parent != NONE && devs.get(d.parent).state != 3) {
            w.add(d.parent);
        }
        for (Dev e : devs) {
            List<Integer> in = lineFor(e.no);
            if (e != d && open(e) && !in.isEmpty()) {
                for (int s : lacks(d)) {
                    if (gives(drvs.get(in.get(0)), s)) {
                        w.add(e.no);
                    }
                }
            }
        }
        return w;
    }

    int device(int n, int what) {
        if (!dev(n)) {
            return -2;
        }
        Dev d = devs.get(n);
        return switch (what) {
            case 0 -> d.state;
            case 1 -> d.drv;
            case 2 -> d.parent;
            case 3 -> d.reason;
            case 4 -> d.with;
            case 5 -> row.indexOf(n);
            case 6 -> d.synced ? 1 : 0;
            case 7 -> d.state == 3 ? high(d) : NONE;
            case 8 -> sumTaken(d, 7);
            case 9 -> bitsTaken(d, 6);
            case 10 -> bitsTaken(d, 8);
            case 11 -> bits(lacks(d));
            default -> -2;
        };
    }

    List<Integer> orderOf(int n) {
        Model m = copy();
        m.start();
        m.letGoOf(m.devs.get(n));
        return m.letGo;
    }

    int links(int n, int what) {
        if (!dev(n)) {
            return NONE;
        }
        Dev d = devs.get(n);
        int b = 0;
        switch (what) {
            case 0:
                return bits(d.consumes);
            case 1:
                for (Dev e : devs) {
                    b |= e.consumes.contains(n) ? 1 << e.no : 0;
                }
                return b;
            case 2:
                return bits(d.links);
            case 3:
                for (Dev e : devs) {
                    b |= e.links.contains(n) ? 1 << e.no : 0;
                }
                return b;
            case 4:
                for (Dev e : devs) {
                    b |= isAbove(e.no, n) ? 1 << e.no : 0;
                }
                return b;
            case 5:
                return d.state == 3 ? bits(orderOf(n)) : 0;
            case 6:
                return bits(waits(d));
            default:
                return NONE;
        }
    }

    int driver(int r, int what) {
        if (!drv(r)) {
            return NONE;
        }
        return switch (what) {
            case 0 -> loaded.contains(r) ? 1 : 0;
            case 1 -> drvs.get(r).kinds.size();
            case 2 -> drvs.get(r).patterns.size();
            case 3 -> (int) devs.stream().filter(d -> d.drv == r).count();
            default -> NONE;
        };
    }

    int line(int d, int i) {
        if (!dev(d) || i < 0 || i >= lineFor(d).size()) {
            return NONE;
        }
        return lineFor(d).get(i);
    }

    int would(int n, int what) {
        if (!dev(n) || !open(devs.get(n)) || what < 0 || what > 2) {
            return NONE;
        }
        Model m = copy();
        m.start();
        m.tryIt(m.devs.get(n));
        m.passes();
        return what == 0 ? m.devs.get(n).state : what == 1 ? m.devs.get(n).drv : m.boundByCall;
    }

    int order(int n, int i) {
        if (!dev(n) || devs.get(n).state != 3 || i < 0 || i >= orderOf(n).size()) {
            return NONE;
        }
        return orderOf(n).get(i);
    }

    /** All rows of one length in the order of their numbers, one after the other. */
    boolean walk(List<Integer> path, int length, List<Set<Integer>> waits) {
        Set<Integer> on = waits.get(path.get(path.size() - 1));
        if (path.size() == length) {
            return on.contains(path.get(0));
        }
        for (int e : on) {
            if (!path.contains(e)) {
                path.add(e);
                if (walk(path, length, waits)) {
                    return true;
                }
                path.remove(path.size() - 1);
            }
        }
        return false;
    }

    List<Integer> ringOf(int n) {
        List<Set<Integer>> waits = new ArrayList<>();
        for (Dev d : devs) {
            waits.add(waits(d));
        }
        for (int length = 1; length <= devs.size(); length++) {
            List<Integer> path = new ArrayList<>(List.of(n));
            if (walk(path, length, waits)) {
                return path;
            }
        }
        return List.of();
    }

    int ring(int n, int i) {
        if (!dev(n)) {
            return NONE;
        }
        List<Integer> found = ringOf(n);
        if (i == NONE && !found.isEmpty()) {
            return found.size();
        }
        return i >= 0 && i < found.size() ? found.get(i) : NONE;
    }

    int wanted(int n, int what) {
        if (!dev(n) || !open(devs.get(n)) || what < 0 || what > 1) {
            return NONE;
        }
        for (int size = 1; size <= drvs.size(); size++) {
            for (int mask = 1; mask < 1 << drvs.size(); mask++) {
                if (Integer.bitCount(mask) == size && (mask & bits(loaded)) == 0 && wouldDo(n, mask)) {
                    return what == 0 ? size : mask;
                }
            }
        }
        return NONE;
    }

    boolean wouldDo(int n, int mask) {
        Model m = copy();
        for (int r = 0; r < drvs.size(); r++) {
            if ((mask >> r & 1) == 1) {
                m.load(r);
            }
        }
        return m.devs.get(n).state == 3;
    }

    int supply(int s, int what) {
        if (s < 0 || s >= supplies.size() || what < 0 || what > 2) {
            return -2;
        }
        int b = 0;
        if (what == 0) {
            return holder(8, s);
        }
        if (what == 1) {
            for (Dev d : devs) {
                b |= d.needs.contains(s) ? 1 << d.no : 0;
            }
            return b;
        }
        for (Drv r : drvs) {
            b |= gives(r, s) ? 1 << r.no : 0;
        }
        return b;
    }

    int taken(int line) {
        return line < 0 || line > 15 ? -2 : holder(6, line);
    }

    int log(int i, int what) {
        if (i < 0 || i >= log.size() || what < 0 || what > 2) {
            throw new NoSuchElementException();
        }
        return log.get(i)[what];
    }

    int count(int what) {
        return switch (what) {
            case 0 -> devs.size();
            case 1 -> drvs.size();
            case 2 -> supplies.size();
            case 3 -> freePool();
            case 4 -> devs.stream().filter(d -> d.state == 3).mapToInt(d -> 1 << d.no).sum();
            case 5 -> row.size();
            case 6 -> bits(loaded);
            case 7 -> devs.stream().mapToInt(d -> d.links.size()).sum();
            case 8 -> devs.stream().filter(d -> d.synced).mapToInt(d -> 1 << d.no).sum();
            case 9 -> log.size();
            case 10 -> tape.length();
            default -> NONE;
        };
    }
}
