import java.util.ArrayList;
import java.util.List;
import java.util.Random;

/**
 * Sentences of the document that hold at any moment, asked of the class alone: what the questions answer
 * fits together, and what was told ahead by would, order and wanted is what then comes.
 */
public final class LawsTest {
    private static final int RUNS = 400;
    private static final int CALLS = 45;
    private static final int NONE = LateBinder.NONE;

    private static final Due due = new Due();

    private final Random random;
    private final long seed;
    private Story story;

    private LawsTest(long seed) {
        this.seed = seed;
        random = new Random(seed);
    }

    public static void main(String[] args) {
        int runs = args.length > 0 ? Integer.parseInt(args[0]) : RUNS;
        for (int i = 0; i < runs && due.isFine(); i++) {
            new LawsTest(5000 + i).play();
        }
        due.finish("LawsTest");
    }

    private void play() {
        story = tellable(new RandomTexts(random));
        if (random.nextBoolean()) {
            addAll();
        }
        Moment now = new Moment(story);
        for (int i = 0; i < CALLS && due.isFine(); i++) {
            now = next(now);
        }
        wantedIsWhatLoadsBind(now);
        if (!due.isFine()) {
            System.out.println("seed " + seed + ": " + story);
        }
    }

    private static Story tellable(RandomTexts texts) {
        Story story = new Story(texts.text());
        for (int i = 0; i < 50 && story.play().count(0) < 2; i++) {
            story = new Story(texts.text());
        }
        return story;
    }

    /** Much waits then for few DRIVERS, so that passes bind it one behind the other. */
    private void addAll() {
        int devices = story.play().count(0);
        for (int d = 0; d < devices; d++) {
            story.goOn(Story.ADD, d, 0);
        }
    }

    private Moment next(Moment before) {
        int which = random.nextInt(3) == 0 ? random.nextInt(8) : random.nextBoolean() ? Story.ADD : Story.LOAD;
        boolean ofDriver = which == Story.LOAD || which == Story.UNLOAD;
        int a = random.nextInt(Math.max(1, ofDriver ? before.drivers : before.devices));
        int b = random.nextInt(Math.max(1, before.drivers));
        int answer = Story.answer(story.play(), which, a, b);
        story.goOn(which, a, b);
        Moment now = new Moment(story);
        whatIsTaken(now);
        whoStandsOnWhom(now);
        whoIsAbove(now);
        reasons(now);
        lines(now);
        whatWaits(now);
        whatGoesWith(now);
        latestFirst(now);
        theLog(now);
        if (answer != NONE) {
            whatTheCallDid(which, a, answer, before, now);
        }
        if (random.nextInt(4) == 0) {
            wouldIsWhatBindsDo(now);
            orderIsWhatUnbindDoes(now);
        }
        return now;
    }

    // ---- what holds at one moment

    private static void whatIsTaken(Moment m) {
        due.part("DEFERRED ones are in a ROW; a POOL of 99; LINES, SUPPLIES are of one DEVICE at most");
        int row = 0;
        int pool = m.count[3];
        for (int d = 0; d < m.devices; d++) {
            int[] of = m.device[d];
            due.is("in the ROW " + d, of[5] != NONE ? 1 : 0, of[0] == 2 ? 1 : 0);
            row |= of[5] == NONE ? 0 : 1 << of[5];
            pool += of[8];
            for (int n = 0; n < 16; n++) {
                due.is("taken(" + n + ") by " + d, m.taken[n] == d ? 1 : 0, of[9] >> n & 1);
            }
            for (int s = 0; s < m.supplies; s++) {
                due.is("supply(" + s + ", 0) by " + d, m.supply[s][0] == d ? 1 : 0, of[10] >> s & 1);
            }
            if (!m.isBound(d)) {
                due.is("what " + d + " has, not BOUND", of[8] | of[9] | of[10] | of[6] | m.links[d][0] | m.links[d][1], 0);
                due.is("DRIVER and HIGH of " + d + ", not BOUND", of[1] == NONE && of[7] == NONE ? 1 : 0, 1);
            }
        }
        due.is("places in the ROW", row, (1 << m.count[5]) - 1);
        due.is("POOL in all", pool, 99);
    }

    private static void whoStandsOnWhom(Moment m) {
        due.part("CONSUMES, LINKS, HIGH, SYNCED");
        int bound = m.inState(3);
        int sum = 0;
        int synced = 0;
        due.is("count(4)", m.count[4], bound);
        for (int d = 0; d < m.devices; d++) {
            int consumed = m.links[d][0];
            int linked = m.links[d][2];
            sum += Integer.bitCount(linked);
            synced |= m.device[d][6] << d;
            due.is("CONSUMED by " + d + " without a LINK, or itself", consumed & ~linked | consumed & 1 << d, 0);
            due.is("CONSUMED by " + d + " and not BOUND", consumed & ~bound, 0);
            for (int e = 0; e < m.devices; e++) {
                due.is(e + " CONSUMES " + d, m.links[d][1] >> e & 1, m.links[e][0] >> d & 1);
                due.is("a LINK from " + e + " to " + d, m.links[d][3] >> e & 1, m.links[e][2] >> d & 1);
            }
            if (m.parent(d) != NONE) {
                due.is("PARENT of BOUND " + d, m.isBound(d) && !m.isBound(m.parent(d)) ? 1 : 0, 0);
                due.is("PARENT of " + d + " that is not AWAY", m.state(d) != 0 && m.state(m.parent(d)) == 0 ? 1 : 0, 0);
            }
            if (m.isBound(d)) {
                due.is("HIGH of " + d, m.device[d][7], highOf(m, d));
                due.is("SYNCED " + d + " that GIVES nothing", m.device[d][6] == 1 && m.device[d][10] == 0 ? 1 : 0, 0);
            }
        }
        due.is("count(7)", m.count[7], sum);
        due.is("count(8)", m.count[8], synced);
    }

    private static int highOf(Moment m, int d) {
        int high = m.parent(d) == NONE ? 0 : 1 + m.device[m.parent(d)][7];
        for (int e = 0; e < m.devices; e++) {
            if ((m.links[d][0] >> e & 1) == 1) {
                high = Math.max(high, 1 + m.device[e][7]);
            }
        }
        return high;
    }

    private static void whoIsAbove(Moment m) {
        due.part("ABOVE: the PARENT, where a LINK leads, and all ABOVE these; none is ABOVE itself");
        for (int d = 0; d < m.devices; d++) {
            int next = m.links[d][2] | (m.parent(d) == NONE ? 0 : 1 << m.parent(d));
            int all = next;
            for (int e = 0; e < m.devices; e++) {
                all |= (next >> e & 1) == 1 ? m.links[e][4] : 0;
            }
            due.is("links(" + d + ", 4)", m.links[d][4], all);
            due.is(d + " ABOVE itself", m.links[d][4] >> d & 1, 0);
        }
    }

    private static void reasons(Moment m) {
        due.part("REASON, with what");
        for (int d = 0; d < m.devices; d++) {
            int why = m.device[d][3];
            int with = m.device[d][4];
            boolean plain = m.isBound(d) || m.state(d) == 0;
            due.is("REASON of " + d + " BOUND or AWAY", plain && (why != 0 || with != NONE) ? 1 : 0, 0);
            due.is("REASON of " + d + " DEFERRED", m.state(d) == 2 && why > 2 ? 1 : 0, 0);
            boolean of = why == 1 ? with == m.parent(d) && with != NONE
                : why == 2 ? with >= 0 && with < m.supplies
                : why == 3 ? with >= 0 && with < m.devices && with != d
                : why == 4 || why == 6 ? with >= 0 && with < m.devices
                : (why == 0 || why == 5 || why == 7) && with == NONE;
            due.is("REASON " + why + " of " + d + " with " + with, of ? 1 : 0, 1);
        }
    }

    private static void lines(Moment m) {
        due.part("in LINE: LOADED ones that MATCH, by SCORE, downwards, of equal ones the lowest");
        int loaded = 0;
        for (int r = 0; r < m.drivers; r++) {
            loaded |= m.driver[r][0] << r;
            int many = 0;
            for (int d = 0; d < m.devices; d++) {
                many += m.device[d][1] == r ? 1 : 0;
            }
            due.is("driver(" + r + ", 3)", m.driver[r][3], many);
        }
        due.is("count(6)", m.count[6], loaded);
        for (int d = 0; d < m.devices; d++) {
            int left = loaded;
            for (int i = 0; i <= m.drivers; i++) {
                int best = bestOf(m, d, left);
                due.is("line(" + d + ", " + i + ")", m.line[d][i], best);
                left &= best == NONE ? left : ~(1 << best);
            }
        }
    }

    private static int bestOf(Moment m, int d, int among) {
        int best = NONE;
        for (int r = m.drivers - 1; r >= 0; r--) {
            boolean may = (among >> r & 1) == 1 && m.score[r][d] != NONE;
            if (may && (best == NONE || m.score[r][d] >= m.score[best][d])) {
                best = r;
            }
        }
        return best;
    }

    private static void whatWaits(Moment m) {
        due.part("LACKS, WAITS, RING");
        int[] waits = new int[m.devices];
        for (int d = 0; d < m.devices; d++) {
            waits[d] = m.isWaiting(d) ? waitsOf(m, d) : 0;
            due.is("links(" + d + ", 6)", m.links[d][6], waits[d]);
            for (int s = 0; s < m.supplies; s++) {
                boolean given = m.supply[s][0] != NONE;
                boolean lacks = (m.device[d][11] >> s & 1) == 1;
                boolean needs = (m.supply[s][1] >> d & 1) == 1;
                due.is(d + " LACKS what is GIVEN, " + s, lacks && given ? 1 : 0, 0);
                due.is(d + " LACKS its need " + s, needs && !given && !lacks ? 1 : 0, 0);
                boolean byGet = lacks && !needs;
                due.is(d + " LACKS " + s + " with none in LINE", byGet && m.line[d][0] == NONE ? 1 : 0, 0);
            }
        }
        for (int d = 0; d < m.devices; d++) {
            ringOf(m, d, waits);
        }
    }

    private static int waitsOf(Moment m, int d) {
        int found = 0;
        for (int e = 0; e < m.devices; e++) {
            boolean waits = m.parent(d) == e && !m.isBound(e);
            boolean mayGive = e != d && m.isWaiting(e) && m.line[e][0] != NONE;
            for (int s = 0; s < m.supplies && mayGive; s++) {
                waits |= (m.device[d][11] >> s & 1) == 1 && (m.supply[s][2] >> m.line[e][0] & 1) == 1;
            }
            found |= waits ? 1 << e : 0;
        }
        return found;
    }

    /** Ways of just so many steps back to the DEVICE; the first that starts at it, too, is the shortest. */
    private static void ringOf(Moment m, int d, int[] waits) {
        int[] back = new int[m.devices + 1];
        back[0] = 1 << d;
        int length = 0;
        for (int k = 1; k <= m.devices && length == 0; k++) {
            for (int e = 0; e < m.devices; e++) {
                back[k] |= (waits[e] & back[k - 1]) != 0 ? 1 << e : 0;
            }
            length = (back[k] >> d & 1) == 1 ? k : 0;
        }
        due.is("ring(" + d + ", NONE)", m.rings[d], length == 0 ? NONE : length);
        int at = d;
        for (int i = 0; i <= m.devices; i++) {
            due.is("ring(" + d + ", " + i + ")", m.ring[d][i], i < length ? at : NONE);
            if (i + 1 < length) {
                at = Integer.numberOfTrailingZeros(waits[at] & back[length - 1 - i]);
            }
        }
    }

    private static void whatGoesWith(Moment m) {
        due.part("WITH: all whose PARENT goes, or who CONSUME one that goes; each ahead of that one");
        for (int d = 0; d < m.devices; d++) {
            int with = m.isBound(d) ? 1 << d : 0;
            for (int n = 0; n < m.devices; n++) {
                for (int e = 0; e < m.devices; e++) {
                    with |= m.isBound(e) && (below(m, e) & with) != 0 ? 1 << e : 0;
                }
            }
            due.is("links(" + d + ", 5)", m.links[d][5], with);
            int many = Integer.bitCount(with);
            int gone = 0;
            for (int i = 0; i <= m.devices; i++) {
                int e = m.order[d][i];
                due.is("order(" + d + ", " + i + ") is none", e == NONE ? 1 : 0, i < many ? 0 : 1);
                due.is("order(" + d + ", " + i + ") ahead of what it stands on", e != NONE && (below(m, e) & gone) != 0 ? 1 : 0, 0);
                gone |= e == NONE ? 0 : 1 << e;
            }
            due.is("all of order(" + d + ")", gone, with);
            due.is("the last of order(" + d + ")", many == 0 ? d : m.order[d][many - 1], d);
        }
    }

    /** The LOG tells who was BOUND later, as far as it reaches back. */
    private static void latestFirst(Moment m) {
        due.part("LET GO: the one BOUND latest first, each likewise");
        int[] row = new int[m.devices];
        for (int d = 0; d < m.devices; d++) {
            while (row[d] < m.log.length && (m.log[row[d]][0] != 1 || m.log[row[d]][1] != d)) {
                row[d]++;
            }
        }
        for (int d = 0; d < m.devices; d++) {
            boolean known = m.isBound(d);
            for (int e = 0; e < m.devices; e++) {
                known &= (m.links[d][5] >> e & 1) == 0 || row[e] < m.log.length;
            }
            List<Integer> gone = new ArrayList<>();
            if (known) {
                leave(m, d, row, gone);
            }
            for (int i = 0; i < gone.size(); i++) {
                due.is("order(" + d + ", " + i + ")", m.order[d][i], gone.get(i));
            }
        }
    }

    private static void leave(Moment m, int d, int[] row, List<Integer> gone) {
        int latest;
        do {
            latest = NONE;
            for (int e = 0; e < m.devices; e++) {
                boolean leans = m.isBound(e) && !gone.contains(e) && (below(m, e) >> d & 1) == 1;
                latest = leans && (latest == NONE || row[e] < row[latest]) ? e : latest;
            }
            if (latest != NONE) {
                leave(m, latest, row, gone);
            }
        } while (latest != NONE);
        gone.add(d);
    }

    /** What a DEVICE stands on: its PARENT and those that it CONSUMES. */
    private static int below(Moment m, int e) {
        return m.links[e][0] | (m.parent(e) == NONE ? 0 : 1 << m.parent(e));
    }

    private static void theLog(Moment m) {
        due.part("LOG: what is released stands ahead of the 2, 3, 4 for which it is");
        due.is("count(9)", m.log.length, m.count[9]);
        for (int i = 0; i < m.log.length; i++) {
            int[] row = m.log[i];
            due.is("which of row " + i, row[0] >= 1 && row[0] <= 8 ? 1 : 0, 1);
            due.is("DEVICE of row " + i, row[1] >= 0 && row[1] < m.devices ? 1 : 0, 1);
            int least = row[0] == 5 ? NONE : row[0] == 7 ? 1 : 0;
            int most = row[0] == 5 ? NONE : row[0] == 6 ? 15 : row[0] == 7 ? 99 : row[0] == 8 ? 7 : m.drivers - 1;
            due.is("with what, row " + i, row[2] >= least && row[2] <= most ? 1 : 0, 1);
            if (row[0] >= 6) {
                boolean told = i > 0 && m.log[i - 1][1] == row[1] && m.log[i - 1][0] != 1 && m.log[i - 1][0] != 5;
                due.is("behind the released of row " + i, told ? 1 : 0, 1);
            }
        }
    }

    // ---- what a call that is not refused did

    private static void whatTheCallDid(int which, int a, int answer, Moment before, Moment now) {
        int came = now.count[4] & ~before.count[4];
        int went = before.count[4] & ~now.count[4];
        due.part("how many are BOUND, LET GO, forgotten, AWAY");
        if (which == Story.ADD || which == Story.BIND) {
            due.is("its STATE", answer, now.state(a));
            due.is("LET GO by a call that binds", went, 0);
        } else if (which == Story.LOAD || which == Story.RESCAN) {
            due.is("how many are BOUND", answer, Integer.bitCount(came));
            due.is("LET GO by a call that binds", went, 0);
        } else if (which == Story.UNLOAD) {
            due.is("how many were LET GO", answer, Integer.bitCount(went));
            due.is("BOUND to it still", now.driver[a][3], 0);
        } else if (which == Story.UNBIND) {
            due.is("how many were LET GO", answer, Integer.bitCount(went));
            due.is("those that were WITH it", went, before.links[a][5]);
            due.is("its STATE", now.state(a), 1);
        } else if (which == Story.REMOVE) {
            afterRemove(a, answer, before, now);
        } else {
            due.is("how many LINKS", answer, Integer.bitCount(before.links[a][2] & ~before.links[a][0]));
            due.is("LINKS that stay", now.links[a][2], now.links[a][0]);
        }
        if (which != Story.FORGET) {
            due.is("LINKS that a call but forget() takes", lostLinks(before, now), 0);
            synced(before, now);
        }
        if (came != 0) {
            passesEnd(now);
        } else {
            placesInRow(before, now);
        }
    }

    private static void afterRemove(int a, int answer, Moment before, Moment now) {
        int gone = 0;
        for (int d = 0; d < now.devices; d++) {
            boolean under = now.isUnder(d, a);
            gone += under && before.state(d) != 0 ? 1 : 0;
            due.is("STATE of " + d + " is AWAY", now.state(d) == 0 ? 1 : 0, under || before.state(d) == 0 ? 1 : 0);
        }
        due.is("how many came AWAY", answer, gone);
    }

    private static int lostLinks(Moment before, Moment now) {
        int lost = 0;
        for (int d = 0; d < now.devices; d++) {
            lost += Integer.bitCount(before.links[d][2] & ~now.links[d][2]);
        }
        return lost;
    }

    private static void synced(Moment before, Moment now) {
        due.part("SYNCED: BOUND, GIVES, all that need it or have a LINK to it are BOUND; till it is LET GO");
        for (int d = 0; d < now.devices; d++) {
            boolean all = now.isBound(d) && now.device[d][10] != 0;
            for (int e = 0; e < now.devices; e++) {
                all &= !now.isWaiting(e) || !isSupplied(now, e, d);
            }
            boolean stays = before.device[d][6] == 1 && now.isBound(d);
            due.is("device(" + d + ", 6)", now.device[d][6], all || stays ? 1 : 0);
        }
    }

    private static boolean isSupplied(Moment m, int e, int by) {
        boolean supplied = (m.links[e][2] >> by & 1) == 1;
        for (int s = 0; s < m.supplies; s++) {
            supplied |= (m.device[by][10] >> s & 1) == 1 && (m.supply[s][1] >> e & 1) == 1;
        }
        return supplied;
    }

    private static void passesEnd(Moment now) {
        due.part("till a pass binds none: no DEFERRED one would be BOUND, nor change its STATE");
        for (int d = 0; d < now.devices; d++) {
            if (now.state(d) == 2) {
                due.is("would(" + d + ", 0)", now.would[d][0], 2);
            }
        }
    }

    /** Those in the ROW before and now stand in the same order, with what is new behind them. */
    private static void placesInRow(Moment before, Moment now) {
        due.part("last in the ROW, unless it is in it");
        int at = 0;
        int[] row = now.row();
        for (int d : before.row()) {
            if (now.state(d) == 2) {
                due.is("place " + at + " in the ROW", at < row.length ? row[at] : NONE, d);
                at++;
            }
        }
    }

    // ---- what was told ahead is what comes

    private void wouldIsWhatBindsDo(Moment m) {
        due.part("18 would: as DRIVERS in LINE, bound one by one, till one is BOUND or PUT OFF");
        for (int d = 0; d < m.devices; d++) {
            if (m.isWaiting(d)) {
                LateBinder x = story.play();
                int state = 1;
                for (int i = 0; i < m.drivers && m.line[d][i] != NONE && state == 1; i++) {
                    state = x.bind(d, m.line[d][i]);
                }
                due.is("would(" + d + ", 0)", m.would[d][0], state);
                due.is("would(" + d + ", 1)", m.would[d][1], x.device(d, 1));
                due.is("would(" + d + ", 2)", m.would[d][2], Integer.bitCount(x.count(4) & ~m.count[4]));
            } else {
                for (int what = 0; what < 3; what++) {
                    due.is("would(" + d + ", " + what + ")", m.would[d][what], NONE);
                }
            }
        }
    }

    private void orderIsWhatUnbindDoes(Moment m) {
        due.part("19 order: as the LOG tells it behind unbind()");
        for (int d = 0; d < m.devices; d++) {
            LateBinder x = story.play();
            int many = x.unbind(d);
            due.is("unbind(" + d + ")", many, m.isBound(d) ? Integer.bitCount(m.links[d][5]) : NONE);
            int row = 0;
            for (int i = many - 1; i >= 0; i--) {
                while (Due.log(x, row, 0) > 4) {
                    row++;
                }
                if (Due.log(x, row, 0) == 4) {
                    due.is("order(" + d + ", " + i + ")", m.order[d][i], Due.log(x, row, 1));
                }
                row++;
            }
            placesBehindUnbind(m, d, many, x);
        }
    }

    private static void placesBehindUnbind(Moment m, int d, int many, LateBinder x) {
        for (int i = 0; i < many - 1; i++) {
            due.is("place in the ROW of " + m.order[d][i], x.device(m.order[d][i], 5), m.count[5] + i);
        }
    }

    private void wantedIsWhatLoadsBind(Moment m) {
        due.part("21 wanted: the fewest, of equal ones the least as bits, LOADED the lowest first");
        int[] wanted = new int[m.devices];
        for (int many = 1; many <= m.drivers; many++) {
            for (int bits = 1; bits < 1 << m.drivers; bits++) {
                if (Integer.bitCount(bits) == many && (bits & m.count[6]) == 0) {
                    int bound = boundBehind(bits, m.drivers);
                    for (int d = 0; d < m.devices; d++) {
                        wanted[d] = wanted[d] == 0 && (bound >> d & 1) == 1 ? bits : wanted[d];
                    }
                }
            }
        }
        LateBinder x = story.play();
        for (int d = 0; d < m.devices; d++) {
            boolean none = !m.isWaiting(d) || wanted[d] == 0;
            due.is("wanted(" + d + ", 0)", x.wanted(d, 0), none ? NONE : Integer.bitCount(wanted[d]));
            due.is("wanted(" + d + ", 1)", x.wanted(d, 1), none ? NONE : wanted[d]);
        }
    }

    private int boundBehind(int bits, int drivers) {
        LateBinder x = story.play();
        for (int r = 0; r < drivers; r++) {
            if ((bits >> r & 1) == 1) {
                x.load(r);
            }
        }
        return x.count(4);
    }
}
