/** All that an object answers at one moment of a story, by the names of the questions. */
final class Moment {
    private static final int LOG_ROWS = 50;

    final int devices;
    final int drivers;
    final int supplies;
    final int[] count = new int[11];
    final int[][] device;
    final int[][] links;
    final int[][] driver;
    final int[][] supply;
    final int[] taken = new int[16];
    final int[][] line;
    final int[][] score;
    final int[][] order;
    final int[][] ring;
    /** Of each DEVICE how long its RING is. */
    final int[] rings;
    final int[][] would;
    /** The latest first. */
    final int[][] log;

    /** Played several times: the document leaves free what an object answers behind its 512th call. */
    Moment(Story story) {
        LateBinder x = story.play();
        for (int what = 0; what < count.length; what++) {
            count[what] = x.count(what);
        }
        devices = count[0];
        drivers = count[1];
        supplies = count[2];
        device = new int[devices][12];
        links = new int[devices][7];
        driver = new int[drivers][4];
        supply = new int[supplies][3];
        askWhatStands(x);
        line = new int[devices][drivers + 1];
        score = new int[drivers][devices];
        askLines(story.play());
        order = new int[devices][devices + 1];
        ring = new int[devices][devices + 1];
        rings = new int[devices];
        would = new int[devices][3];
        askWhatWouldBe(story.play());
        log = new int[Math.min(count[9], LOG_ROWS)][3];
        askLog(story.play());
    }

    private void askWhatStands(LateBinder x) {
        for (int d = 0; d < devices; d++) {
            for (int what = 0; what < device[d].length; what++) {
                device[d][what] = x.device(d, what);
            }
            for (int what = 0; what < links[d].length; what++) {
                links[d][what] = x.links(d, what);
            }
        }
        for (int r = 0; r < drivers; r++) {
            for (int what = 0; what < driver[r].length; what++) {
                driver[r][what] = x.driver(r, what);
            }
        }
        for (int s = 0; s < supplies; s++) {
            for (int what = 0; what < supply[s].length; what++) {
                supply[s][what] = x.supply(s, what);
            }
        }
        for (int n = 0; n < taken.length; n++) {
            taken[n] = x.taken(n);
        }
    }

    private void askLines(LateBinder x) {
        for (int d = 0; d < devices; d++) {
            for (int i = 0; i <= drivers; i++) {
                line[d][i] = x.line(d, i);
            }
            for (int r = 0; r < drivers; r++) {
                score[r][d] = x.score(r, d);
            }
        }
    }

    private void askWhatWouldBe(LateBinder x) {
        for (int d = 0; d < devices; d++) {
            for (int i = 0; i <= devices; i++) {
                order[d][i] = x.order(d, i);
                ring[d][i] = x.ring(d, i);
            }
            rings[d] = x.ring(d, LateBinder.NONE);
            for (int what = 0; what < 3; what++) {
                would[d][what] = x.would(d, what);
            }
        }
    }

    private void askLog(LateBinder x) {
        for (int i = 0; i < log.length; i++) {
            for (int what = 0; what < 3; what++) {
                log[i][what] = Due.log(x, i, what);
            }
        }
    }

    int state(int d) {
        return device[d][0];
    }

    int parent(int d) {
        return device[d][2];
    }

    boolean isBound(int d) {
        return state(d) == 3;
    }

    boolean isWaiting(int d) {
        return state(d) == 1 || state(d) == 2;
    }

    /** The DEVICES of this STATE, as bits. */
    int inState(int state) {
        int bits = 0;
        for (int d = 0; d < devices; d++) {
            bits |= state(d) == state ? 1 << d : 0;
        }
        return bits;
    }

    /** The ROW, in order. */
    int[] row() {
        int[] row = new int[count[5]];
        for (int d = 0; d < devices; d++) {
            int place = device[d][5];
            if (place >= 0 && place < row.length) {
                row[place] = d;
            }
        }
        return row;
    }

    boolean isUnder(int d, int top) {
        return d == top || parent(d) != LateBinder.NONE && isUnder(parent(d), top);
    }
}
