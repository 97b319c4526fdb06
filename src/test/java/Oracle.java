/**
 * A play as a program tells it, and what the document asks of its ways, found by going through
 * all rows of holds, one by one: slow, and nothing like the program's own way.
 */
final class Oracle {
    private static final int[] ABOVE = {-1, 0, 1, 0, 3, 0, 2};

    int dolls;
    int beats;
    int[] kind;
    int[] size;
    int[] hook;
    int[] cast;
    int[] speaks;
    int left;
    int right;

    private int least;
    private int[] best;
    private int[] row;

    static Oracle of(PunchByHeart x) {
        Oracle o = new Oracle();
        o.dolls = x.count(1);
        o.beats = x.count(0);
        o.kind = new int[o.dolls];
        o.size = new int[o.dolls];
        o.hook = new int[o.dolls];
        for (int d = 0; d < o.dolls; d++) {
            o.kind[d] = x.of(d, 0);
            o.size[d] = x.of(d, 1);
            o.hook[d] = x.of(d, 5);
        }
        o.cast = new int[o.beats];
        o.speaks = new int[o.beats];
        for (int k = 0; k < o.beats; k++) {
            o.cast[k] = x.told(k, 0);
            o.speaks[k] = x.told(k, 1);
        }
        o.left = x.hand(0);
        o.right = x.hand(1);
        return o;
    }

    /** The same with some of the beats alone, told as a set. */
    Oracle only(int set) {
        Oracle o = new Oracle();
        o.dolls = dolls;
        o.kind = kind.clone();
        o.size = size.clone();
        o.hook = hook.clone();
        o.left = left;
        o.right = right;
        o.beats = Integer.bitCount(set);
        o.cast = new int[o.beats];
        o.speaks = new int[o.beats];
        int to = 0;
        for (int k = 0; k < beats; k++) {
            if ((set >> k & 1) != 0) {
                o.cast[to] = cast[k];
                o.speaks[to] = speaks[k];
                to++;
            }
        }
        return o;
    }

    Oracle all() {
        return only((1 << beats) - 1);
    }

    int wants(int d) {
        switch (kind[d]) {
            case 1: return 2;
            case 3: return 1;
            case 4: return 1;
            default: return 0;
        }
    }

    int on(int d) {
        return on(kind[d], size[d]);
    }

    private static int on(int kind, int size) {
        switch (kind) {
            case 0: return size;
            case 1: return 1;
            case 2: return on(1, size) + 2;
            case 3: return 2 * on(0, size);
            case 4: return on(3, size) + 3;
            case 5: return Math.max(1, on(0, size) / 2);
            default: return 2 * on(2, size);
        }
    }

    boolean isDog(int d) {
        for (int k = kind[d]; k >= 0; k = ABOVE[k]) {
            if (k == 5) {
                return true;
            }
        }
        return false;
    }

    boolean wrong(int k) {
        int lefts = 0;
        int rights = 0;
        int sum = 0;
        for (int d = 0; d < dolls; d++) {
            if ((cast[k] >> d & 1) != 0) {
                sum++;
                lefts += wants(d) == 1 ? 1 : 0;
                rights += wants(d) == 2 ? 1 : 0;
            }
        }
        boolean speakerIsOff = speaks[k] >= 0 && (cast[k] >> speaks[k] & 1) == 0;
        return sum > 2 || lefts == 2 || rights == 2 || speakerIsOff;
    }

    int wrongs() {
        int set = 0;
        for (int k = 0; k < beats; k++) {
            set |= wrong(k) ? 1 << k : 0;
        }
        return set;
    }

    boolean suits(int k, int l, int r) {
        if (l >= 0 && l == r) {
            return false;
        }
        for (int d = 0; d < dolls; d++) {
            if ((cast[k] >> d & 1) == 0) {
                continue;
            }
            boolean heldWell = l == d && wants(d) != 2 || r == d && wants(d) != 1;
            if (!heldWell) {
                return false;
            }
        }
        return true;
    }

    int cost(int before, int then, int what) {
        if (before == then) {
            return 0;
        }
        if (what == 0 || then < 0) {
            return 1;
        }
        return on(then) + hook[then];
    }

    /** The best way's holds, left and right by turns; null if the play doesn't go. */
    int[] way(int what) {
        if (wrongs() != 0) {
            return null;
        }
        least = Integer.MAX_VALUE;
        row = new int[2 * beats];
        best = new int[2 * beats];
        go(0, left, right, 0, what);
        return best;
    }

    private void go(int k, int l, int r, int worth, int what) {
        if (worth >= least) {
            return;
        }
        if (k == beats) {
            least = worth;
            best = row.clone();
            return;
        }
        for (int nl = -1; nl < dolls; nl++) {
            for (int nr = -1; nr < dolls; nr++) {
                if (suits(k, nl, nr)) {
                    row[2 * k] = nl;
                    row[2 * k + 1] = nr;
                    go(k + 1, nl, nr, worth + cost(l, nl, what) + cost(r, nr, what), what);
                }
            }
        }
    }

    /** The best way's worth, or -1 if the play doesn't go. */
    int worth(int what) {
        return way(what) == null ? -1 : least;
    }

    int part(int a, int b, int what) {
        int worth = only(((1 << b + 1) - 1) & -(1 << a)).worth(what);
        return worth < 0 ? Check.STATE : worth;
    }

    int dear() {
        if (beats == 0) {
            return Check.NONE;
        }
        if (wrongs() != 0) {
            return Check.STATE;
        }
        int at = -1;
        int low = Integer.MAX_VALUE;
        for (int k = 0; k < beats; k++) {
            int worth = only((1 << beats) - 1 & ~(1 << k)).worth(0);
            if (worth < low) {
                low = worth;
                at = k;
            }
        }
        return at;
    }

    /** What rehang() and rehung() tell. */
    int[] rehang() {
        if (wrongs() != 0) {
            return new int[] {Check.STATE, Check.STATE};
        }
        int[] told = {0, worth(1)};
        for (int pair = 1; pair < 78; pair++) {
            int a = pair / 10;
            int b = pair % 10;
            if (a >= b || b >= dolls) {
                continue;
            }
            Oracle o = all();
            o.hook[a] = hook[b];
            o.hook[b] = hook[a];
            int worth = o.worth(1);
            if (worth < told[1]) {
                told[0] = pair;
                told[1] = worth;
            }
        }
        return told;
    }

    int kindFor(int d) {
        int at = -1;
        int most = -1;
        int low = 0;
        for (int v = 0; v < 7; v++) {
            Oracle o = all();
            o.kind[d] = v;
            int good = (1 << beats) - 1 & ~o.wrongs();
            int sum = Integer.bitCount(good);
            int worth = o.only(good).worth(0);
            if (sum > most || sum == most && worth < low) {
                at = v;
                most = sum;
                low = worth;
            }
        }
        return at;
    }

    int mayor(int d) {
        int at = Check.NONE;
        int low = Integer.MAX_VALUE;
        for (int e = 0; e < dolls; e++) {
            boolean together = false;
            Oracle o = all();
            for (int k = 0; k < beats; k++) {
                together |= (cast[k] >> d & 1) != 0 && (cast[k] >> e & 1) != 0;
                if ((cast[k] >> e & 1) != 0) {
                    o.cast[k] = cast[k] - (1 << e) | 1 << d;
                }
                o.speaks[k] = speaks[k] == e ? d : speaks[k];
            }
            if (e == d || together) {
                continue;
            }
            int worth = o.worth(0);
            if (worth >= 0 && worth < low) {
                at = e;
                low = worth;
            }
        }
        return at;
    }

    int leave(int v) {
        int fewest = beats;
        for (int set = 0; set < 1 << beats; set++) {
            int out = beats - Integer.bitCount(set);
            if (out >= fewest) {
                continue;
            }
            int worth = only(set).worth(0);
            if (worth >= 0 && worth <= v) {
                fewest = out;
            }
        }
        return fewest;
    }

    /** How many rows of holds there are by what is drawn of the left hand. */
    long fits(int[] drawn) {
        double about = 1;
        long exact = 1;
        for (int k = 0; k < beats; k++) {
            int sum = 0;
            for (int l = -1; l < dolls; l++) {
                for (int r = -1; r < dolls; r++) {
                    sum += suits(k, l, r) && fitsAt(drawn, k, l) ? 1 : 0;
                }
            }
            about *= sum;
            exact *= sum;
        }
        return about > 1e9 ? Check.SIZE : exact;
    }

    int maybe(int[] drawn, int beat) {
        if (fits(drawn) == 0) {
            return 0;
        }
        int set = 0;
        for (int l = -1; l < dolls; l++) {
            for (int r = 0; r < dolls; r++) {
                set |= suits(beat, l, r) && fitsAt(drawn, beat, l) ? 1 << r : 0;
            }
        }
        return set;
    }

    private boolean fitsAt(int[] drawn, int k, int l) {
        if (k >= drawn.length || drawn[k] < -1 || drawn[k] >= dolls) {
            return true;
        }
        return drawn[k] == l;
    }
}
