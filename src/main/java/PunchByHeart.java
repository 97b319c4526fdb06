/**
 * Mr Punch by heart: a booth with one man, two hands, and dolls on hooks; plays as rows of beats,
 * the ways of the hands through them, drawings, evenings, texts, sheets and images. The document
 * shared/DOC.md tells by numbered promises what each call does.
 */
public final class PunchByHeart {
    private static final int BEYOND = -1000001;
    private static final int FULL = -1000002;
    private static final int KIND = -1000003;
    private static final int NONE = -1000004;
    private static final int STATE = -1000005;
    private static final int MISSING = -1000006;
    private static final int SIZE = -1000007;
    private static final int FINDINGS = 7;

    private static final int NOTHING = -1;
    private static final int NOBODY = -1;
    private static final int LEFT = 0;
    private static final int RIGHT = 1;
    private static final int BY_CHANGES = 0;
    private static final int BY_TIME = 1;

    private static final int MOST_DOLLS = 8;
    private static final int MOST_BEATS = 12;
    private static final int MOST_BYTES = 120;
    private static final int MOST_NUMBERS = 40;
    private static final int MOST_EVENINGS = 20;
    private static final int MOST_WORTH = 99;
    private static final int LARGEST_SIZE = 9;
    private static final int TENTHS = 10;
    private static final int SPOTS = 10;
    private static final int SHEETS = 4;
    private static final int MOST_ROWS = 1000000000;
    private static final long MOST_BELOW = 1000000000000000L;

    private final Booth booth;
    private final Booth kept;
    private final Booth trial;
    private final Ways ways;
    private final Tape tape;
    private final Sheet[] sheets;
    private final int[] found;
    private boolean isKept;

    public PunchByHeart() {
        booth = new Booth();
        kept = new Booth();
        trial = new Booth();
        ways = new Ways();
        tape = new Tape();
        sheets = new Sheet[SHEETS];
        for (int s = 0; s < sheets.length; s++) {
            sheets[s] = new Sheet();
        }
        found = new int[FINDINGS];
        isKept = false;
    }

    // ---- dolls, hooks, beats

    public int doll(int kind) {
        if (!Kinds.isKind(kind)) {
            return finding(BEYOND);
        }
        if (booth.dolls >= MOST_DOLLS) {
            return finding(FULL);
        }
        return booth.addDoll(kind);
    }

    public int of(int doll, int what) {
        if (!booth.isDoll(doll)) {
            return finding(BEYOND);
        }
        switch (what) {
            case 0: return booth.kindOf(doll);
            case 1: return booth.sizeOf(doll);
            case 2: return booth.wantOf(doll);
            case 3: return booth.onOf(doll);
            case 4: return booth.voiceOf(doll);
            case 5: return booth.hookOf(doll);
            default: return finding(BEYOND);
        }
    }

    public int change(int doll, int what, int v) {
        if (!booth.isDoll(doll)) {
            return finding(BEYOND);
        }
        int was;
        if (what == 0 && Kinds.isKind(v)) {
            was = booth.kindOf(doll);
            booth.setKind(doll, v);
        } else if (what == 1 && isSize(v)) {
            was = booth.sizeOf(doll);
            booth.setSize(doll, v);
        } else {
            was = finding(BEYOND);
        }
        return was;
    }

    public int hooks(int a, int b) {
        if (!booth.isDoll(a) || !booth.isDoll(b) || a == b) {
            return finding(BEYOND);
        }
        booth.swapHooks(a, b);
        return booth.hookOf(a);
    }

    public int leaves(int v) {
        if (v < 0 || v > TENTHS) {
            return finding(BEYOND);
        }
        int was = booth.leaving;
        booth.leaving = v;
        return was;
    }

    public int beat(int cast, int speaks) {
        if (!booth.isCast(cast) || !booth.isDollOrNone(speaks)) {
            return finding(BEYOND);
        }
        if (booth.beats >= MOST_BEATS) {
            return finding(FULL);
        }
        return booth.addBeat(cast, speaks);
    }

    public int told(int beat, int what) {
        if (!booth.isBeat(beat)) {
            return finding(BEYOND);
        }
        switch (what) {
            case 0: return booth.castOf(beat);
            case 1: return booth.speakerOf(beat);
            case 2: return booth.isWrong(beat) ? 1 : 0;
            default: return finding(BEYOND);
        }
    }

    public int tell(int beat, int what, int v) {
        if (!booth.isBeat(beat)) {
            return finding(BEYOND);
        }
        int was;
        if (what == 0 && booth.isCast(v)) {
            was = booth.castOf(beat);
            booth.setCast(beat, v);
        } else if (what == 1 && booth.isDollOrNone(v)) {
            was = booth.speakerOf(beat);
            booth.setSpeaker(beat, v);
        } else {
            was = finding(BEYOND);
        }
        return was;
    }

    public int cut(int beat) {
        if (!booth.isBeat(beat)) {
            return finding(BEYOND);
        }
        booth.dropBeat(beat);
        return booth.beats;
    }

    public int wrong() {
        return booth.wrongBeats();
    }

    public int whistle() {
        int times = 0;
        int latest = NOBODY;
        for (int k = 0; k < booth.beats; k++) {
            int speaker = booth.speakerOf(k);
            if (speaker == NOBODY) {
                continue;
            }
            if (latest != NOBODY && booth.voiceOf(speaker) != booth.voiceOf(latest)) {
                times++;
            }
            latest = speaker;
        }
        return times;
    }

    // ---- hands

    public int puts(int hand, int doll) {
        if (!isHand(hand) || !booth.isDollOrNone(doll)) {
            return finding(BEYOND);
        }
        if (doll != NOTHING && booth.inHand(RIGHT - hand) == doll) {
            return finding(STATE);
        }
        return booth.putInHand(hand, doll);
    }

    public int hand(int hand) {
        if (!isHand(hand)) {
            return finding(BEYOND);
        }
        return booth.inHand(hand);
    }

    public int suits(int beat) {
        if (!booth.isBeat(beat)) {
            return finding(BEYOND);
        }
        return booth.isSuited(beat, booth.left, booth.right) ? 1 : 0;
    }

    public int now(int what) {
        switch (what) {
            case 0: return booth.changes;
            case 1: return booth.time;
            case 2: return booth.played;
            case 3: return booth.lost;
            case 4: return booth.leaving;
            default: return finding(BEYOND);
        }
    }

    // ---- ways (nothing changes)

    public int least(int what) {
        if (!isWorth(what)) {
            return finding(BEYOND);
        }
        if (!booth.isGoing()) {
            return finding(STATE);
        }
        return ways.worth(booth, what);
    }

    public int held(int beat, int hand, int what) {
        if (!booth.isBeat(beat) || !isHand(hand) || !isWorth(what)) {
            return finding(BEYOND);
        }
        if (!booth.isGoing()) {
            return finding(STATE);
        }
        ways.follow(booth, what);
        return hand == LEFT ? ways.leftIn(beat) : ways.rightIn(beat);
    }

    public int part(int a, int b, int what) {
        if (!booth.isBeat(a) || !booth.isBeat(b) || a > b || !isWorth(what)) {
            return finding(BEYOND);
        }
        trial.take(booth);
        trial.keepBeats(a, b);
        if (!trial.isGoing()) {
            return finding(STATE);
        }
        return ways.worth(trial, what);
    }

    public int dear() {
        if (booth.beats == 0) {
            return finding(NONE);
        }
        if (!booth.isGoing()) {
            return finding(STATE);
        }
        int dearest = 0;
        int least = Ways.FAR;
        for (int k = 0; k < booth.beats; k++) {
            trial.take(booth);
            trial.dropBeat(k);
            int worth = ways.worth(trial, BY_CHANGES);
            if (worth < least) {
                least = worth;
                dearest = k;
            }
        }
        return dearest;
    }

    public int rehang() {
        if (!booth.isGoing()) {
            return finding(STATE);
        }
        return bestPair();
    }

    public int rehung() {
        if (!booth.isGoing()) {
            return finding(STATE);
        }
        return worthIfSwapped(bestPair());
    }

    public int kindFor(int doll) {
        if (!booth.isDoll(doll)) {
            return finding(BEYOND);
        }
        int best = 0;
        int most = -1;
        int least = Ways.FAR;
        for (int kind = 0; kind < Kinds.KINDS; kind++) {
            trial.take(booth);
            trial.setKind(doll, kind);
            trial.dropWrongBeats();
            int worth = ways.worth(trial, BY_CHANGES);
            if (trial.beats > most || trial.beats == most && worth < least) {
                best = kind;
                most = trial.beats;
                least = worth;
            }
        }
        return best;
    }

    public int mayor(int doll) {
        if (!booth.isDoll(doll)) {
            return finding(BEYOND);
        }
        int best = NOTHING;
        int least = Ways.FAR;
        for (int other = 0; other < booth.dolls; other++) {
            if (other == doll || booth.areTogether(doll, other)) {
                continue;
            }
            trial.take(booth);
            trial.replace(other, doll);
            int worth = trial.isGoing() ? ways.worth(trial, BY_CHANGES) : Ways.FAR;
            if (worth < least) {
                best = other;
                least = worth;
            }
        }
        return best == NOTHING ? finding(NONE) : best;
    }

    public int leave(int v) {
        if (v < 0 || v > MOST_WORTH) {
            return finding(BEYOND);
        }
        return ways.fewestLeftOut(booth, v);
    }

    // ---- drawings

    public int fits(int s) {
        Sheet drawing = sheetAt(s);
        if (drawing == null) {
            return finding(BEYOND);
        }
        if (drawing.isMissing()) {
            return finding(MISSING);
        }
        long rows = rowsBy(drawing);
        return rows > MOST_ROWS ? finding(SIZE) : (int) rows;
    }

    public int maybe(int s, int beat) {
        Sheet drawing = sheetAt(s);
        if (drawing == null) {
            return finding(BEYOND);
        }
        if (drawing.isMissing()) {
            return finding(MISSING);
        }
        if (!booth.isBeat(beat)) {
            return finding(BEYOND);
        }
        return rowsBy(drawing) == 0 ? 0 : rightsBy(drawing, beat);
    }

    // ---- evenings

    public int dogs() {
        int set = 0;
        for (int k = 0; k < booth.beats; k++) {
            if (booth.dogsIn(k) > 0) {
                set |= 1 << k;
            }
        }
        return set;
    }

    public long stays(int what) {
        if (what < 0 || what > 1) {
            return finding(BEYOND);
        }
        int upper = TENTHS - booth.leaving;
        int lower = TENTHS;
        // The only primes of ten: by these alone the tenths can be made less.
        if (upper % 2 == 0) {
            upper /= 2;
            lower /= 2;
        }
        if (upper % 5 == 0) {
            upper /= 5;
            lower /= 5;
        }
        long above = 1;
        long below = 1;
        int stands = booth.dogsInAll();
        for (int i = 0; i < stands; i++) {
            above *= upper;
            below *= lower;
            if (below > MOST_BELOW) {
                return finding(SIZE);
            }
        }
        return what == 0 ? above : below;
    }

    public int plays() {
        if (booth.beats == 0 || !booth.isGoing()) {
            return finding(STATE);
        }
        ways.follow(booth, BY_CHANGES);
        for (int k = 0; k < booth.beats; k++) {
            booth.putInHand(LEFT, ways.leftIn(k));
            booth.putInHand(RIGHT, ways.rightIn(k));
        }
        int gone = booth.drawEvening();
        booth.played += booth.beats;
        booth.lost += gone;
        return gone;
    }

    public int ahead(int n) {
        if (n < 0 || n > MOST_EVENINGS) {
            return finding(BEYOND);
        }
        if (booth.beats == 0 || !booth.isGoing()) {
            return finding(STATE);
        }
        // The draws alone tell what is lost: the hands need not be moved.
        trial.take(booth);
        int gone = 0;
        for (int i = 0; i < n; i++) {
            gone += trial.drawEvening();
        }
        return gone;
    }

    public int seed(int v) {
        int was = booth.z;
        booth.z = v;
        return was;
    }

    // ---- texts

    public int feed(int bytes, int n) {
        if (n < 1 || n > 4) {
            return finding(BEYOND);
        }
        if (tape.length + n > MOST_BYTES) {
            return finding(FULL);
        }
        for (int i = n - 1; i >= 0; i--) {
            tape.append((bytes >>> (8 * i)) & 255);
        }
        return tape.length;
    }

    public int wipe() {
        int had = tape.length;
        tape.length = 0;
        return had;
    }

    public int text() {
        trial.take(booth);
        int fault = tape.read(trial);
        tape.length = 0;
        if (fault != Tape.NO_FAULT) {
            return -1 - fault;
        }
        booth.take(trial);
        return tape.items;
    }

    // ---- spots, sheets

    public int hold(int spot, int doll) {
        if (!booth.isSpot(spot) || !booth.isDollOrNone(doll)) {
            return finding(BEYOND);
        }
        booth.setSpot(spot, doll);
        return 1;
    }

    public int as(int spot, int kind) {
        if (!booth.isSpot(spot) || !Kinds.isKind(kind)) {
            return finding(BEYOND);
        }
        int doll = booth.spotOf(spot);
        if (doll == NOTHING) {
            return finding(MISSING);
        }
        return Kinds.isUnder(booth.kindOf(doll), kind) ? doll : finding(KIND);
    }

    public int sheet(int s, int bits, int n) {
        Sheet page = sheetAt(s);
        if (page == null || !Sheet.isBits(bits)) {
            return finding(BEYOND);
        }
        if (n < 0) {
            return finding(SIZE);
        }
        if (n > MOST_NUMBERS) {
            return finding(BEYOND);
        }
        page.begin(bits, n);
        return page.length;
    }

    public int write(int s, int i, int v) {
        Sheet page = sheetAt(s);
        if (page == null) {
            return finding(BEYOND);
        }
        if (page.isMissing()) {
            return finding(MISSING);
        }
        if (!page.isPlace(i)) {
            return finding(BEYOND);
        }
        page.put(i, v);
        return 1;
    }

    public int copy(int s, int from, int t, int to, int n) {
        Sheet source = sheetAt(s);
        Sheet target = sheetAt(t);
        if (source == null || target == null) {
            return finding(BEYOND);
        }
        if (source.isMissing() || target.isMissing()) {
            return finding(MISSING);
        }
        if (source.bits != target.bits) {
            return finding(KIND);
        }
        if (!source.isStretch(from, n) || !target.isStretch(to, n)) {
            return finding(BEYOND);
        }
        System.arraycopy(source.numbers, from, target.numbers, to, n);
        return n;
    }

    public int load(int s) {
        Sheet page = sheetAt(s);
        if (page == null) {
            return finding(BEYOND);
        }
        if (page.isMissing()) {
            return finding(MISSING);
        }
        int came = 0;
        while (came < page.length && came < booth.dolls && isSize(page.number(came))) {
            booth.setSize(came, page.number(came));
            came++;
        }
        return came;
    }

    public int judge(int s) {
        Sheet page = sheetAt(s);
        if (page == null) {
            return finding(BEYOND);
        }
        if (page.isMissing()) {
            return finding(MISSING);
        }
        for (int i = 0; i < page.length; i += 2) {
            boolean isShort = !page.isPlace(i + 1);
            if (isShort || !booth.isBeat(i / 2)
                    || !booth.isSuited(i / 2, page.number(i), page.number(i + 1))) {
                return 1 + i;
            }
        }
        return 0;
    }

    // ---- images

    public int image() {
        kept.take(booth);
        isKept = true;
        return 1;
    }

    public int undo() {
        if (!isKept) {
            return finding(NONE);
        }
        booth.take(kept);
        return booth.beats;
    }

    public int tear() {
        int was = isKept ? 1 : 0;
        isKept = false;
        return was;
    }

    public int count(int what) {
        switch (what) {
            case 0: return booth.beats;
            case 1: return booth.dolls;
            case 2: return booth.changes;
            case 3: return booth.played;
            case 4: return booth.sizesTogether();
            case 5: return tape.length;
            case 6: return booth.z;
            case 7: return booth.spotsInUse();
            default: return finding(BEYOND);
        }
    }

    public int status(int which) {
        if (which < -1 || which >= FINDINGS) {
            return finding(BEYOND);
        }
        if (which >= 0) {
            return found[which];
        }
        int all = 0;
        for (int i = 0; i < FINDINGS; i++) {
            all += found[i];
        }
        return all;
    }

    // ---- what the calls share

    private int finding(int what) {
        int place = BEYOND - what;
        if (place >= 0 && place < found.length) {
            found[place]++;
        }
        return what;
    }

    private static boolean isHand(int hand) {
        return hand == LEFT || hand == RIGHT;
    }

    private static boolean isWorth(int what) {
        return what == BY_CHANGES || what == BY_TIME;
    }

    private static boolean isSize(int v) {
        return v >= 1 && v <= LARGEST_SIZE;
    }

    private Sheet sheetAt(int s) {
        return s >= 0 && s < sheets.length ? sheets[s] : null;
    }

    /** The two dolls, as rehang() tells them, that should change hooks. */
    private int bestPair() {
        int best = 0;
        int least = worthIfSwapped(0);
        for (int a = 0; a < booth.dolls; a++) {
            for (int b = a + 1; b < booth.dolls; b++) {
                int worth = worthIfSwapped(10 * a + b);
                if (worth < least) {
                    best = 10 * a + b;
                    least = worth;
                }
            }
        }
        return best;
    }

    private int worthIfSwapped(int pair) {
        trial.take(booth);
        if (pair != 0) {
            trial.swapHooks(pair / 10, pair % 10);
        }
        return ways.worth(trial, BY_TIME);
    }

    /** How many rows of holds there are by a drawing; one more than most, if there are more. */
    private long rowsBy(Sheet drawing) {
        long rows = 1;
        for (int k = 0; k < booth.beats; k++) {
            int holds = 0;
            for (int left = NOTHING; left < booth.dolls; left++) {
                if (isDrawn(drawing, k, left)) {
                    holds += Integer.bitCount(booth.rightsBeside(k, left));
                }
            }
            // A later beat may still make it none: so this goes on behind the most, too.
            rows = Math.min(rows * holds, MOST_ROWS + 1L);
        }
        return rows;
    }

    private int rightsBy(Sheet drawing, int beat) {
        int set = 0;
        for (int left = NOTHING; left < booth.dolls; left++) {
            if (isDrawn(drawing, beat, left)) {
                set |= booth.rightsBeside(beat, left);
            }
        }
        // Less the place of nothing, this is a set of dolls.
        return set >> 1;
    }

    private boolean isDrawn(Sheet drawing, int beat, int left) {
        if (!drawing.isPlace(beat)) {
            return true;
        }
        int drawn = drawing.number(beat);
        return drawn == left || !booth.isDollOrNone(drawn);
    }

    /** What the kinds of dolls are like. */
    private static final class Kinds {
        static final int KINDS = 7;
        static final int DOG = 5;
        static final int ANY_HAND = 0;
        static final int LEFT_HAND = 1;
        static final int RIGHT_HAND = 2;

        private static final int DOLL = 0;
        private static final int PUNCH = 1;
        private static final int GHOST = 2;
        private static final int JAWED = 3;
        private static final int CROCODILE = 4;
        private static final int BEADLE = 6;
        private static final int NO_KIND = -1;
        private static final int PUNCH_ON = 1;
        private static final int GHOST_ON = PUNCH_ON + 2;
        private static final int[] ABOVE = {NO_KIND, DOLL, PUNCH, DOLL, JAWED, DOLL, GHOST};

        static boolean isKind(int kind) {
            return kind >= 0 && kind < KINDS;
        }

        static boolean isUnder(int kind, int top) {
            int at = kind;
            for (int steps = 0; steps < KINDS && isKind(at); steps++) {
                if (at == top) {
                    return true;
                }
                at = ABOVE[at];
            }
            return false;
        }

        static int wanted(int kind) {
            switch (kind) {
                case PUNCH: return RIGHT_HAND;
                case JAWED:
                case CROCODILE: return LEFT_HAND;
                default: return ANY_HAND;
            }
        }

        static int on(int kind, int size) {
            switch (kind) {
                case PUNCH: return PUNCH_ON;
                case GHOST: return GHOST_ON;
                case BEADLE: return 2 * GHOST_ON;
                case JAWED: return 2 * size;
                case CROCODILE: return 2 * size + 3;
                case DOG: return size > 1 ? size / 2 : 1;
                default: return size;
            }
        }

        static int voice(int kind) {
            return kind == PUNCH ? 1 : 0;
        }
    }

    /** All that an image keeps: dolls on hooks, beats, hands, spots, and what was played. */
    private static final class Booth {
        int dolls;
        int beats;
        int left;
        int right;
        int leaving;
        int z;
        int changes;
        int time;
        int played;
        int lost;
        private final int[] kinds;
        private final int[] sizes;
        private final int[] places;
        private final int[] casts;
        private final int[] speakers;
        private final int[] spots;

        Booth() {
            kinds = new int[MOST_DOLLS];
            sizes = new int[MOST_DOLLS];
            places = new int[MOST_DOLLS];
            casts = new int[MOST_BEATS];
            speakers = new int[MOST_BEATS];
            spots = new int[SPOTS];
            for (int i = 0; i < spots.length; i++) {
                spots[i] = NOTHING;
            }
            left = NOTHING;
            right = NOTHING;
            z = 1;
        }

        void take(Booth other) {
            dolls = other.dolls;
            beats = other.beats;
            left = other.left;
            right = other.right;
            leaving = other.leaving;
            z = other.z;
            changes = other.changes;
            time = other.time;
            played = other.played;
            lost = other.lost;
            System.arraycopy(other.kinds, 0, kinds, 0, MOST_DOLLS);
            System.arraycopy(other.sizes, 0, sizes, 0, MOST_DOLLS);
            System.arraycopy(other.places, 0, places, 0, MOST_DOLLS);
            System.arraycopy(other.casts, 0, casts, 0, MOST_BEATS);
            System.arraycopy(other.speakers, 0, speakers, 0, MOST_BEATS);
            System.arraycopy(other.spots, 0, spots, 0, SPOTS);
        }

        boolean isDoll(int doll) {
            return doll >= 0 && doll < dolls;
        }

        boolean isDollOrNone(int doll) {
            return doll == NOTHING || isDoll(doll);
        }

        boolean isCast(int cast) {
            return cast >= 0 && cast < 1 << dolls;
        }

        boolean isBeat(int beat) {
            return beat >= 0 && beat < beats;
        }

        boolean isSpot(int spot) {
            return spot >= 0 && spot < SPOTS;
        }

        /** A new doll's number, or NOTHING if there is no room for one. */
        int addDoll(int kind) {
            if (dolls < 0 || dolls >= MOST_DOLLS) {
                return NOTHING;
            }
            kinds[dolls] = kind;
            sizes[dolls] = 3;
            places[dolls] = dolls;
            dolls++;
            return dolls - 1;
        }

        int kindOf(int doll) {
            return isDoll(doll) ? kinds[doll] : 0;
        }

        int sizeOf(int doll) {
            return isDoll(doll) ? sizes[doll] : 0;
        }

        int hookOf(int doll) {
            return isDoll(doll) ? places[doll] : 0;
        }

        int onOf(int doll) {
            return isDoll(doll) ? Kinds.on(kinds[doll], sizes[doll]) : 0;
        }

        int wantOf(int doll) {
            return isDoll(doll) ? Kinds.wanted(kinds[doll]) : Kinds.ANY_HAND;
        }

        int voiceOf(int doll) {
            return isDoll(doll) ? Kinds.voice(kinds[doll]) : 0;
        }

        void setKind(int doll, int kind) {
            if (isDoll(doll)) {
                kinds[doll] = kind;
            }
        }

        void setSize(int doll, int size) {
            if (isDoll(doll)) {
                sizes[doll] = size;
            }
        }

        void swapHooks(int a, int b) {
            if (isDoll(a) && isDoll(b)) {
                int place = places[a];
                places[a] = places[b];
                places[b] = place;
            }
        }

        int sizesTogether() {
            int sum = 0;
            for (int d = 0; d < dolls; d++) {
                sum += sizeOf(d);
            }
            return sum;
        }

        /** A new beat's number, or -1 if there is no room for one. */
        int addBeat(int cast, int speaker) {
            if (beats < 0 || beats >= MOST_BEATS) {
                return -1;
            }
            casts[beats] = cast;
            speakers[beats] = speaker;
            beats++;
            return beats - 1;
        }

        int castOf(int beat) {
            return isBeat(beat) ? casts[beat] : 0;
        }

        int speakerOf(int beat) {
            return isBeat(beat) ? speakers[beat] : NOBODY;
        }

        void setCast(int beat, int cast) {
            if (isBeat(beat)) {
                casts[beat] = cast;
            }
        }

        void setSpeaker(int beat, int speaker) {
            if (isBeat(beat)) {
                speakers[beat] = speaker;
            }
        }

        void dropBeat(int beat) {
            if (!isBeat(beat)) {
                return;
            }
            for (int k = beat; k < beats - 1; k++) {
                setCast(k, castOf(k + 1));
                setSpeaker(k, speakerOf(k + 1));
            }
            beats--;
        }

        /** Only the beats from one to another are left. */
        void keepBeats(int from, int to) {
            for (int k = beats - 1; k >= 0; k--) {
                if (k < from || k > to) {
                    dropBeat(k);
                }
            }
        }

        void dropWrongBeats() {
            for (int k = beats - 1; k >= 0; k--) {
                if (isWrong(k)) {
                    dropBeat(k);
                }
            }
        }

        boolean isWrong(int beat) {
            int cast = castOf(beat);
            int speaker = speakerOf(beat);
            if (speaker != NOBODY && !contains(cast, speaker)) {
                return true;
            }
            if (Integer.bitCount(cast) > 2) {
                return true;
            }
            return wanting(cast, Kinds.LEFT_HAND) > 1 || wanting(cast, Kinds.RIGHT_HAND) > 1;
        }

        private int wanting(int cast, int wish) {
            int sum = 0;
            for (int d = 0; d < dolls; d++) {
                if (contains(cast, d) && wantOf(d) == wish) {
                    sum++;
                }
            }
            return sum;
        }

        int wrongBeats() {
            int set = 0;
            for (int k = 0; k < beats; k++) {
                if (isWrong(k)) {
                    set |= 1 << k;
                }
            }
            return set;
        }

        boolean isGoing() {
            return wrongBeats() == 0;
        }

        boolean areTogether(int a, int b) {
            for (int k = 0; k < beats; k++) {
                if (contains(castOf(k), a) && contains(castOf(k), b)) {
                    return true;
                }
            }
            return false;
        }

        /** In all casts and among all that speak another doll comes in the place of one. */
        void replace(int old, int other) {
            for (int k = 0; k < beats; k++) {
                int cast = castOf(k);
                if (contains(cast, old)) {
                    setCast(k, cast & ~bit(old) | bit(other));
                }
                if (speakerOf(k) == old) {
                    setSpeaker(k, other);
                }
            }
        }

        /**
         * What the right hand may hold beside what the left one holds, so that this is a hold that
         * suits a beat: a set with 1 for nothing, 2 for doll 0, 4 for doll 1, and so on.
         */
        int rightsBeside(int beat, int inLeft) {
            int cast = castOf(beat);
            if (!isDollOrNone(inLeft)) {
                return 0;
            }
            if (contains(cast, inLeft) && wantOf(inLeft) == Kinds.RIGHT_HAND) {
                return 0;
            }
            int rest = cast & ~bit(inLeft);
            if (rest == 0) {
                return (2 << dolls) - 1 & ~(2 * bit(inLeft));
            }
            int one = Integer.numberOfTrailingZeros(rest);
            boolean isHeld = rest == bit(one) && wantOf(one) != Kinds.LEFT_HAND;
            return isHeld ? 2 * rest : 0;
        }

        /** Whether two numbers are a hold at all, and one that suits a beat. */
        boolean isSuited(int beat, int inLeft, int inRight) {
            return isDollOrNone(inRight) && contains(rightsBeside(beat, inLeft), inRight + 1);
        }

        private static int bit(int doll) {
            return doll == NOTHING ? 0 : 1 << doll;
        }

        private static boolean contains(int cast, int doll) {
            return (cast & bit(doll)) != 0;
        }

        int inHand(int hand) {
            return hand == LEFT ? left : right;
        }

        /** A hand changes, and it is noted: what it takes. */
        int putInHand(int hand, int doll) {
            int before = inHand(hand);
            if (before == doll) {
                return 0;
            }
            if (hand == LEFT) {
                left = doll;
            } else {
                right = doll;
            }
            int takes = price(doll, BY_TIME);
            changes++;
            time += takes;
            return takes;
        }

        /** What it is worth that a hand comes to hold a doll, or nothing, that it didn't hold. */
        int price(int doll, int what) {
            if (what == BY_CHANGES || doll == NOTHING) {
                return 1;
            }
            return onOf(doll) + hookOf(doll);
        }

        int dogsIn(int beat) {
            int sum = 0;
            for (int d = 0; d < dolls; d++) {
                if (contains(castOf(beat), d) && Kinds.isUnder(kindOf(d), Kinds.DOG)) {
                    sum++;
                }
            }
            return sum;
        }

        int dogsInAll() {
            int sum = 0;
            for (int k = 0; k < beats; k++) {
                sum += dogsIn(k);
            }
            return sum;
        }

        /** The draws of an evening: how many beats are lost by them. */
        int drawEvening() {
            int gone = 0;
            for (int k = 0; k < beats; k++) {
                int dogs = dogsIn(k);
                boolean leaves = false;
                for (int i = 0; i < dogs; i++) {
                    // Each dog draws, also behind one that leaves.
                    if (draw() % TENTHS < leaving) {
                        leaves = true;
                    }
                }
                if (leaves) {
                    gone++;
                }
            }
            return gone;
        }

        private int draw() {
            z = z * 1103515245 + 12345;
            return z >>> 8;
        }

        int spotOf(int spot) {
            return isSpot(spot) ? spots[spot] : NOTHING;
        }

        void setSpot(int spot, int doll) {
            if (isSpot(spot)) {
                spots[spot] = doll;
            }
        }

        int spotsInUse() {
            int sum = 0;
            for (int i = 0; i < spots.length; i++) {
                if (spots[i] != NOTHING) {
                    sum++;
                }
            }
            return sum;
        }
    }

    /**
     * The best ways, by all holds, from the last beat to the first. A hold's place in a row is
     * (left + 1) * WIDTH + right + 1: so holds come by places as the document orders them.
     */
    private static final class Ways {
        static final int FAR = 1000000;
        private static final int WIDTH = MOST_DOLLS + 1;
        private static final int HOLDS = WIDTH * WIDTH;
        private static final int ROWS = MOST_BEATS + 1;

        /** Row k: for each hold ahead of beat k the least worth of what is still to come. */
        private final int[] toCome;
        /** The same, if one beat fewer may be left out. */
        private final int[] toComeFewer;
        private final int[] half;
        private final int[] prices;
        private final int[] lefts;
        private final int[] rights;

        Ways() {
            toCome = new int[ROWS * HOLDS];
            toComeFewer = new int[ROWS * HOLDS];
            half = new int[HOLDS];
            prices = new int[WIDTH];
            lefts = new int[MOST_BEATS];
            rights = new int[MOST_BEATS];
        }

        /** The least worth of a way of a play that goes. */
        int worth(Booth booth, int what) {
            begin(booth, what);
            for (int k = booth.beats - 1; k >= 0; k--) {
                stepBack(booth, k);
            }
            return worthFrom(0, booth.left, booth.right);
        }

        /** Finds the best way of a play that goes. */
        void follow(Booth booth, int what) {
            worth(booth, what);
            int left = booth.left;
            int right = booth.right;
            for (int k = 0; k < booth.beats; k++) {
                int next = firstBest(booth, k, left, right);
                left = next / WIDTH - 1;
                right = next % WIDTH - 1;
                put(lefts, k, left);
                put(rights, k, right);
            }
        }

        int leftIn(int beat) {
            return beat >= 0 && beat < lefts.length ? lefts[beat] : NOTHING;
        }

        int rightIn(int beat) {
            return beat >= 0 && beat < rights.length ? rights[beat] : NOTHING;
        }

        /** How few beats can be left out so that the others go, and are worth no more than most. */
        int fewestLeftOut(Booth booth, int most) {
            begin(booth, BY_CHANGES);
            for (int out = 0; out < booth.beats; out++) {
                for (int k = booth.beats - 1; k >= 0; k--) {
                    if (booth.isWrong(k)) {
                        fillRow(k, FAR);
                    } else {
                        stepBack(booth, k);
                    }
                    if (out > 0) {
                        leaveOut(k);
                    }
                }
                if (worthFrom(0, booth.left, booth.right) <= most) {
                    return out;
                }
                System.arraycopy(toCome, 0, toComeFewer, 0, toCome.length);
            }
            return booth.beats;
        }

        private static int place(int left, int right) {
            return (left + 1) * WIDTH + right + 1;
        }

        private int worthFrom(int row, int left, int right) {
            return at(toCome, row * HOLDS + place(left, right));
        }

        private void begin(Booth booth, int what) {
            for (int d = NOTHING; d < booth.dolls; d++) {
                put(prices, d + 1, booth.price(d, what));
            }
            fillRow(booth.beats, 0);
        }

        private void fillRow(int row, int worth) {
            for (int h = 0; h < HOLDS; h++) {
                put(toCome, row * HOLDS + h, worth);
            }
        }

        /**
         * A row from the row behind it. What a hand pays hangs only on what it takes then, if it
         * takes anything: so each hand, one after the other, either keeps or takes the cheapest.
         */
        private void stepBack(Booth booth, int row) {
            int here = row * HOLDS;
            int next = here + HOLDS;
            for (int left = NOTHING; left < booth.dolls; left++) {
                int rights = booth.rightsBeside(row, left);
                int cheapest = FAR;
                for (int right = NOTHING; right < booth.dolls; right++) {
                    int h = place(left, right);
                    int kept = (rights >> right + 1 & 1) != 0 ? at(toCome, next + h) : FAR;
                    put(half, h, kept);
                    cheapest = Math.min(cheapest, kept + at(prices, right + 1));
                }
                for (int right = NOTHING; right < booth.dolls; right++) {
                    int h = place(left, right);
                    put(half, h, Math.min(at(half, h), cheapest));
                }
            }
            for (int right = NOTHING; right < booth.dolls; right++) {
                int cheapest = FAR;
                for (int left = NOTHING; left < booth.dolls; left++) {
                    int kept = at(half, place(left, right));
                    cheapest = Math.min(cheapest, kept + at(prices, left + 1));
                }
                for (int left = NOTHING; left < booth.dolls; left++) {
                    int h = place(left, right);
                    put(toCome, here + h, Math.min(at(half, h), cheapest));
                }
            }
        }

        /** In a row the beat may be left out, if the beats behind it leave out one fewer. */
        private void leaveOut(int row) {
            for (int h = 0; h < HOLDS; h++) {
                int here = row * HOLDS + h;
                int without = at(toComeFewer, here + HOLDS);
                put(toCome, here, Math.min(at(toCome, here), without));
            }
        }

        /** The place of the first hold for a beat by which nothing of the least worth is lost. */
        private int firstBest(Booth booth, int beat, int left, int right) {
            int least = worthFrom(beat, left, right);
            for (int nextLeft = NOTHING; nextLeft < booth.dolls; nextLeft++) {
                for (int nextRight = NOTHING; nextRight < booth.dolls; nextRight++) {
                    int worth = worthFrom(beat + 1, nextLeft, nextRight)
                            + move(left, nextLeft) + move(right, nextRight);
                    if (worth == least && booth.isSuited(beat, nextLeft, nextRight)) {
                        return place(nextLeft, nextRight);
                    }
                }
            }
            return place(left, right);
        }

        private int move(int before, int then) {
            return before == then ? 0 : at(prices, then + 1);
        }

        private static int at(int[] numbers, int place) {
            return place >= 0 && place < numbers.length ? numbers[place] : FAR;
        }

        private static void put(int[] numbers, int place, int number) {
            if (place >= 0 && place < numbers.length) {
                numbers[place] = number;
            }
        }
    }

    /** The tape, and the reading of a text from it. */
    private static final class Tape {
        static final int NO_FAULT = -1;

        private static final int END = 0;
        private static final int WORD = 1;
        private static final int NUMBER = 2;
        private static final int SIGN = 3;
        private static final int OTHER = 4;

        private static final int BEAT = 7;
        private static final int LEAVES = 8;
        private static final int HOOK = 9;
        private static final int WITH_SIZE = 10;
        private static final int WITH_SPEAKS = 11;
        private static final int WORDS = 12;
        private static final int NO_WORD = -1;
        private static final int TOO_MUCH = 1000;

        int length;
        int items;
        private final int[] bytes;
        private int behind;
        private int start;
        private int token;
        private int number;
        private int word;

        Tape() {
            bytes = new int[MOST_BYTES];
        }

        void append(int value) {
            if (length >= 0 && length < bytes.length) {
                bytes[length] = value;
                length++;
            }
        }

        /** Reads the text into a booth: the fault, or NO_FAULT; items tells how many there are. */
        int read(Booth booth) {
            items = 0;
            behind = 0;
            nextToken();
            // An item takes a byte at least, so there are no more of them than bytes.
            for (int i = 0; i <= MOST_BYTES; i++) {
                if (!readItem(booth)) {
                    return start;
                }
                items++;
                if (token == END) {
                    return NO_FAULT;
                }
                if (token != SIGN) {
                    return start;
                }
                nextToken();
            }
            return start;
        }

        /** Reads an item; if one can't be read, the token that can't stand there is the latest. */
        private boolean readItem(Booth booth) {
            if (token != WORD) {
                return false;
            }
            switch (word) {
                case BEAT: return readBeat(booth);
                case LEAVES: return readLeaves(booth);
                case HOOK: return readHook(booth);
                default: return Kinds.isKind(word) && readDoll(booth, word);
            }
        }

        private boolean readDoll(Booth booth, int kind) {
            if (booth.dolls >= MOST_DOLLS) {
                return false;
            }
            int doll = booth.addDoll(kind);
            nextToken();
            if (!isWord(WITH_SIZE)) {
                return true;
            }
            nextToken();
            if (!isNumber(1, LARGEST_SIZE)) {
                return false;
            }
            booth.setSize(doll, number);
            nextToken();
            return true;
        }

        private boolean readBeat(Booth booth) {
            if (booth.beats >= MOST_BEATS) {
                return false;
            }
            nextToken();
            if (token != NUMBER || !booth.isCast(number)) {
                return false;
            }
            int beat = booth.addBeat(number, NOBODY);
            nextToken();
            if (!isWord(WITH_SPEAKS)) {
                return true;
            }
            nextToken();
            if (!isNumber(0, booth.dolls - 1)) {
                return false;
            }
            booth.setSpeaker(beat, number);
            nextToken();
            return true;
        }

        private boolean readLeaves(Booth booth) {
            nextToken();
            if (!isNumber(0, TENTHS)) {
                return false;
            }
            booth.leaving = number;
            nextToken();
            return true;
        }

        private boolean readHook(Booth booth) {
            nextToken();
            if (!isNumber(0, booth.dolls - 1)) {
                return false;
            }
            int first = number;
            nextToken();
            if (!isNumber(0, booth.dolls - 1)) {
                return false;
            }
            booth.swapHooks(first, number);
            nextToken();
            return true;
        }

        private boolean isWord(int which) {
            return token == WORD && word == which;
        }

        private boolean isNumber(int lowest, int highest) {
            return token == NUMBER && number >= lowest && number <= highest;
        }

        private void nextToken() {
            while (behind < length && byteAt(behind) == ' ') {
                behind++;
            }
            start = behind;
            if (start >= length) {
                token = END;
            } else if (isLetter(byteAt(start))) {
                nextWord();
            } else if (isDigit(byteAt(start))) {
                nextNumber();
            } else {
                token = byteAt(start) == ';' ? SIGN : OTHER;
                behind++;
            }
        }

        private void nextWord() {
            while (behind < length && isLetter(byteAt(behind))) {
                behind++;
            }
            token = WORD;
            word = NO_WORD;
            for (int i = 0; i < WORDS; i++) {
                if (isSpelt(spelling(i))) {
                    word = i;
                }
            }
        }

        private void nextNumber() {
            token = NUMBER;
            number = 0;
            while (behind < length && isDigit(byteAt(behind))) {
                number = Math.min(10 * number + byteAt(behind) - '0', TOO_MUCH);
                behind++;
            }
        }

        private boolean isSpelt(String spelling) {
            if (spelling.length() != behind - start) {
                return false;
            }
            for (int i = 0; i < spelling.length(); i++) {
                if (spelling.charAt(i) != byteAt(start + i)) {
                    return false;
                }
            }
            return true;
        }

        /** The words of the kinds come by the kinds' own numbers. */
        private static String spelling(int which) {
            switch (which) {
                case 0: return "doll";
                case 1: return "punch";
                case 2: return "ghost";
                case 3: return "jawed";
                case 4: return "crocodile";
                case 5: return "dog";
                case 6: return "beadle";
                case BEAT: return "beat";
                case LEAVES: return "leaves";
                case HOOK: return "hook";
                case WITH_SIZE: return "size";
                case WITH_SPEAKS: return "speaks";
                default: return "";
            }
        }

        private int byteAt(int place) {
            return place >= 0 && place < bytes.length ? bytes[place] : 0;
        }

        private static boolean isLetter(int value) {
            return value >= 'a' && value <= 'z';
        }

        private static boolean isDigit(int value) {
            return value >= '0' && value <= '9';
        }
    }

    /** A row of numbers of as many bits each, or of none: then it is missing. */
    private static final class Sheet {
        int bits;
        int length;
        final int[] numbers;

        Sheet() {
            numbers = new int[MOST_NUMBERS];
        }

        static boolean isBits(int bits) {
            return bits == 0 || bits == 8 || bits == 16 || bits == 32;
        }

        /** All numbers are 0 then; without bits there are none. */
        void begin(int newBits, int newLength) {
            bits = newBits;
            length = newBits == 0 ? 0 : Math.max(0, Math.min(newLength, numbers.length));
            for (int i = 0; i < numbers.length; i++) {
                numbers[i] = 0;
            }
        }

        boolean isMissing() {
            return bits == 0;
        }

        boolean isPlace(int i) {
            return i >= 0 && i < length;
        }

        boolean isStretch(int from, int n) {
            return from >= 0 && n >= 0 && from <= length && n <= length - from;
        }

        int number(int i) {
            return isPlace(i) ? numbers[i] : 0;
        }

        void put(int i, int v) {
            if (!isPlace(i)) {
                return;
            }
            if (bits == 8) {
                numbers[i] = (byte) v;
            } else if (bits == 16) {
                numbers[i] = (short) v;
            } else {
                numbers[i] = v;
            }
        }
    }
}
