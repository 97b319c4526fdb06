import java.math.BigInteger;
import java.util.ArrayList;
import java.util.Arrays;
import java.util.List;
import java.util.regex.Matcher;
import java.util.regex.Pattern;

/**
 * The document told a second time, for plays of any length: by lists, from the first beat on, with
 * every way's holds written down. Its answers are those that are due.
 */
final class Model {
    private static final String[] WORDS = {
        "doll", "punch", "ghost", "jawed", "crocodile", "dog", "beadle",
    };
    private static final Pattern TOKEN = Pattern.compile("[a-z]+|[0-9]+|;");

    /** An act's finding. */
    private static final class Finding extends RuntimeException {
        final int what;

        Finding(int what) {
            super(null, null, false, false);
            this.what = what;
        }
    }

    /** A text's fault. */
    private static final class Fault extends RuntimeException {
        final int place;

        Fault(int place) {
            super(null, null, false, false);
            this.place = place;
        }
    }

    /** All that an image keeps; a doll is its kind and size, a beat its cast and who speaks. */
    private static final class State {
        List<int[]> dolls = new ArrayList<>();
        List<Integer> hooks = new ArrayList<>();
        List<int[]> beats = new ArrayList<>();
        int[] hands = {-1, -1};
        int[] spots = {-1, -1, -1, -1, -1, -1, -1, -1, -1, -1};
        int leaves;
        int z = 1;
        int changes;
        int time;
        int played;
        int lost;

        State twin() {
            State s = new State();
            dolls.forEach(d -> s.dolls.add(d.clone()));
            s.hooks.addAll(hooks);
            beats.forEach(b -> s.beats.add(b.clone()));
            s.hands = hands.clone();
            s.spots = spots.clone();
            s.leaves = leaves;
            s.z = z;
            s.changes = changes;
            s.time = time;
            s.played = played;
            s.lost = lost;
            return s;
        }
    }

    /** A row of holds, left and right by turns, and what it is worth. */
    private record Way(int worth, int[] holds, int left, int right) { }

    private State s = new State();
    private State kept;
    private final StringBuilder tape = new StringBuilder();
    private final List<List<Integer>> sheets = new ArrayList<>(Arrays.asList(null, null, null, null));
    private final int[] bits = new int[4];
    private final int[] found = new int[7];

    long answer(String name, int... a) {
        try {
            return act(name, a);
        } catch (Finding finding) {
            found[Check.BEYOND - finding.what]++;
            return finding.what;
        }
    }

    private static void refuse(boolean when, int what) {
        if (when) {
            throw new Finding(what);
        }
    }

    private static boolean in(int v, int lowest, int highest) {
        return v >= lowest && v <= highest;
    }

    private long act(String name, int[] a) {
        switch (name) {
            case "doll": return doll(a[0]);
            case "of": return of(a[0], a[1]);
            case "change": return change(a[0], a[1], a[2]);
            case "hooks": return hooks(a[0], a[1]);
            case "leaves": return leaves(a[0]);
            case "beat": return beat(a[0], a[1]);
            case "told": return told(a[0], a[1]);
            case "tell": return tell(a[0], a[1], a[2]);
            case "cut": return cut(a[0]);
            case "wrong": return set(k -> isWrong(s, s.beats.get(k)));
            case "whistle": return whistle();
            case "puts": return puts(a[0], a[1]);
            case "hand": return hand(a[0]);
            case "suits": return suits(a[0]);
            case "now": return now(a[0]);
            default: return actOfWays(name, a);
        }
    }

    private long actOfWays(String name, int[] a) {
        switch (name) {
            case "least": return least(a[0]);
            case "held": return held(a[0], a[1], a[2]);
            case "part": return part(a[0], a[1], a[2]);
            case "dear": return dear();
            case "rehang": return rehang()[0];
            case "rehung": return rehang()[1];
            case "kindFor": return kindFor(a[0]);
            case "mayor": return mayor(a[0]);
            case "leave": return leave(a[0]);
            case "fits": return fits(a[0]);
            case "maybe": return maybe(a[0], a[1]);
            case "dogs": return set(k -> !dogsIn(s, s.beats.get(k)).isEmpty());
            case "stays": return stays(a[0]);
            case "plays": return plays();
            case "ahead": return ahead(a[0]);
            default: return actOfRows(name, a);
        }
    }

    private long actOfRows(String name, int[] a) {
        switch (name) {
            case "seed": return seed(a[0]);
            case "feed": return feed(a[0], a[1]);
            case "wipe": return wipe();
            case "text": return text();
            case "hold": return hold(a[0], a[1]);
            case "as": return as(a[0], a[1]);
            case "sheet": return sheet(a[0], a[1], a[2]);
            case "write": return write(a[0], a[1], a[2]);
            case "copy": return copy(a[0], a[1], a[2], a[3], a[4]);
            case "load": return load(a[0]);
            case "judge": return judge(a[0]);
            case "image": return image();
            case "undo": return undo();
            case "tear": return tear();
            case "count": return count(a[0]);
            case "status": return status(a[0]);
            default: throw new IllegalArgumentException(name);
        }
    }

    // ---- what dolls and beats are like

    private static int above(int kind) {
        switch (kind) {
            case 2: return 1;
            case 4: return 3;
            case 6: return 2;
            default: return 0;
        }
    }

    private static boolean isUnder(int kind, int top) {
        return kind == top || kind != 0 && isUnder(above(kind), top);
    }

    private static int wants(int kind) {
        switch (kind) {
            case 0: case 2: case 5: return 0;
            case 1: return 2;
            case 3: return 1;
            default: return wants(above(kind));
        }
    }

    private static int on(int kind, int size) {
        switch (kind) {
            case 1: return 1;
            case 2: return on(1, size) + 2;
            case 3: return on(0, size) * 2;
            case 4: return on(3, size) + 3;
            case 5: return Math.max(on(0, size) / 2, 1);
            case 6: return on(2, size) * 2;
            default: return size;
        }
    }

    private static int voice(int kind) {
        return kind == 1 ? 1 : kind == 0 || kind == 2 ? 0 : voice(above(kind));
    }

    private static List<Integer> members(int set) {
        List<Integer> all = new ArrayList<>();
        for (int i = 0; i < 31; i++) {
            if ((set & 1 << i) != 0) {
                all.add(i);
            }
        }
        return all;
    }

    private static boolean isWrong(State s, int[] beat) {
        List<Integer> cast = members(beat[0]);
        if (cast.size() > 2 || beat[1] != -1 && !cast.contains(beat[1])) {
            return true;
        }
        if (cast.size() < 2) {
            return false;
        }
        int first = wants(s.dolls.get(cast.get(0))[0]);
        return first != 0 && first == wants(s.dolls.get(cast.get(1))[0]);
    }

    private static boolean goes(State s) {
        return s.beats.stream().noneMatch(b -> isWrong(s, b));
    }

    private static List<Integer> dogsIn(State s, int[] beat) {
        List<Integer> dogs = members(beat[0]);
        dogs.removeIf(d -> !isUnder(s.dolls.get(d)[0], 5));
        return dogs;
    }

    private int set(java.util.function.IntPredicate isIn) {
        int set = 0;
        for (int k = 0; k < s.beats.size(); k++) {
            set += isIn.test(k) ? 1 << k : 0;
        }
        return set;
    }

    /** Whether a hold suits a cast: what is told of holds, not of who speaks. */
    private static boolean isSuited(State s, int cast, int left, int right) {
        boolean isHold = in(left, -1, s.dolls.size() - 1) && in(right, -1, s.dolls.size() - 1)
                && (left == -1 || left != right);
        if (!isHold) {
            return false;
        }
        for (int d : members(cast)) {
            int wants = wants(s.dolls.get(d)[0]);
            if (!(d == left && wants != 2) && !(d == right && wants != 1)) {
                return false;
            }
        }
        return true;
    }

    private static int cost(State s, int before, int then, int what) {
        if (before == then) {
            return 0;
        }
        if (what == 0 || then == -1) {
            return 1;
        }
        return on(s.dolls.get(then)[0], s.dolls.get(then)[1]) + s.hooks.indexOf(then);
    }

    /** The best way of a row of beats: for each hold in turn the best way to it is kept. */
    private static Way best(State s, List<int[]> beats, int what) {
        List<Way> ways = List.of(new Way(0, new int[0], s.hands[0], s.hands[1]));
        for (int[] beat : beats) {
            List<Way> next = new ArrayList<>();
            for (int left = -1; left < s.dolls.size(); left++) {
                for (int right = -1; right < s.dolls.size(); right++) {
                    if (isSuited(s, beat[0], left, right)) {
                        next.add(bestTo(s, ways, left, right, what));
                    }
                }
            }
            ways = next;
        }
        return first(ways);
    }

    private static Way bestTo(State s, List<Way> ways, int left, int right, int what) {
        List<Way> on = new ArrayList<>();
        for (Way w : ways) {
            int worth = w.worth + cost(s, w.left, left, what) + cost(s, w.right, right, what);
            on.add(new Way(worth, w.holds, left, right));
        }
        Way best = first(on);
        int[] holds = Arrays.copyOf(best.holds, best.holds.length + 2);
        holds[best.holds.length] = left;
        holds[best.holds.length + 1] = right;
        return new Way(best.worth, holds, left, right);
    }

    private static Way first(List<Way> ways) {
        Way best = ways.get(0);
        for (Way w : ways) {
            boolean isEqual = w.worth == best.worth;
            if (w.worth < best.worth || isEqual && Arrays.compare(w.holds, best.holds) < 0) {
                best = w;
            }
        }
        return best;
    }

    // ---- dolls, hooks, beats

    private boolean isDoll(int d) {
        return in(d, 0, s.dolls.size() - 1);
    }

    private boolean isBeat(int k) {
        return in(k, 0, s.beats.size() - 1);
    }

    private boolean isCast(int set) {
        return in(set, 0, (1 << s.dolls.size()) - 1);
    }

    private int doll(int kind) {
        refuse(!in(kind, 0, 6), Check.BEYOND);
        refuse(s.dolls.size() == 8, Check.FULL);
        s.hooks.add(s.dolls.size());
        s.dolls.add(new int[] {kind, 3});
        return s.dolls.size() - 1;
    }

    private int of(int doll, int what) {
        refuse(!isDoll(doll) || !in(what, 0, 5), Check.BEYOND);
        int kind = s.dolls.get(doll)[0];
        int size = s.dolls.get(doll)[1];
        int[] all = {kind, size, wants(kind), on(kind, size), voice(kind), s.hooks.indexOf(doll)};
        return all[what];
    }

    private int change(int doll, int what, int v) {
        refuse(!isDoll(doll) || !in(what, 0, 1), Check.BEYOND);
        refuse(what == 0 ? !in(v, 0, 6) : !in(v, 1, 9), Check.BEYOND);
        int was = s.dolls.get(doll)[what];
        s.dolls.get(doll)[what] = v;
        return was;
    }

    private int hooks(int a, int b) {
        refuse(!isDoll(a) || !isDoll(b) || a == b, Check.BEYOND);
        changePlaces(s, a, b);
        return s.hooks.indexOf(a);
    }

    private static void changePlaces(State s, int a, int b) {
        int placeOfA = s.hooks.indexOf(a);
        int placeOfB = s.hooks.indexOf(b);
        s.hooks.set(placeOfA, b);
        s.hooks.set(placeOfB, a);
    }

    private int leaves(int v) {
        refuse(!in(v, 0, 10), Check.BEYOND);
        int was = s.leaves;
        s.leaves = v;
        return was;
    }

    private int beat(int cast, int speaks) {
        refuse(!isCast(cast) || speaks != -1 && !isDoll(speaks), Check.BEYOND);
        refuse(s.beats.size() == 12, Check.FULL);
        s.beats.add(new int[] {cast, speaks});
        return s.beats.size() - 1;
    }

    private int told(int beat, int what) {
        refuse(!isBeat(beat) || !in(what, 0, 2), Check.BEYOND);
        int[] b = s.beats.get(beat);
        return what < 2 ? b[what] : isWrong(s, b) ? 1 : 0;
    }

    private int tell(int beat, int what, int v) {
        refuse(!isBeat(beat) || !in(what, 0, 1), Check.BEYOND);
        refuse(what == 0 ? !isCast(v) : v != -1 && !isDoll(v), Check.BEYOND);
        int was = s.beats.get(beat)[what];
        s.beats.get(beat)[what] = v;
        return was;
    }

    private int cut(int beat) {
        refuse(!isBeat(beat), Check.BEYOND);
        s.beats.remove(beat);
        return s.beats.size();
    }

    private int whistle() {
        List<Integer> voices = new ArrayList<>();
        for (int[] b : s.beats) {
            if (b[1] != -1) {
                voices.add(voice(s.dolls.get(b[1])[0]));
            }
        }
        int sum = 0;
        for (int i = 1; i < voices.size(); i++) {
            sum += Math.abs(voices.get(i) - voices.get(i - 1));
        }
        return sum;
    }

    // ---- hands

    private int puts(int hand, int doll) {
        refuse(!in(hand, 0, 1) || doll != -1 && !isDoll(doll), Check.BEYOND);
        refuse(doll != -1 && s.hands[1 - hand] == doll, Check.STATE);
        return changeHand(hand, doll);
    }

    private int changeHand(int hand, int doll) {
        int takes = cost(s, s.hands[hand], doll, 1);
        s.changes += cost(s, s.hands[hand], doll, 0);
        s.time += takes;
        s.hands[hand] = doll;
        return takes;
    }

    private int hand(int hand) {
        refuse(!in(hand, 0, 1), Check.BEYOND);
        return s.hands[hand];
    }

    private int suits(int beat) {
        refuse(!isBeat(beat), Check.BEYOND);
        return isSuited(s, s.beats.get(beat)[0], s.hands[0], s.hands[1]) ? 1 : 0;
    }

    private int now(int what) {
        refuse(!in(what, 0, 4), Check.BEYOND);
        return new int[] {s.changes, s.time, s.played, s.lost, s.leaves}[what];
    }

    // ---- ways

    private int least(int what) {
        refuse(!in(what, 0, 1), Check.BEYOND);
        refuse(!goes(s), Check.STATE);
        return best(s, s.beats, what).worth;
    }

    private int held(int beat, int hand, int what) {
        refuse(!isBeat(beat) || !in(hand, 0, 1) || !in(what, 0, 1), Check.BEYOND);
        refuse(!goes(s), Check.STATE);
        return best(s, s.beats, what).holds[2 * beat + hand];
    }

    private int part(int a, int b, int what) {
        refuse(!isBeat(a) || !isBeat(b) || a > b || !in(what, 0, 1), Check.BEYOND);
        List<int[]> some = s.beats.subList(a, b + 1);
        refuse(some.stream().anyMatch(one -> isWrong(s, one)), Check.STATE);
        return best(s, some, what).worth;
    }

    private int dear() {
        refuse(s.beats.isEmpty(), Check.NONE);
        refuse(!goes(s), Check.STATE);
        int[] worths = new int[s.beats.size()];
        for (int k = 0; k < worths.length; k++) {
            List<int[]> rest = new ArrayList<>(s.beats);
            rest.remove(k);
            worths[k] = best(s, rest, 0).worth;
        }
        return firstLeast(worths);
    }

    private static int firstLeast(int[] worths) {
        int least = Arrays.stream(worths).min().getAsInt();
        int at = 0;
        while (worths[at] != least) {
            at++;
        }
        return at;
    }

    private int[] rehang() {
        refuse(!goes(s), Check.STATE);
        int[] told = {0, best(s, s.beats, 1).worth};
        for (int a = 0; a < s.dolls.size(); a++) {
            for (int b = a + 1; b < s.dolls.size(); b++) {
                State t = s.twin();
                changePlaces(t, a, b);
                int worth = best(t, t.beats, 1).worth;
                if (worth < told[1]) {
                    told = new int[] {10 * a + b, worth};
                }
            }
        }
        return told;
    }

    private int kindFor(int doll) {
        refuse(!isDoll(doll), Check.BEYOND);
        int[] worths = new int[7];
        for (int kind = 0; kind < 7; kind++) {
            State t = s.twin();
            t.dolls.get(doll)[0] = kind;
            t.beats.removeIf(b -> isWrong(t, b));
            worths[kind] = best(t, t.beats, 0).worth - 1000 * t.beats.size();
        }
        return firstLeast(worths);
    }

    private int mayor(int doll) {
        refuse(!isDoll(doll), Check.BEYOND);
        int[] worths = new int[s.dolls.size()];
        for (int other = 0; other < worths.length; other++) {
            worths[other] = worthWith(doll, other);
        }
        int at = firstLeast(worths);
        refuse(worths[at] == Integer.MAX_VALUE, Check.NONE);
        return at;
    }

    /** What the play is worth if a doll comes in the place of another; the most, if it can't. */
    private int worthWith(int doll, int other) {
        State t = s.twin();
        for (int[] b : t.beats) {
            List<Integer> cast = members(b[0]);
            if (cast.contains(doll) && cast.contains(other)) {
                return Integer.MAX_VALUE;
            }
            if (cast.contains(other)) {
                b[0] += (1 << doll) - (1 << other);
            }
            if (b[1] == other) {
                b[1] = doll;
            }
        }
        return doll == other || !goes(t) ? Integer.MAX_VALUE : best(t, t.beats, 0).worth;
    }

    /** How few may be left out: for each number of them and each hold what it is worth at least. */
    private int leave(int v) {
        refuse(!in(v, 0, 99), Check.BEYOND);
        int far = 100000;
        int holds = s.dolls.size() + 1;
        int[][] worths = new int[s.beats.size() + 1][holds * holds];
        for (int[] row : worths) {
            Arrays.fill(row, far);
        }
        worths[0][(s.hands[0] + 1) * holds + s.hands[1] + 1] = 0;
        for (int[] beat : s.beats) {
            int[][] next = new int[worths.length][];
            for (int out = 0; out < next.length; out++) {
                next[out] = out == 0 ? new int[holds * holds] : worths[out - 1].clone();
                if (out == 0) {
                    Arrays.fill(next[0], far);
                }
                if (!isWrong(s, beat)) {
                    goOn(worths[out], next[out], beat[0], holds);
                }
            }
            worths = next;
        }
        int out = 0;
        while (Arrays.stream(worths[out]).min().getAsInt() > v) {
            out++;
        }
        return out;
    }

    private void goOn(int[] from, int[] to, int cast, int holds) {
        for (int h = 0; h < to.length; h++) {
            int left = h / holds - 1;
            int right = h % holds - 1;
            if (!isSuited(s, cast, left, right)) {
                continue;
            }
            for (int g = 0; g < from.length; g++) {
                int moves = cost(s, g / holds - 1, left, 0) + cost(s, g % holds - 1, right, 0);
                to[h] = Math.min(to[h], from[g] + moves);
            }
        }
    }

    // ---- drawings

    private List<Integer> page(int sheet) {
        refuse(!in(sheet, 0, 3), Check.BEYOND);
        refuse(sheets.get(sheet) == null, Check.MISSING);
        return sheets.get(sheet);
    }

    /** The holds for a beat by a drawing. */
    private List<int[]> drawn(List<Integer> page, int beat) {
        int left = beat < page.size() ? page.get(beat) : -2;
        boolean isAny = left != -1 && !isDoll(left);
        List<int[]> all = new ArrayList<>();
        for (int l = -1; l < s.dolls.size(); l++) {
            for (int r = -1; r < s.dolls.size(); r++) {
                if ((isAny || l == left) && isSuited(s, s.beats.get(beat)[0], l, r)) {
                    all.add(new int[] {l, r});
                }
            }
        }
        return all;
    }

    private BigInteger rows(List<Integer> page) {
        BigInteger rows = BigInteger.ONE;
        for (int k = 0; k < s.beats.size(); k++) {
            rows = rows.multiply(BigInteger.valueOf(drawn(page, k).size()));
        }
        return rows;
    }

    private int fits(int sheet) {
        BigInteger rows = rows(page(sheet));
        refuse(rows.compareTo(BigInteger.TEN.pow(9)) > 0, Check.SIZE);
        return rows.intValueExact();
    }

    private int maybe(int sheet, int beat) {
        List<Integer> page = page(sheet);
        refuse(!isBeat(beat), Check.BEYOND);
        int set = 0;
        for (int[] hold : drawn(page, beat)) {
            set |= hold[1] == -1 ? 0 : 1 << hold[1];
        }
        return rows(page).signum() == 0 ? 0 : set;
    }

    // ---- evenings

    private long stays(int what) {
        refuse(!in(what, 0, 1), Check.BEYOND);
        BigInteger above = BigInteger.ONE;
        BigInteger below = BigInteger.ONE;
        for (int[] b : s.beats) {
            for (int i = 0; i < dogsIn(s, b).size(); i++) {
                above = above.multiply(BigInteger.valueOf(10 - s.leaves));
                below = below.multiply(BigInteger.TEN);
            }
        }
        BigInteger both = above.gcd(below);
        refuse(below.divide(both).compareTo(BigInteger.TEN.pow(15)) > 0, Check.SIZE);
        return (what == 0 ? above : below).divide(both).longValueExact();
    }

    private int plays() {
        refuse(s.beats.isEmpty() || !goes(s), Check.STATE);
        int[] holds = best(s, s.beats, 0).holds;
        for (int i = 0; i < holds.length; i++) {
            changeHand(i % 2, holds[i]);
        }
        int lost = evening(s);
        s.played += s.beats.size();
        s.lost += lost;
        return lost;
    }

    private static int evening(State s) {
        int lost = 0;
        for (int[] b : s.beats) {
            int gone = 0;
            for (int i = 0; i < dogsIn(s, b).size(); i++) {
                s.z = (int) (s.z * 1103515245L + 12345);
                long draw = (s.z & 0xffffffffL) >> 8;
                gone += draw % 10 < s.leaves ? 1 : 0;
            }
            lost += gone == 0 ? 0 : 1;
        }
        return lost;
    }

    private int ahead(int n) {
        refuse(!in(n, 0, 20), Check.BEYOND);
        refuse(s.beats.isEmpty() || !goes(s), Check.STATE);
        State now = s.twin();
        int lost = 0;
        for (int i = 0; i < n; i++) {
            lost += plays();
        }
        s = now;
        return lost;
    }

    private int seed(int v) {
        int was = s.z;
        s.z = v;
        return was;
    }

    // ---- texts

    private int feed(int bytes, int n) {
        refuse(!in(n, 1, 4), Check.BEYOND);
        refuse(tape.length() + n > 120, Check.FULL);
        int[] all = {bytes >> 24 & 255, bytes >> 16 & 255, bytes >> 8 & 255, bytes & 255};
        for (int i = 4 - n; i < 4; i++) {
            tape.append((char) all[i]);
        }
        return tape.length();
    }

    private int wipe() {
        int had = tape.length();
        tape.setLength(0);
        return had;
    }

    private int text() {
        String text = tape.toString();
        tape.setLength(0);
        State before = s.twin();
        try {
            return new Reader(text).items();
        } catch (Fault fault) {
            s = before;
            return -1 - fault.place;
        }
    }

    /** Reads a text, token by token. */
    private final class Reader {
        private final String text;
        private int place;
        private String token;

        Reader(String text) {
            this.text = text;
            next(0);
        }

        private void next(int from) {
            place = from;
            while (place < text.length() && text.charAt(place) == ' ') {
                place++;
            }
            Matcher m = TOKEN.matcher(text).region(place, text.length());
            token = m.lookingAt() ? m.group() : place == text.length() ? "" : "?";
        }

        private void take() {
            next(place + token.length());
        }

        private boolean takes(String word) {
            boolean isThere = token.equals(word);
            if (isThere) {
                take();
            }
            return isThere;
        }

        private int number(int lowest, int highest) {
            boolean isNumber = token.matches("[0-9]+");
            BigInteger worth = isNumber ? new BigInteger(token) : BigInteger.TEN.pow(3);
            BigInteger number = worth.min(BigInteger.TEN.pow(3));
            if (!in(number.intValue(), lowest, highest)) {
                throw new Fault(place);
            }
            take();
            return number.intValue();
        }

        int items() {
            int items = 0;
            do {
                item();
                items++;
            } while (takes(";"));
            if (!token.isEmpty()) {
                throw new Fault(place);
            }
            return items;
        }

        private void item() {
            int kind = Arrays.asList(WORDS).indexOf(token);
            if (kind >= 0 && s.dolls.size() < 8) {
                take();
                s.hooks.add(s.dolls.size());
                int[] doll = {kind, 3};
                s.dolls.add(doll);
                doll[1] = takes("size") ? number(1, 9) : 3;
            } else if (token.equals("beat") && s.beats.size() < 12) {
                take();
                int[] beat = {number(0, (1 << s.dolls.size()) - 1), -1};
                s.beats.add(beat);
                beat[1] = takes("speaks") ? number(0, s.dolls.size() - 1) : -1;
            } else if (takes("leaves")) {
                s.leaves = number(0, 10);
            } else if (takes("hook")) {
                int first = number(0, s.dolls.size() - 1);
                changePlaces(s, first, number(0, s.dolls.size() - 1));
            } else {
                throw new Fault(place);
            }
        }
    }

    // ---- spots, sheets

    private int hold(int spot, int doll) {
        refuse(!in(spot, 0, 9) || doll != -1 && !isDoll(doll), Check.BEYOND);
        s.spots[spot] = doll;
        return 1;
    }

    private int as(int spot, int kind) {
        refuse(!in(spot, 0, 9) || !in(kind, 0, 6), Check.BEYOND);
        refuse(s.spots[spot] == -1, Check.MISSING);
        refuse(!isUnder(s.dolls.get(s.spots[spot])[0], kind), Check.KIND);
        return s.spots[spot];
    }

    private int sheet(int sheet, int ofBits, int n) {
        refuse(!in(sheet, 0, 3) || !List.of(0, 8, 16, 32).contains(ofBits), Check.BEYOND);
        refuse(n < 0, Check.SIZE);
        refuse(n > 40, Check.BEYOND);
        bits[sheet] = ofBits;
        List<Integer> page = new ArrayList<>();
        for (int i = 0; i < n; i++) {
            page.add(0);
        }
        sheets.set(sheet, ofBits == 0 ? null : page);
        return ofBits == 0 ? 0 : n;
    }

    private int write(int sheet, int i, int v) {
        List<Integer> page = page(sheet);
        refuse(!in(i, 0, page.size() - 1), Check.BEYOND);
        int unused = 32 - bits[sheet];
        page.set(i, v << unused >> unused);
        return 1;
    }

    private int copy(int from, int at, int to, int there, int n) {
        refuse(!in(from, 0, 3) || !in(to, 0, 3), Check.BEYOND);
        refuse(sheets.get(from) == null || sheets.get(to) == null, Check.MISSING);
        refuse(bits[from] != bits[to], Check.KIND);
        refuse(at < 0 || there < 0 || n < 0, Check.BEYOND);
        refuse((long) at + n > sheets.get(from).size(), Check.BEYOND);
        refuse((long) there + n > sheets.get(to).size(), Check.BEYOND);
        List<Integer> some = List.copyOf(sheets.get(from).subList(at, at + n));
        for (int i = 0; i < n; i++) {
            sheets.get(to).set(there + i, some.get(i));
        }
        return n;
    }

    private int load(int sheet) {
        int came = 0;
        for (int v : page(sheet)) {
            if (!in(v, 1, 9) || came == s.dolls.size()) {
                break;
            }
            s.dolls.get(came)[1] = v;
            came++;
        }
        return came;
    }

    private int judge(int sheet) {
        List<Integer> page = page(sheet);
        for (int i = 0; i < page.size(); i += 2) {
            boolean isWhole = i + 1 < page.size() && isBeat(i / 2);
            if (!isWhole || !isSuited(s, s.beats.get(i / 2)[0], page.get(i), page.get(i + 1))) {
                return 1 + i;
            }
        }
        return 0;
    }

    // ---- images

    private int image() {
        kept = s.twin();
        return 1;
    }

    private int undo() {
        refuse(kept == null, Check.NONE);
        s = kept.twin();
        return s.beats.size();
    }

    private int tear() {
        int was = kept == null ? 0 : 1;
        kept = null;
        return was;
    }

    private int count(int what) {
        refuse(!in(what, 0, 7), Check.BEYOND);
        int sizes = s.dolls.stream().mapToInt(d -> d[1]).sum();
        int inSpots = (int) Arrays.stream(s.spots).filter(d -> d != -1).count();
        int[] all = {
            s.beats.size(), s.dolls.size(), s.changes, s.played, sizes, tape.length(), s.z, inSpots,
        };
        return all[what];
    }

    private int status(int which) {
        refuse(!in(which, -1, 6), Check.BEYOND);
        return which == -1 ? Arrays.stream(found).sum() : found[which];
    }
}
