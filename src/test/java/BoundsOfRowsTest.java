/** Each boundary that promises 33 to 47 name, on an object of its own. */
public final class BoundsOfRowsTest {
    private static final int LOWEST = Integer.MIN_VALUE;
    private static final int HIGHEST = Integer.MAX_VALUE;
    private static final String EIGHT = "doll;doll;doll;doll;doll;doll;doll;doll";
    private static final String ELEVEN =
            "beat 0;beat 0;beat 0;beat 0;beat 0;beat 0;beat 0;beat 0;beat 0;beat 0;beat 0";

    private final Check c = new Check("BoundsOfRowsTest");

    public static void main(String[] args) {
        BoundsOfRowsTest test = new BoundsOfRowsTest();
        test.promise33Feed();
        test.promise34Wipe();
        test.promise35Ends();
        test.promise35Tokens();
        test.promise35Numbers();
        test.promise35Full();
        test.promise35Nothing();
        test.promise36Hold();
        test.promise37As();
        test.promise38Sheet();
        test.promise39Write();
        test.promise40Copy();
        test.promise41Load();
        test.promise42Judge();
        test.promise43Image();
        test.promise44Undo();
        test.promise45Tear();
        test.promise46Count();
        test.promise47Status();
        test.c.end();
    }

    private static PunchByHeart withTape(int bytes) {
        PunchByHeart x = new PunchByHeart();
        for (int i = 0; i < bytes; i++) {
            x.feed(' ', 1);
        }
        return x;
    }

    private void promise33Feed() {
        c.refused("33 n 0", withTape(0), Check.BEYOND, x -> x.feed(0, 0));
        c.refused("33 n 5", withTape(0), Check.BEYOND, x -> x.feed(0, 5));
        c.refused("33 n -1", withTape(0), Check.BEYOND, x -> x.feed(0, -1));
        c.refused("33 n lowest", withTape(0), Check.BEYOND, x -> x.feed(0, LOWEST));
        c.refused("33 n highest", withTape(0), Check.BEYOND, x -> x.feed(0, HIGHEST));
        c.refused("33 a 121st byte: full", withTape(120), Check.FULL, x -> x.feed(0, 1));
        c.refused("33 two, room for one: full", withTape(119), Check.FULL, x -> x.feed(0, 2));
        c.refused("33 four, room for three: full", withTape(117), Check.FULL, x -> x.feed(0, 4));
        c.refused("33 n is asked ahead of full", withTape(120), Check.BEYOND, x -> x.feed(0, 5));
        c.is("33 the 120th byte", withTape(119).feed(0, 1), 120);
        c.is("33 up to the 120th byte", withTape(116).feed(0, 4), 120);
        c.is("33 n 1", withTape(0).feed(0, 1), 1);
        c.is("33 n 4", withTape(0).feed(0, 4), 4);
        PunchByHeart x = withTape(0);
        x.feed('x' << 24 | 'd' << 16 | 'o' << 8 | 'g', 3);
        c.is("33 the lowest bytes, the highest of these first", x.text(), 1);
        PunchByHeart y = withTape(0);
        y.feed(0x80000000, 4);
        c.is("33 a byte of 128 to 255 is none of a word", y.text(), -1);
    }

    private void promise34Wipe() {
        c.is("34 an empty tape", withTape(0).wipe(), 0);
        c.is("34 a full tape", withTape(120).wipe(), 120);
        PunchByHeart x = withTape(120);
        x.wipe();
        c.is("34 empty then", x.count(5), 0);
        c.is("34 it may be fed again", x.feed(0, 4), 4);
    }

    /** A text in a booth that was told by another text, or by none. */
    private void fault(String before, String text, int place) {
        PunchByHeart x = new PunchByHeart();
        if (!before.isEmpty()) {
            Check.read(x, before);
        }
        String seen = Check.seen(x);
        c.is("35 '" + text + "' behind '" + before + "'", Check.read(x, text), -1 - place);
        c.is("35 its fault is no finding", x.status(-1), 0);
        c.isSo("35 nothing changes, the tape is empty", Check.seen(x).equals(seen));
    }

    private void good(String before, String text, int items) {
        PunchByHeart x = new PunchByHeart();
        if (!before.isEmpty()) {
            Check.read(x, before);
        }
        c.is("35 '" + text + "' behind '" + before + "'", Check.read(x, text), items);
        c.is("35 the tape is empty then", x.count(5), 0);
    }

    private void promise35Ends() {
        fault("", "", 0);
        fault("", " ", 1);
        fault("", ";", 0);
        fault("", " ;", 1);
        fault("", "doll;", 5);
        fault("", "doll; ", 6);
        fault("", "doll size", 9);
        fault("", "doll size  ", 11);
        fault("", "beat", 4);
        fault("doll", "beat 1 speaks", 13);
        fault("", "leaves", 6);
        fault("doll", "hook", 4);
        fault("doll", "hook 0", 6);
        fault("", "doll doll", 5);
        fault("", "doll 3", 5);
        fault("", "beat 0 0", 7);
        fault("", "leaves 3 3", 9);
        fault("doll", "hook 0 0 0", 9);
        fault("", "doll size 3 size 3", 12);
        fault("doll", "beat 1 speaks 0 speaks 0", 16);
        fault("", "beat 0 size 3", 7);
        fault("", "doll speaks 0", 5);
        fault("", "doll;;", 5);
        good("", " doll ", 1);
        good("", "doll ; doll", 2);
        good("", "doll;doll", 2);
    }

    private void promise35Tokens() {
        fault("", "judy", 0);
        fault("", "dolls", 0);
        fault("", "dol l", 0);
        fault("", "DOLL", 0);
        fault("", "doll Size 3", 5);
        fault("", "doll,doll", 4);
        fault("", "doll\tsize 3", 4);
        fault("", "doll\n", 4);
        fault("", "doll\u00ff", 4);
        fault("", "doll\u0000", 4);
        fault("", "doll-", 4);
        fault("", "`doll", 0);
        fault("", "{doll", 0);
        fault("", "doll size /", 10);
        fault("", "doll size :", 10);
        fault("", "doll size -3", 10);
        fault("", "size 3", 0);
        fault("", "speaks 0", 0);
        fault("", "3", 0);
        fault("", "dollsize3", 0);
        good("", "doll size3;doll  size  3", 2);
        good("doll", "beat1speaks0;leaves3;hook0 0", 3);
        for (String word : new String[] {"doll", "punch", "ghost", "jawed", "crocodile", "dog", "beadle"}) {
            good("", word, 1);
            fault("", word.substring(1), 0);
            fault("", word.substring(0, word.length() - 1), 0);
        }
    }

    private void promise35Numbers() {
        fault("", "doll size 0", 10);
        fault("", "doll size 10", 10);
        fault("", "doll size 1000", 10);
        fault("", "doll size 4294967299", 10);
        fault("", "doll size 99999999999999999999999999", 10);
        fault("", "doll size doll", 10);
        good("", "doll size 1", 1);
        good("", "doll size 9", 1);
        good("", "doll size 0000000000000003", 1);
        fault("", "beat 1", 5);
        fault("doll", "beat 2", 5);
        fault("doll", "beat 2;doll", 5);
        fault(EIGHT, "beat 256", 5);
        fault(EIGHT, "beat 999", 5);
        fault(EIGHT, "beat 1000", 5);
        fault("", "beat doll", 5);
        good(EIGHT, "beat 255", 1);
        good("", "beat 0", 1);
        good("", "doll;beat 1 speaks 0", 2);
        fault("", "beat 0 speaks 0", 14);
        fault("doll", "beat 1 speaks 1", 14);
        fault("doll", "beat 1 speaks;", 13);
        good(EIGHT, "beat 0 speaks 7", 1);
        fault(EIGHT, "beat 0 speaks 8", 14);
        fault("", "leaves 11", 7);
        fault("", "leaves 100", 7);
        fault("", "leaves dog", 7);
        good("", "leaves 0", 1);
        good("", "leaves 10", 1);
        fault("", "hook 0 0", 5);
        fault("doll", "hook 1 0", 5);
        fault("doll", "hook 0 1", 7);
        fault("doll", "hook 0;0", 6);
        fault("doll", "hook 0 1;doll", 7);
        good("doll", "doll;hook 0 1", 2);
    }

    private void promise35Full() {
        good("", EIGHT, 8);
        fault("", EIGHT + ";doll", 40);
        fault("", EIGHT + "; dog size 10", 41);
        fault("doll", EIGHT, 35);
        good(ELEVEN, "beat 0", 1);
        fault(ELEVEN, "beat 0;beat 0", 7);
        fault(ELEVEN, "beat 0; beat 1", 8);
        fault(ELEVEN, "beat 0;beat", 7);
        good(ELEVEN, "doll;leaves 3;hook 0 0;beat 1", 4);
        String longest = EIGHT + ";beat 255 speaks 7;beat 1 speaks 0;beat 2 speaks 1;"
                + "beat 4 speaks 2;leaves 10";
        String blanks = " ".repeat(120 - longest.length());
        good("", longest + blanks, 13);
        fault("", longest + blanks.substring(1) + ";", 120);
    }

    private void promise35Nothing() {
        PunchByHeart x = Check.withDolls(0, 0);
        x.beat(1, 0);
        Check.feed(x, "doll size 9;beat 7 speaks 2;leaves 9;hook 0 1;doll size 0");
        x.text();
        c.is("35 with a fault no doll comes", x.count(1), 2);
        c.is("35 no beat", x.count(0), 1);
        c.is("35 leaves as they were", x.now(4), 0);
        c.is("35 hooks as they were", x.of(0, 5), 0);
        c.is("35 the tape is empty all the same", x.count(5), 0);
        c.is("35 a second one is read of an empty tape", x.text(), -1);
        PunchByHeart y = new PunchByHeart();
        c.is("35 without speaks: nobody", Check.read(y, "doll;beat 1"), 2);
        c.is("35 nobody", y.told(0, 1), -1);
        c.is("35 without size: 3", y.of(0, 1), 3);
        PunchByHeart z = new PunchByHeart();
        Check.read(z, "doll;doll;doll;beat 7 speaks 0;hook 0 2;leaves 10;punch size 1");
        c.is("35 a beat that can't be is told", z.wrong(), 1);
        c.is("35 hooks change", z.of(0, 5), 2);
        c.is("35 of both", z.of(2, 5), 0);
        c.is("35 a new doll is on the last hook", z.of(3, 5), 3);
        c.is("35 its size", z.of(3, 1), 1);
        c.is("35 leaves", z.now(4), 10);
    }

    private void promise36Hold() {
        c.refused("36 spot -1", Check.withDolls(0), Check.BEYOND, x -> x.hold(-1, 0));
        c.refused("36 spot 10", Check.withDolls(0), Check.BEYOND, x -> x.hold(10, 0));
        c.refused("36 doll -2", Check.withDolls(0), Check.BEYOND, x -> x.hold(0, -2));
        c.refused("36 doll 1", Check.withDolls(0), Check.BEYOND, x -> x.hold(0, 1));
        c.refused("36 of none", new PunchByHeart(), Check.BEYOND, x -> x.hold(0, 0));
        c.is("36 spot 0", Check.withDolls(0).hold(0, 0), 1);
        c.is("36 spot 9", Check.withDolls(0).hold(9, 0), 1);
        c.is("36 nothing", new PunchByHeart().hold(9, -1), 1);
        PunchByHeart x = Check.withDolls(0);
        for (int spot = 0; spot < 10; spot++) {
            x.hold(spot, 0);
        }
        c.is("36 all ten hold one and the same", x.count(7), 10);
    }

    private static PunchByHeart spotted(int kind) {
        PunchByHeart x = Check.withDolls(0, kind);
        x.hold(9, 1);
        return x;
    }

    private void promise37As() {
        c.refused("37 spot -1", spotted(0), Check.BEYOND, x -> x.as(-1, 0));
        c.refused("37 spot 10", spotted(0), Check.BEYOND, x -> x.as(10, 0));
        c.refused("37 kind -1", spotted(0), Check.BEYOND, x -> x.as(9, -1));
        c.refused("37 kind 7", spotted(0), Check.BEYOND, x -> x.as(9, 7));
        c.refused("37 kind is asked ahead of missing", spotted(0), Check.BEYOND, x -> x.as(8, 7));
        c.refused("37 it holds nothing", spotted(0), Check.MISSING, x -> x.as(8, 0));
        PunchByHeart y = spotted(0);
        y.hold(9, -1);
        c.refused("37 it holds nothing then", y, Check.MISSING, x -> x.as(9, 0));
        int[] tops = {1, 3, 7, 9, 25, 33, 71};
        for (int kind = 0; kind < 7; kind++) {
            for (int i = 0; i < 7; i++) {
                int top = i;
                if ((tops[kind] >> top & 1) != 0) {
                    c.is("37 kind " + kind + " as " + top, spotted(kind).as(9, top), 1);
                } else {
                    c.refused("37 " + kind + " as " + top, spotted(kind), Check.KIND, x -> x.as(9, top));
                }
            }
        }
    }

    private static PunchByHeart sheets() {
        PunchByHeart x = Check.withDolls(0, 0, 0, 0, 0, 0, 0, 0);
        Check.row(x, 0, 8, 1, 2, 3, 4);
        Check.row(x, 1, 8, 5, 6, 7);
        Check.row(x, 2, 16, 8, 9);
        return x;
    }

    private void sizes(String what, PunchByHeart x, int s, int... sizes) {
        c.is(what + ": how many", x.load(s), sizes.length);
        for (int d = 0; d < sizes.length; d++) {
            c.is(what + ": number " + d, x.of(d, 1), sizes[d]);
        }
    }

    private void promise38Sheet() {
        c.refused("38 sheet -1", sheets(), Check.BEYOND, x -> x.sheet(-1, 8, 1));
        c.refused("38 sheet 4", sheets(), Check.BEYOND, x -> x.sheet(4, 8, 1));
        for (int i : new int[] {-8, -1, 1, 7, 9, 15, 17, 24, 31, 33, 64, LOWEST}) {
            c.refused("38 bits " + i, sheets(), Check.BEYOND, x -> x.sheet(0, i, 1));
        }
        c.refused("38 bits ahead of n", sheets(), Check.BEYOND, x -> x.sheet(0, 9, -1));
        c.refused("38 the sheet ahead of n", sheets(), Check.BEYOND, x -> x.sheet(4, 8, -1));
        for (int bits : new int[] {0, 8, 16, 32}) {
            c.refused("38 n -1, " + bits, sheets(), Check.SIZE, x -> x.sheet(0, bits, -1));
            c.refused("38 n lowest, " + bits, sheets(), Check.SIZE, x -> x.sheet(0, bits, LOWEST));
            c.refused("38 n 41, " + bits, sheets(), Check.BEYOND, x -> x.sheet(0, bits, 41));
            c.refused("38 n highest, " + bits, sheets(), Check.BEYOND, x -> x.sheet(0, bits, HIGHEST));
            c.is("38 n 40, " + bits, sheets().sheet(3, bits, 40), bits == 0 ? 0 : 40);
            c.is("38 n 0, " + bits, sheets().sheet(0, bits, 0), 0);
        }
        PunchByHeart y = sheets();
        y.sheet(0, 0, 4);
        c.refused("38 bits 0: missing", y, Check.MISSING, x -> x.load(0));
        PunchByHeart z = sheets();
        z.sheet(0, 8, 0);
        c.is("38 no numbers isn't missing", z.load(0), 0);
        PunchByHeart v = sheets();
        v.sheet(0, 8, -1);
        v.sheet(0, 0, 41);
        v.sheet(0, 9, 4);
        sizes("38 what is refused changes nothing", v, 0, 1, 2, 3, 4);
        PunchByHeart w = sheets();
        w.sheet(0, 8, 4);
        w.write(0, 0, 9);
        sizes("38 all 0 anew", w, 0, 9);
    }

    private void promise39Write() {
        c.refused("39 sheet -1", sheets(), Check.BEYOND, x -> x.write(-1, 0, 0));
        c.refused("39 sheet 4", sheets(), Check.BEYOND, x -> x.write(4, 0, 0));
        c.refused("39 missing", sheets(), Check.MISSING, x -> x.write(3, 0, 0));
        c.refused("39 missing is asked ahead", sheets(), Check.MISSING, x -> x.write(3, -1, 0));
        c.refused("39 number -1", sheets(), Check.BEYOND, x -> x.write(0, -1, 0));
        c.refused("39 number 4 of four", sheets(), Check.BEYOND, x -> x.write(0, 4, 0));
        c.refused("39 number highest", sheets(), Check.BEYOND, x -> x.write(0, HIGHEST, 0));
        c.is("39 the last", sheets().write(0, 3, 0), 1);
        PunchByHeart y = sheets();
        y.write(0, 4, 9);
        y.write(0, -1, 9);
        sizes("39 what is refused changes nothing", y, 0, 1, 2, 3, 4);
        lowestBits(8, 0x1207, 7, 255, -1);
        lowestBits(16, 0x120007, 7, 65535, -1);
        lowestBits(32, 7, 7, -1, -1);
        lowestBits(8, 0x12ff + 1 + 9, 9, 128, -128);
        lowestBits(16, 0x10009, 9, 32768, -32768);
        lowestBits(32, 9, 9, LOWEST, LOWEST);
        lowestBits(8, 1, 1, 127, 127);
        lowestBits(16, 1, 1, 32767, 32767);
    }

    /** A size as its lowest bits tell it, and a number with its sign, as copied, drawn or judged. */
    private void lowestBits(int bits, int v, int size, int signed, int told) {
        PunchByHeart x = Check.withDolls(0);
        x.beat(0, -1);
        Check.row(x, 0, bits, v);
        sizes("39 " + v + " of " + bits + " bits", x, 0, size);
        Check.row(x, 0, bits, signed, told == -1 ? 0 : -1);
        c.is("39 " + signed + " of " + bits + " bits is " + told, x.judge(0), told == -1 ? 0 : 1);
        c.is("39 as drawn", x.fits(0), told == -1 ? 2 : 3);
        c.is("39 no size", x.load(0), 0);
    }

    private void promise40Copy() {
        c.refused("40 from sheet -1", sheets(), Check.BEYOND, x -> x.copy(-1, 0, 0, 0, 1));
        c.refused("40 from sheet 4", sheets(), Check.BEYOND, x -> x.copy(4, 0, 0, 0, 1));
        c.refused("40 to sheet -1", sheets(), Check.BEYOND, x -> x.copy(0, 0, -1, 0, 1));
        c.refused("40 to sheet 4", sheets(), Check.BEYOND, x -> x.copy(0, 0, 4, 0, 1));
        c.refused("40 a sheet ahead of missing", sheets(), Check.BEYOND, x -> x.copy(3, 0, 4, 0, 1));
        c.refused("40 from is missing", sheets(), Check.MISSING, x -> x.copy(3, 0, 0, 0, 1));
        c.refused("40 to is missing", sheets(), Check.MISSING, x -> x.copy(0, 0, 3, 0, 1));
        c.refused("40 missing ahead of places", sheets(), Check.MISSING, x -> x.copy(0, -1, 3, 0, 1));
        c.refused("40 other bits", sheets(), Check.KIND, x -> x.copy(0, 0, 2, 0, 1));
        c.refused("40 other bits, none", sheets(), Check.KIND, x -> x.copy(2, 0, 0, 0, 0));
        c.refused("40 bits ahead of places", sheets(), Check.KIND, x -> x.copy(0, -1, 2, 0, 1));
        c.refused("40 from -1", sheets(), Check.BEYOND, x -> x.copy(0, -1, 1, 0, 1));
        c.refused("40 to -1", sheets(), Check.BEYOND, x -> x.copy(0, 0, 1, -1, 1));
        c.refused("40 n -1", sheets(), Check.BEYOND, x -> x.copy(0, 1, 1, 1, -1));
        c.refused("40 one too far from", sheets(), Check.BEYOND, x -> x.copy(0, 2, 1, 0, 3));
        c.refused("40 one too far to", sheets(), Check.BEYOND, x -> x.copy(0, 0, 1, 1, 3));
        c.refused("40 more than one has", sheets(), Check.BEYOND, x -> x.copy(0, 0, 1, 0, 4));
        c.refused("40 more than one has, to", sheets(), Check.BEYOND, x -> x.copy(1, 0, 0, 0, 4));
        c.refused("40 wraps around", sheets(), Check.BEYOND, x -> x.copy(0, HIGHEST, 1, 0, 1));
        c.refused("40 n wraps around", sheets(), Check.BEYOND, x -> x.copy(0, 1, 1, 1, HIGHEST));
        c.refused("40 to wraps around", sheets(), Check.BEYOND, x -> x.copy(0, 0, 1, HIGHEST, 1));
        c.is("40 as many as one has", sheets().copy(0, 1, 1, 0, 3), 3);
        c.is("40 none", sheets().copy(0, 0, 1, 0, 0), 0);
        c.is("40 none, at the end", sheets().copy(0, 4, 1, 3, 0), 0);
        PunchByHeart x = sheets();
        x.copy(0, 2, 1, 1, 2);
        sizes("40 to another", x, 1, 5, 3, 4);
        sizes("40 the one remains", x, 0, 1, 2, 3, 4);
        PunchByHeart y = sheets();
        y.copy(0, 0, 0, 1, 3);
        sizes("40 as they all were, up", y, 0, 1, 1, 2, 3);
        PunchByHeart z = sheets();
        z.copy(0, 1, 0, 0, 3);
        sizes("40 as they all were, down", z, 0, 2, 3, 4, 4);
        PunchByHeart v = sheets();
        v.copy(0, 0, 1, 1, 3);
        sizes("40 what is refused changes nothing", v, 1, 5, 6, 7);
    }

    private void promise41Load() {
        c.refused("41 sheet -1", sheets(), Check.BEYOND, x -> x.load(-1));
        c.refused("41 sheet 4", sheets(), Check.BEYOND, x -> x.load(4));
        c.refused("41 missing", sheets(), Check.MISSING, x -> x.load(3));
        for (int v : new int[] {0, 10, -1, 127}) {
            PunchByHeart y = sheets();
            y.write(0, 2, v);
            sizes("41 ends at " + v, y, 0, 1, 2);
            c.is("41 the size there remains, " + v, y.of(2, 1), 3);
            c.is("41 and that behind it, " + v, y.of(3, 1), 3);
        }
        sizes("41 sizes 8 and 9", sheets(), 2, 8, 9);
        PunchByHeart none = new PunchByHeart();
        Check.row(none, 0, 8, 1);
        c.is("41 no dolls", none.load(0), 0);
        PunchByHeart two = Check.withDolls(0, 0);
        Check.row(two, 0, 8, 1, 2, 3);
        sizes("41 ends behind the last doll", two, 0, 1, 2);
        PunchByHeart all = Check.withDolls(0, 0, 0, 0, 0, 0, 0, 0);
        Check.row(all, 0, 32, 1, 2, 3, 4, 5, 6, 7, 8, 9);
        sizes("41 eight of nine", all, 0, 1, 2, 3, 4, 5, 6, 7, 8);
    }

    private void judge(String what, int due, int... numbers) {
        PunchByHeart x = Check.withDolls(Check.PUNCH, Check.JAWED, 0);
        x.beat(1, 0);
        x.beat(3, 1);
        x.beat(0, -1);
        Check.row(x, 3, 8, numbers);
        c.is("42 " + what, x.judge(3), due);
    }

    private void promise42Judge() {
        c.refused("42 sheet -1", sheets(), Check.BEYOND, x -> x.judge(-1));
        c.refused("42 sheet 4", sheets(), Check.BEYOND, x -> x.judge(4));
        c.refused("42 missing", sheets(), Check.MISSING, x -> x.judge(3));
        judge("no numbers", 0);
        judge("each two", 0, -1, 0, 1, 0, -1, -1);
        judge("fewer than beats", 0, 1, 0);
        judge("the first of three is short", 1, 2);
        judge("short, though it might suit", 5, -1, 0, 1, 0, -1);
        judge("no beat for them", 7, -1, 0, 1, 0, 2, 1, -1, -1);
        judge("no beat for one", 7, -1, 0, 1, 0, 2, 1, -1);
        judge("the first that don't suit", 1, 0, -1, 0, 1);
        judge("the second that don't suit", 3, 2, 0, 2, 0);
        judge("the last that don't suit", 5, 2, 0, 1, 0, 1, 1);
        judge("one in both hands is no hold", 5, 2, 0, 1, 0, 2, 2);
        judge("no such doll", 1, 3, 0);
        judge("no such doll in the right hand", 5, 2, 0, 1, 0, -1, 3);
        judge("below nothing", 1, -2, 0);
        judge("far below nothing", 5, 2, 0, 1, 0, -1, -128);
        PunchByHeart x = new PunchByHeart();
        Check.row(x, 0, 8, -1, -1);
        c.is("42 no beats", x.judge(0), 1);
        PunchByHeart y = Check.withDolls(0);
        y.beat(1, -1);
        y.tell(0, 0, 0);
        y.tell(0, 1, 0);
        Check.row(y, 0, 8, -1, -1);
        c.is("42 a hold suits although who speaks isn't on", y.judge(0), 0);
    }

    private void promise43Image() {
        c.is("43 of a new object", new PunchByHeart().image(), 1);
        PunchByHeart x = new PunchByHeart();
        x.image();
        c.is("43 again", x.image(), 1);
        PunchByHeart y = Check.withDolls(0);
        Check.feed(y, "abc");
        Check.row(y, 0, 8, 7);
        y.image();
        y.wipe();
        y.sheet(0, 0, 0);
        y.undo();
        c.is("43 the tape isn't kept", y.count(5), 0);
        c.refused("43 nor are sheets", y, Check.MISSING, z -> z.load(0));
    }

    private void promise44Undo() {
        c.refused("44 nothing is kept", Check.withDolls(0), Check.NONE, x -> x.undo());
        PunchByHeart empty = new PunchByHeart();
        empty.image();
        Check.read(empty, "doll;doll;beat 1;hook 0 1;leaves 3");
        empty.hold(3, 1);
        empty.seed(8);
        empty.plays();
        c.is("44 how many beats: none", empty.undo(), 0);
        c.isSo("44 all as it was", Check.seen(empty).equals(Check.seen(new PunchByHeart())));
        c.refused("44 spots, too", empty, Check.MISSING, x -> x.as(3, 0));
        PunchByHeart full = new PunchByHeart();
        Check.read(full, EIGHT);
        Check.read(full, ELEVEN + ";beat 255");
        full.image();
        full.cut(0);
        c.is("44 how many beats: all", full.undo(), 12);
        full.cut(0);
        full.cut(0);
        c.is("44 it stays", full.undo(), 12);
        PunchByHeart x = new PunchByHeart();
        x.image();
        x.doll(0);
        x.image();
        x.doll(0);
        x.undo();
        c.is("44 what was kept latest", x.count(1), 1);
    }

    private void promise45Tear() {
        c.is("45 nothing was kept", new PunchByHeart().tear(), 0);
        PunchByHeart y = Check.withDolls(0);
        y.image();
        y.image();
        c.is("45 something was", y.tear(), 1);
        c.is("45 nothing then", y.tear(), 0);
        c.refused("45 nothing to undo then", y, Check.NONE, x -> x.undo());
        y.image();
        c.is("45 something again", y.undo(), 0);
    }

    private void promise46Count() {
        c.refused("46 what -1", Check.withDolls(0), Check.BEYOND, x -> x.count(-1));
        c.refused("46 what 8", Check.withDolls(0), Check.BEYOND, x -> x.count(8));
        c.refused("46 what highest", Check.withDolls(0), Check.BEYOND, x -> x.count(HIGHEST));
        c.is("46 no sizes", new PunchByHeart().count(4), 0);
        c.is("46 sizes at first", sheets().count(4), 24);
        PunchByHeart x = new PunchByHeart();
        x.seed(Check.BEYOND);
        c.is("46 z may be as a finding", x.count(6), Check.BEYOND);
        c.is("46 and is none", x.status(-1), 0);
    }

    private void promise47Status() {
        for (int which = -1; which <= 6; which++) {
            c.is("47 none at first, " + which, new PunchByHeart().status(which), 0);
        }
        for (int which : new int[] {-2, 7, LOWEST, HIGHEST}) {
            c.refused("47 another one, " + which, new PunchByHeart(), Check.BEYOND, x -> x.status(which));
        }
        PunchByHeart x = Check.withDolls(0, 0, 0, 0, 0, 0, 0, 0);
        x.image();
        x.beat(256, 0);
        x.doll(0);
        x.hold(0, 0);
        x.as(0, 1);
        x.tear();
        x.undo();
        x.plays();
        x.load(0);
        x.sheet(0, 8, -1);
        for (int which = 0; which <= 6; which++) {
            c.is("47 each once, " + which, x.status(which), 1);
        }
        c.is("47 all", x.status(-1), 7);
        x.image();
        x.doll(0);
        x.undo();
        c.is("47 undo takes none back", x.status(-1), 8);
        x.status(7);
        c.is("47 counted from then on", x.status(0), 2);
        c.is("47 in all, too", x.status(-1), 9);
    }
}
