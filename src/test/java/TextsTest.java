/** Promises 33 to 35: the tape, and booths from texts. */
public final class TextsTest {
    public static void main(String[] args) {
        Check check = new Check("TextsTest");
        feed(check);
        wipe(check);
        whole(check);
        tokens(check);
        bytes(check);
        dolls(check);
        beats(check);
        leaves(check);
        hooks(check);
        nothingChanges(check);
        check.end();
    }

    private static void feed(Check c) {
        PunchByHeart x = new PunchByHeart();
        c.is("33 n 0", x.feed(1, 0), Check.BEYOND);
        c.is("33 n 5", x.feed(1, 5), Check.BEYOND);
        c.is("33 n -1", x.feed(1, -1), Check.BEYOND);
        c.is("33 dog", x.feed(0x55646f67, 3), 3);
        c.is("33 read", x.text(), 1);
        c.is("33 kind", x.of(0, 0), Check.DOG);
        c.is("33 four", x.feed('d' << 24 | 'o' << 16 | 'l' << 8 | 'l', 4), 4);
        c.is("33 two", x.feed(' ' << 8 | ' ', 2), 6);
        c.is("33 read behind", x.text(), 1);
        for (int i = 1; i < 30; i++) {
            c.is("33 many", x.feed(0, 4), 4 * i);
        }
        c.is("33 119", x.feed(0, 3), 119);
        c.is("33 full", x.feed(0, 2), Check.FULL);
        c.is("33 beyond ahead of full", x.feed(0, 5), Check.BEYOND);
        c.is("33 120", x.feed(0, 1), 120);
        c.is("33 full then", x.feed(0, 1), Check.FULL);
        c.is("46 bytes", x.count(5), 120);
        c.is("35 a high byte", x.text(), -1);
        c.is("35 empty then", x.count(5), 0);
    }

    private static void wipe(Check c) {
        PunchByHeart x = new PunchByHeart();
        c.is("34 none", x.wipe(), 0);
        Check.feed(x, "doll");
        c.is("34 four", x.wipe(), 4);
        c.is("34 then", x.wipe(), 0);
        Check.feed(x, "dog");
        c.is("34 no trace", x.text(), 1);
        c.is("34 kind", x.of(0, 0), Check.DOG);
        Check.feed(x, "doll;  doll size 33");
        x.wipe();
        c.is("34 no trace of blanks", Check.read(x, "doll;"), -6);
        c.is("34 no trace of digits", Check.read(x, "dog; doll  size 3"), 2);
    }

    private static void whole(Check c) {
        PunchByHeart x = new PunchByHeart();
        String text = "punch;crocodile size 4;dog;beat 3 speaks 0; beat 4;hook 0 2;leaves 3";
        c.is("35 items", Check.read(x, text), 7);
        c.is("35 dolls", x.count(1), 3);
        c.is("35 kind", x.of(1, 0), Check.CROCODILE);
        c.is("35 size", x.of(1, 1), 4);
        c.is("35 size at first", x.of(2, 1), 3);
        c.is("35 cast", x.told(0, 0), 3);
        c.is("35 speaks", x.told(0, 1), 0);
        c.is("35 nobody", x.told(1, 1), -1);
        c.is("35 hook", x.of(0, 5), 2);
        c.is("35 leaves", x.now(4), 3);
        c.is("35 more", Check.read(x, "ghost;jawed;beadle;doll;beat 127 speaks 6"), 5);
        c.is("35 ghost", x.of(3, 0), Check.GHOST);
        c.is("35 jawed", x.of(4, 0), Check.JAWED);
        c.is("35 beadle", x.of(5, 0), Check.BEADLE);
        c.is("35 doll", x.of(6, 0), Check.DOLL);
        c.is("35 a wrong beat is told all the same", x.told(2, 2), 1);
        c.is("35 no findings", x.status(-1), 0);
    }

    private static void fault(Check c, String before, String text, int fault) {
        PunchByHeart x = new PunchByHeart();
        if (!before.isEmpty()) {
            Check.read(x, before);
        }
        c.is("35 '" + text + "' behind '" + before + "'", Check.read(x, text), -1 - fault);
        c.is("35 no finding", x.status(-1), 0);
        c.is("35 the tape is empty", x.count(5), 0);
    }

    private static void good(Check c, String before, String text, int items) {
        PunchByHeart x = new PunchByHeart();
        if (!before.isEmpty()) {
            Check.read(x, before);
        }
        c.is("35 '" + text + "' behind '" + before + "'", Check.read(x, text), items);
    }

    private static void tokens(Check c) {
        fault(c, "", "", 0);
        fault(c, "", "   ", 3);
        fault(c, "", ";", 0);
        fault(c, "", "doll;", 5);
        fault(c, "", "doll; ", 6);
        fault(c, "", "doll;;doll", 5);
        fault(c, "", "doll doll", 5);
        fault(c, "", "dolldoll", 0);
        fault(c, "", "Doll", 0);
        fault(c, "", "doll,doll", 4);
        fault(c, "", "doll\tsize 3", 4);
        fault(c, "", "7", 0);
        fault(c, "", "size 3", 0);
        fault(c, "", "speaks 3", 0);
        fault(c, "", "dol", 0);
        fault(c, "", "roll", 0);
        fault(c, "", "dool", 0);
        fault(c, "", "dolk", 0);
        fault(c, "", "doll\u00e9", 4);
        fault(c, "", "doll\0", 4);
        good(c, "", "  doll  size3  ;dog", 2);
        good(c, "", "doll size 0003", 1);
        good(c, "", "doll ", 1);
        good(c, "", "doll;doll;doll;beat007speaks00", 4);
    }

    /** Each byte behind a word, ahead of one, behind a number, and between a word and a number. */
    private static void bytes(Check c) {
        for (int b = 0; b < 256; b++) {
            boolean isLetter = b >= 'a' && b <= 'z';
            boolean isDigit = b >= '0' && b <= '9';
            char sign = (char) b;
            if (b == ' ') {
                good(c, "", "doll" + sign, 1);
                good(c, "", sign + "doll", 1);
                good(c, "", "leaves 1" + sign, 1);
                good(c, "", "leaves" + sign + "1", 1);
                continue;
            }
            fault(c, "", "doll" + sign, isLetter ? 0 : b == ';' ? 5 : 4);
            fault(c, "", sign + "doll", 0);
            if (b == '0') {
                good(c, "", "leaves 1" + sign, 1);
                good(c, "", "leaves" + sign + "1", 1);
                continue;
            }
            fault(c, "", "leaves 1" + sign, isDigit ? 7 : b == ';' ? 9 : 8);
            fault(c, "", "leaves" + sign + "1", isLetter ? 0 : 6);
        }
    }

    private static void dolls(Check c) {
        fault(c, "", "doll size", 9);
        fault(c, "", "doll size 0", 10);
        fault(c, "", "doll size 10", 10);
        fault(c, "", "doll size 1000", 10);
        fault(c, "", "doll size 4294967297", 10);
        fault(c, "", "doll size doll", 10);
        fault(c, "", "doll size;", 9);
        fault(c, "", "doll size 3 4", 12);
        fault(c, "", "doll size 3 size 4", 12);
        fault(c, "", "doll 3", 5);
        fault(c, "", "doll speaks 0", 5);
        good(c, "", "doll size 9;doll size 1", 2);
        good(c, "doll;doll", "doll;doll;doll;doll;doll;doll", 6);
        fault(c, "doll;doll", "doll;doll;doll;doll;doll;doll; dog", 31);
        fault(c, "dog;dog;dog;dog;dog;dog;dog;dog", "leaves 3;dog size 10", 9);
    }

    private static void beats(Check c) {
        fault(c, "", "beat", 4);
        fault(c, "", "beat 1", 5);
        fault(c, "", "beat 1000", 5);
        fault(c, "", "beat speaks", 5);
        fault(c, "doll", "beat 2", 5);
        fault(c, "doll", "beat 2;doll", 5);
        fault(c, "doll", "beat 1 speaks", 13);
        fault(c, "doll", "beat 1 speaks 1", 14);
        fault(c, "doll", "beat 1 speaks x", 14);
        fault(c, "doll", "beat 1 speaks 0 0", 16);
        fault(c, "doll", "beat 1 size 0", 7);
        fault(c, "doll", "beat 1 0", 7);
        fault(c, "", "beat 0 speaks 0", 14);
        good(c, "", "beat 0", 1);
        good(c, "doll", "doll;beat 3 speaks 1", 2);
        String eight = "dog;dog;dog;dog;dog;dog;dog;dog";
        good(c, eight, "beat 255 speaks 7", 1);
        fault(c, eight, "beat 256", 5);
        String eleven = "beat 0;beat 0;beat 0;beat 0;beat 0;beat 0;beat 0;beat 0;beat 0;beat 0;beat 0";
        good(c, eleven, "beat 0", 1);
        fault(c, eleven, "beat 0;beat 9", 7);
    }

    private static void leaves(Check c) {
        fault(c, "", "leaves", 6);
        fault(c, "", "leaves 11", 7);
        fault(c, "", "leaves dog", 7);
        fault(c, "", "leaves 3 3", 9);
        good(c, "", "leaves 10", 1);
        good(c, "", "leaves 0;leaves 7", 2);
    }

    private static void hooks(Check c) {
        fault(c, "", "hook 0 0", 5);
        fault(c, "doll;doll", "hook", 4);
        fault(c, "doll;doll", "hook 0", 6);
        fault(c, "doll;doll", "hook 2 0", 5);
        fault(c, "doll;doll", "hook 0 2", 7);
        fault(c, "doll;doll", "hook 0;1", 6);
        fault(c, "doll;doll", "hook 0 1 0", 9);
        good(c, "doll;doll", "hook 1 1", 1);
        PunchByHeart x = new PunchByHeart();
        c.is("35 hooks", Check.read(x, "doll;doll;hook 0 1;doll;hook 2 0"), 5);
        c.is("35 hook of 0", x.of(0, 5), 2);
        c.is("35 hook of 1", x.of(1, 5), 0);
        c.is("35 hook of 2", x.of(2, 5), 1);
    }

    private static void nothingChanges(Check c) {
        PunchByHeart x = Check.withDolls(0, 0);
        x.beat(1, 0);
        x.leaves(2);
        c.is("35 fault at the end", Check.read(x, "dog;beat 4;leaves 9;hook 0 1;dogs"), -30);
        c.is("35 dolls", x.count(1), 2);
        c.is("35 beats", x.count(0), 1);
        c.is("35 leaves", x.now(4), 2);
        c.is("35 hook", x.of(0, 5), 0);
        c.is("35 bytes", x.count(5), 0);
    }
}
