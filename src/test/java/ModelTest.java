import java.lang.reflect.Method;
import java.util.HashMap;
import java.util.Map;
import java.util.Random;

/** Promises 1 to 47: runs of any calls, each answered as by the document told a second time. */
public final class ModelTest {
    private static final int RUNS = 300;
    private static final int CALLS = 512;
    /** What a text, the longest row of calls here, may take. */
    private static final int MOST_AT_ONCE = 72;
    private static final int[] ODD = {
        Integer.MIN_VALUE, Integer.MAX_VALUE, -1000001, -256, -2, 8, 10, 12, 13, 20, 21, 39, 40, 41,
        99, 100, 128, 255, 256, 65535, 65536, 65536 + 7, 1 << 30,
    };
    private static final int[] BITS = {8, 8, 8, 8, 16, 16, 32, 32, 0, 24};
    private static final String[] BUILDS = {
        "doll", "doll", "beat", "beat", "beat", "beat", "hooks", "change", "leaves", "puts",
    };
    private static final String[] WORDS = {
        "doll", "punch", "ghost", "jawed", "crocodile", "dog", "beadle", "beat", "leaves", "hook",
        "size", "speaks", ";", "dolls", "#", "0", "3", "7", "10", "007", "255", "1000", " ",
    };

    private final Check check;
    private final Random random;
    private final Map<String, Method> face = new HashMap<>();
    private final String[] names;
    private PunchByHeart x;
    private Model model;
    private int run;
    private int calls;

    private ModelTest(Check check, Random random) {
        this.check = check;
        this.random = random;
        for (Method m : PunchByHeart.class.getDeclaredMethods()) {
            if (java.lang.reflect.Modifier.isPublic(m.getModifiers())) {
                face.put(m.getName(), m);
            }
        }
        names = face.keySet().stream().sorted().toArray(String[]::new);
    }

    public static void main(String[] args) throws Exception {
        Check check = new Check("ModelTest");
        ModelTest test = new ModelTest(check, new Random(47));
        for (int run = 0; run < RUNS; run++) {
            test.run(run);
        }
        check.end();
    }

    private void run(int number) throws Exception {
        x = new PunchByHeart();
        model = new Model();
        run = number;
        calls = 0;
        int odd = 3 + random.nextInt(60);
        int building = random.nextInt(60);
        while (calls < CALLS - MOST_AT_ONCE) {
            if (random.nextInt(60) == 0) {
                text();
            } else if (random.nextInt(30) == 0) {
                fillSheet();
            } else if (random.nextInt(12) == 0) {
                cutWrongBeats();
            } else if (random.nextInt(100) < (calls < 40 ? 90 : building / 4)) {
                any(BUILDS[random.nextInt(BUILDS.length)], odd);
            } else {
                any(names[random.nextInt(names.length)], odd);
            }
        }
    }

    private long call(String name, int... a) throws Exception {
        calls++;
        Object[] arguments = new Object[a.length];
        StringBuilder told = new StringBuilder("run " + run + " call " + calls + " " + name);
        for (int i = 0; i < a.length; i++) {
            arguments[i] = a[i];
            told.append(' ').append(a[i]);
        }
        long due = model.answer(name, a);
        check.is(told.toString(), ((Number) face.get(name).invoke(x, arguments)).longValue(), due);
        return due;
    }

    private void any(String name, int odd) throws Exception {
        int[] a = new int[face.get(name).getParameterCount()];
        for (int i = 0; i < a.length; i++) {
            a[i] = usual(name, i);
            if (random.nextInt(odd) == 0) {
                a[i] = ODD[random.nextInt(ODD.length)];
            }
        }
        boolean isBeat = name.equals("beat") && random.nextInt(4) > 0;
        if (isBeat && (a[0] >> Math.max(0, Math.min(30, a[1])) & 1) == 0) {
            a[1] = -1;
        }
        call(name, a);
    }

    private int usual(String name, int i) {
        switch (name + i) {
            case "doll0": case "as1": return random.nextInt(7);
            case "change2": return random.nextInt(10);
            case "beat0": return 1 << random.nextInt(8) | random.nextInt(3) / 2 << random.nextInt(8);
            case "tell2": return random.nextBoolean() ? random.nextInt(16) : doll();
            case "hold0": case "as0": return random.nextInt(11);
            case "leaves0": case "leave0": case "count0": return random.nextInt(12);
            case "now0": case "of1": return random.nextInt(7) - random.nextInt(2);
            case "least0": case "stays0": case "held1": case "held2": case "part2":
            case "change1": case "tell1": case "puts0": case "hand0": return random.nextInt(2);
            case "fits0": case "maybe0": case "sheet0": case "write0": case "copy0": case "copy2":
            case "load0": case "judge0": return random.nextInt(4);
            case "sheet1": return BITS[random.nextInt(BITS.length)];
            case "sheet2": return random.nextInt(25);
            case "write2": return random.nextInt(12) - 2;
            case "copy1": case "copy3": case "copy4": return random.nextInt(4);
            case "ahead0": return random.nextInt(21);
            case "seed0": case "feed0": return random.nextInt();
            case "feed1": return 1 + random.nextInt(4);
            default: return doll();
        }
    }

    private int doll() {
        return random.nextInt(random.nextBoolean() ? 4 : 9) - random.nextInt(2);
    }

    /** Else hardly any play would go after some calls. */
    private void cutWrongBeats() throws Exception {
        for (int k = (int) call("count", 0) - 1; k >= 0; k--) {
            if (call("told", k, 2) == 1) {
                call("cut", k);
            }
        }
    }

    private void fillSheet() throws Exception {
        int s = random.nextInt(4);
        long n = call("sheet", s, BITS[random.nextInt(BITS.length)], random.nextInt(25));
        for (int i = 0; i < n; i++) {
            call("write", s, i, random.nextInt(3) == 0 ? random.nextInt() : doll());
        }
        call(random.nextBoolean() ? "fits" : "judge", s);
        call("load", s);
    }

    private void text() throws Exception {
        call("wipe");
        StringBuilder text = new StringBuilder();
        int items = 1 + random.nextInt(8);
        for (int i = 0; i < items; i++) {
            text.append(i > 0 ? ";" : "").append(item());
        }
        while (random.nextInt(3) == 0) {
            int at = random.nextInt(text.length() + 1);
            text.insert(at, WORDS[random.nextInt(WORDS.length)]);
        }
        text.setLength(Math.min(text.length(), 4 * MOST_AT_ONCE - 16));
        for (int at = 0; at < text.length(); at += 4) {
            int bytes = 0;
            int n = Math.min(4, text.length() - at);
            for (int i = at; i < at + n; i++) {
                bytes = bytes << 8 | text.charAt(i);
            }
            call("feed", bytes, n);
        }
        call("text");
    }

    private String item() {
        switch (random.nextInt(5)) {
            case 0: return WORDS[random.nextInt(7)] + " size " + random.nextInt(11);
            case 1: return "beat " + usual("beat", 0) + " speaks " + random.nextInt(5);
            case 2: return "leaves " + random.nextInt(12);
            case 3: return "hook " + random.nextInt(4) + " " + random.nextInt(4);
            default: return random.nextBoolean() ? WORDS[random.nextInt(7)] : "beat " + usual("beat", 0);
        }
    }
}
