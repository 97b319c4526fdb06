import java.lang.reflect.Constructor;
import java.lang.reflect.Field;
import java.lang.reflect.Method;
import java.lang.reflect.Modifier;
import java.nio.file.Files;
import java.nio.file.Path;
import java.util.ArrayList;
import java.util.List;
import java.util.TreeSet;

/** The class's face, and the rules of LANGUAGE.md that its text and its members show. */
public final class LanguageTest {
    private static final String FACE = "int doll(1) int of(2) int change(3) int hooks(2)"
            + " int leaves(1) int beat(2) int told(2) int tell(3) int cut(1) int wrong(0)"
            + " int whistle(0) int puts(2) int hand(1) int suits(1) int now(1) int least(1)"
            + " int held(3) int part(3) int dear(0) int rehang(0) int rehung(0) int kindFor(1)"
            + " int mayor(1) int leave(1) int fits(1) int maybe(2) int dogs(0) long stays(1)"
            + " int plays(0) int ahead(1) int seed(1) int feed(2) int wipe(0) int text(0)"
            + " int hold(2) int as(2) int sheet(3) int write(3) int copy(5) int load(1)"
            + " int judge(1) int image(0) int undo(0) int tear(0) int count(1) int status(1)";
    private static final String[] RULED_OUT = {
        "throw", "try", "catch", "synchronized", "assert", "import", "package", "record", "var",
        "->", "::", "@", "System.out", "hashCode", "new Object", "Exact(", "float", "double",
    };
    private static final int LONGEST_METHOD = 60;
    private static final int MOST_PARAMETERS = 7;
    private static final int MOST_FIELDS = 20;
    private static final int MOST_CLASSES = 12;

    public static void main(String[] args) throws Exception {
        Check check = new Check("LanguageTest");
        face(check);
        members(check);
        text(check);
        check.end();
    }

    private static void face(Check c) {
        TreeSet<String> got = new TreeSet<>();
        TreeSet<String> due = new TreeSet<>(List.of(FACE.split(" (?=int|long)")));
        TreeSet<String> hidden = new TreeSet<>();
        for (Method m : PunchByHeart.class.getDeclaredMethods()) {
            if (Modifier.isPrivate(m.getModifiers())) {
                hidden.add(m.getName());
                continue;
            }
            c.is("1 public " + m, m.getModifiers(), Modifier.PUBLIC);
            for (Class<?> p : m.getParameterTypes()) {
                c.is("1 parameter of " + m, p == int.class ? 1 : 0, 1);
            }
            got.add(m.getReturnType() + " " + m.getName() + "(" + m.getParameterCount() + ")");
        }
        c.is("1 face " + got + " for " + due, got.equals(due) ? 1 : 0, 1);
        for (String one : due) {
            String name = one.substring(one.indexOf(' ') + 1, one.indexOf('('));
            c.is("1 private " + name, hidden.contains(name) ? 1 : 0, 0);
        }
        Constructor<?>[] all = PunchByHeart.class.getDeclaredConstructors();
        c.is("1 constructors", all.length, 1);
        c.is("1 its parameters", all[0].getParameterCount(), 0);
        c.is("1 public", all[0].getModifiers(), Modifier.PUBLIC);
        int modifiers = PunchByHeart.class.getModifiers();
        c.is("1 the class", modifiers, Modifier.PUBLIC | Modifier.FINAL);
        for (Field f : PunchByHeart.class.getDeclaredFields()) {
            c.is("1 " + f, Modifier.isPrivate(f.getModifiers()) ? 1 : 0, 1);
        }
    }

    private static void members(Check c) {
        List<Class<?>> classes = new ArrayList<>(List.of(PunchByHeart.class.getDeclaredClasses()));
        for (Class<?> one : classes) {
            c.is("2 static " + one, Modifier.isStatic(one.getModifiers()) ? 1 : 0, 1);
            c.is("2 not public " + one, one.getModifiers() & (Modifier.PUBLIC | Modifier.PROTECTED), 0);
        }
        classes.add(PunchByHeart.class);
        c.is("11 classes", classes.size() <= MOST_CLASSES ? 1 : 0, 1);
        for (Class<?> one : classes) {
            int fields = 0;
            for (Field f : one.getDeclaredFields()) {
                boolean isStatic = Modifier.isStatic(f.getModifiers());
                fields += isStatic ? 0 : 1;
                c.is("5 " + f, !isStatic || Modifier.isFinal(f.getModifiers()) ? 1 : 0, 1);
            }
            c.is("11 fields of " + one, fields <= MOST_FIELDS ? 1 : 0, 1);
            for (Method m : one.getDeclaredMethods()) {
                c.is("11 parameters of " + m, m.getParameterCount() <= MOST_PARAMETERS ? 1 : 0, 1);
                boolean isFace = Modifier.isPublic(m.getModifiers());
                boolean isNamedSo = FACE.contains(" " + m.getName() + "(");
                c.is("1 name of " + m, isFace || !isNamedSo ? 1 : 0, 1);
            }
        }
    }

    private static void text(Check c) throws Exception {
        int depth = 0;
        int methodBegins = 0;
        int number = 0;
        for (String line : Files.readAllLines(Path.of("src/main/java/PunchByHeart.java"))) {
            number++;
            String code = code(line);
            for (String one : RULED_OUT) {
                boolean isThere = Character.isLetter(one.charAt(0)) && !one.endsWith("(")
                        ? code.matches(".*\\b" + one.replace(".", "\\.") + "\\b.*")
                        : code.contains(one);
                c.is("6 line " + number + ": " + one, isThere ? 1 : 0, 0);
            }
            c.is("4 signs of line " + number, line.matches("[ -~]*") ? 1 : 0, 1);
            if (code.contains("(") && code.endsWith("{") && depth <= 2) {
                methodBegins = number;
            }
            depth += count(code, '{') - count(code, '}');
            if (code.equals("}") && depth <= 2) {
                c.is("11 line " + number, number - methodBegins < LONGEST_METHOD || depth == 0
                        || methodBegins == 0 ? 1 : 0, 1);
            }
        }
        c.is("2 braces", depth, 0);
    }

    /** A line less its comment and what stands in quotes. */
    private static String code(String line) {
        String bare = line.strip().replaceAll("\"[^\"]*\"", "\"\"").replaceAll("'[^']*'", "' '");
        if (bare.startsWith("/*") || bare.startsWith("*")) {
            return "";
        }
        int at = bare.indexOf("//");
        return at < 0 ? bare : bare.substring(0, at).strip();
    }

    private static int count(String text, char one) {
        int sum = 0;
        for (int i = 0; i < text.length(); i++) {
            sum += text.charAt(i) == one ? 1 : 0;
        }
        return sum;
    }
}
