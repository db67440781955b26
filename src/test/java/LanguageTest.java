import java.io.IOException;
import java.lang.reflect.Constructor;
import java.lang.reflect.Field;
import java.lang.reflect.Method;
import java.lang.reflect.Modifier;
import java.nio.file.Files;
import java.nio.file.Path;
import java.util.TreeSet;
import java.util.regex.Matcher;
import java.util.regex.Pattern;

/** The face of the class, and those rules of LANGUAGE.md that can be seen from its text. */
final class LanguageTest {
    private static final String[] METHODS = {"letters 1", "weigh 3", "weight 2", "energy 1", "law 2", "unlaw 0",
        "best 1", "many 1", "bestAt 2", "pull 0", "fixed 1", "floor 0", "kill 2", "chain 2", "stands 0", "link 3",
        "strong 0", "readBack 1", "turn 1", "cut 1", "walk 5", "count 1"};
    private static final String[] FORBIDDEN = {"\\bthrow\\b", "\\bthrows\\b", "\\btry\\b", "\\bcatch\\b",
        "\\bsynchronized\\b", "\\bassert\\b", "->", "::", "\\bimport\\b", "\\bpackage\\b", "Exact\\b", "\\bSystem\\b",
        "\\bObject\\b", "\\bRandom\\b", "\\bThread\\b", "\\bfloat\\b", "\\bdouble\\b", "\\bprotected\\b", "\\bnull\\b",
        "while\\s*\\(\\s*true", "MIN_VALUE", "MAX_VALUE"};

    private LanguageTest() {
    }

    public static void main(String[] args) throws IOException {
        face();
        String text = Files.readString(Path.of("src/main/java/ColdGrid.java"));
        String code = text.replaceAll("(?s)/\\*.*?\\*/", "").replaceAll("//[^\n]*", "");
        for (String word : FORBIDDEN) {
            Due.is("rules: " + word, Pattern.compile(word).matcher(code).find() ? 1 : 0, 0);
        }
        nothingIsMadeByCalls(code);
        Due.end("LanguageTest");
    }

    private static void face() {
        Class<ColdGrid> c = ColdGrid.class;
        Due.is("face: public final", c.getModifiers() & (Modifier.PUBLIC | Modifier.FINAL),
            Modifier.PUBLIC | Modifier.FINAL);
        TreeSet<String> due = new TreeSet<>();
        for (String m : METHODS) {
            due.add(m);
        }
        TreeSet<String> open = new TreeSet<>();
        for (Method m : c.getDeclaredMethods()) {
            String told = m.getName() + " " + m.getParameterCount();
            if (Modifier.isPrivate(m.getModifiers())) {
                for (String d : METHODS) {
                    Due.is("face: private " + told, d.startsWith(m.getName() + " ") ? 1 : 0, 0);
                }
            } else {
                open.add(told);
                Due.is("face: int " + told, m.getReturnType() == int.class ? 1 : 0, 1);
                Due.is("face: public " + told, m.getModifiers(), Modifier.PUBLIC);
            }
        }
        Due.is("face: methods " + open, open.equals(due) ? 1 : 0, 1);
        Constructor<?>[] made = c.getDeclaredConstructors();
        Due.is("face: constructors", made.length, 1);
        Due.is("face: constructor", made[0].getModifiers() + made[0].getParameterCount(), Modifier.PUBLIC);
        constants(c);
    }

    private static void constants(Class<ColdGrid> c) {
        TreeSet<String> open = new TreeSet<>();
        for (Field f : c.getDeclaredFields()) {
            if (!Modifier.isPrivate(f.getModifiers())) {
                open.add(f.getName());
            }
            if (Modifier.isStatic(f.getModifiers())) {
                Due.is("face: final " + f.getName(), Modifier.isFinal(f.getModifiers()) ? 1 : 0, 1);
            }
        }
        Due.is("face: constants " + open, open.toString().equals("[BAD, FULL, NONE, NOT]") ? 1 : 0, 1);
        Due.is("NONE", ColdGrid.NONE, -1);
        Due.is("BAD", ColdGrid.BAD, -2);
        Due.is("NOT", ColdGrid.NOT, -3);
        Due.is("FULL", ColdGrid.FULL, -4);
    }

    // All calls of a run share one room, so objects and rows are made in fields alone.
    private static void nothingIsMadeByCalls(String code) {
        Matcher made = Pattern.compile("[^\n]*\\bnew\\b[^\n]*").matcher(code);
        while (made.find()) {
            String line = made.group().trim();
            Due.is("made outside a field: " + line, line.startsWith("private final ") ? 1 : 0, 1);
        }
    }
}
