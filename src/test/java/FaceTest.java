import java.lang.reflect.Constructor;
import java.lang.reflect.Field;
import java.lang.reflect.Method;
import java.lang.reflect.Modifier;
import java.nio.file.Files;
import java.nio.file.Path;
import java.util.Arrays;
import java.util.TreeSet;
import java.util.regex.Matcher;
import java.util.regex.Pattern;

/** The public face, and those rules of LANGUAGE.md that can be seen from outside or in the source. */
public final class FaceTest {
    private static final Check C = new Check("FaceTest");
    private static final String[] FACE = {
        "int room(int,int,int,int)", "int ofDesk(int,int)", "int lies(int,int)", "int line(int)", "int build(int,int)",
        "int come(int)", "int anew()", "int ask(int)", "int drop()", "int tale(int,int,int,int,int,int)",
        "int misses(int,int)", "int odd(int)", "int need(int,int)", "int fewest(int)", "int latest(int,int)",
        "int depth(int)", "int work(int,int)", "int reading(int,int,int)", "int back(int)", "int sizes(int)",
        "int kinds(int)", "long odds(int,int,int)", "int sheet(int,int,int)", "int lose(int)", "int put(int,int,int)",
        "long cell(int,int,int)", "int copy(int,int,int,int,int)", "int tell(int)", "int tally(int)", "int as(int,int)",
        "int trace()", "int fault()", "int many(int)"
    };
    private static final String[] FORBIDDEN = {
        "throw", "throws", "try", "catch", "finally", "synchronized", "assert", "import", "package", "->", "::",
        "@[A-Z]\\w*", "equals", "hashCode", "toString", "\\w+Exact", "System\\.(?!arraycopy)\\w+", "Thread", "Random"
    };

    /** Of what the library has, all that the class takes from it; each stands in rule 4. */
    private static final String LIBRARY = "Integer.bitCount Math.max System.arraycopy Long.MIN_VALUE";
    private static final int MOST_PARAMETERS = 7, MOST_FIELDS = 20, MOST_LINES = 60;

    public static void main(String[] args) throws Exception {
        constants();
        members();
        classesInside();
        String code = code();
        words(code);
        library(code);
        sizes(PageDesks.class);
        for (Class<?> c : PageDesks.class.getDeclaredClasses()) {
            sizes(c);
        }
        lengths(code);
        C.end();
    }

    private static void constants() {
        C.due("UNKNOWN", PageDesks.UNKNOWN, -1);
        C.due("OUTSIDE", PageDesks.OUTSIDE, -2);
        C.due("STATE", PageDesks.STATE, -3);
        C.due("FULL", PageDesks.FULL, -4);
        C.due("NONE", PageDesks.NONE, -9);
        C.due("LOST", PageDesks.LOST, Long.MIN_VALUE);
    }

    private static void members() {
        TreeSet<String> due = new TreeSet<>(Arrays.asList(FACE));
        TreeSet<String> names = new TreeSet<>();
        int modifiers = PageDesks.class.getModifiers();
        so("public and final", Modifier.isPublic(modifiers) && Modifier.isFinal(modifiers));
        for (Method m : PageDesks.class.getDeclaredMethods()) {
            if (!Modifier.isPrivate(m.getModifiers())) {
                String told = told(m);
                so(told + " is of the face", due.remove(told) && Modifier.isPublic(m.getModifiers()));
                names.add(m.getName());
            }
        }
        so("nothing is missing but " + due, due.isEmpty());
        for (Method m : PageDesks.class.getDeclaredMethods()) {
            so(m.getName() + " bears a public name", !Modifier.isPrivate(m.getModifiers()) || !names.contains(m.getName()));
        }
        for (Field f : PageDesks.class.getDeclaredFields()) {
            boolean constant = "UNKNOWN OUTSIDE STATE FULL NONE LOST".contains(f.getName());
            so(f.getName() + " is private or of the face", Modifier.isPublic(f.getModifiers()) == constant
                && (constant || Modifier.isPrivate(f.getModifiers())));
            so(f.getName() + " is no static state", isFinalIfStatic(f));
        }
        Constructor<?>[] made = PageDesks.class.getDeclaredConstructors();
        so("one public constructor", made.length == 1 && made[0].getParameterCount() == 0
            && Modifier.isPublic(made[0].getModifiers()));
    }

    private static void classesInside() {
        Class<?>[] inside = PageDesks.class.getDeclaredClasses();
        so("at most twelve classes", inside.length < 12);
        for (Class<?> c : inside) {
            so(c + " is static", Modifier.isStatic(c.getModifiers()) && !Modifier.isPublic(c.getModifiers()));
            for (Field f : c.getDeclaredFields()) {
                so(f + " is no static state", isFinalIfStatic(f));
            }
        }
    }

    /** The source without its comments. */
    private static String code() throws Exception {
        String source = System.getProperty("source", "src/main/java/PageDesks.java");
        return Files.readString(Path.of(source)).replaceAll("(?s)/\\*.*?\\*/", "").replaceAll("//[^\n]*", "");
    }

    private static void words(String code) {
        for (String word : FORBIDDEN) {
            String edged = Character.isLetter(word.charAt(0)) ? "\\b" + word + "\\b" : word;
            Matcher m = Pattern.compile(edged).matcher(code);
            boolean found = m.find();
            so("no " + word + (found ? ": " + m.group() : ""), !found);
        }
        so("characters 1 to 127 alone", code.chars().allMatch(c -> c > 0 && c < 128));
    }

    /** Rule 4: whatever is taken from a class by its name is the library's that is allowed, or the class's own. */
    private static void library(String code) {
        TreeSet<String> own = new TreeSet<>();
        for (Class<?> c : PageDesks.class.getDeclaredClasses()) {
            own.add(c.getSimpleName());
        }
        Matcher m = Pattern.compile("\\b([A-Z][a-z]\\w*)\\.(\\w+)").matcher(code);
        while (m.find()) {
            boolean allowed = Arrays.asList(LIBRARY.split(" ")).contains(m.group());
            so(m.group() + " is allowed", allowed || own.contains(m.group(1)));
        }
        m = Pattern.compile("\\bnew (\\w+)").matcher(code);
        while (m.find()) {
            String made = m.group(1);
            so("new " + made + " is of its own, or a row of ints", made.equals("int") || own.contains(made));
        }
    }

    /** Rule 11: parameters and fields. */
    private static void sizes(Class<?> c) {
        for (Method m : c.getDeclaredMethods()) {
            so(m + " has few parameters", m.getParameterCount() <= MOST_PARAMETERS);
        }
        long fields = Arrays.stream(c.getDeclaredFields()).filter(f -> !Modifier.isStatic(f.getModifiers())).count();
        so(c + " has few fields", fields <= MOST_FIELDS);
    }

    /** Rule 11: how long methods are; a method begins with a line that is no class and ends with its } at its depth. */
    private static void lengths(String code) {
        Matcher m = Pattern.compile("(?ms)^( +)(?![^\n]*\\bclass\\b)[^\n;=]*\\)[^\n;]*\\{\n.*?^\\1\\}$").matcher(code);
        int found = 0;
        while (m.find()) {
            found++;
            so(m.group().split("\n")[0].trim() + " is short", m.group().split("\n").length <= MOST_LINES);
        }
        so("methods were found", found >= FACE.length);
    }

    private static boolean isFinalIfStatic(Field f) {
        return !Modifier.isStatic(f.getModifiers()) || Modifier.isFinal(f.getModifiers());
    }

    private static String told(Method m) {
        StringBuilder told = new StringBuilder(m.getReturnType() + " " + m.getName() + "(");
        for (Class<?> p : m.getParameterTypes()) {
            told.append(told.charAt(told.length() - 1) == '(' ? "" : ",").append(p);
        }
        return told.append(')').toString();
    }

    private static void so(String what, boolean is) {
        C.due(what, is ? 1 : 0, 1);
    }
}
