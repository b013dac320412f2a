import java.io.IOException;
import java.lang.reflect.Constructor;
import java.lang.reflect.Field;
import java.lang.reflect.Method;
import java.lang.reflect.Modifier;
import java.nio.file.Files;
import java.nio.file.Path;
import java.util.ArrayList;
import java.util.Arrays;
import java.util.List;
import java.util.Set;
import java.util.TreeSet;
import java.util.regex.Matcher;
import java.util.regex.Pattern;

/** The public face of the document, and what of LANGUAGE.md can be seen from the classes and the source. */
public final class FormTests {
    private static final String FACE = """
        int status(); long top(); long bottom(); boolean tray(int, int, int); boolean write(int, int, long); long read(int, int);
        boolean pour(int, int, int, int, int); int feed(int, int, int, int, int); int wall(int); int terms(int); int fault(int);
        int many(int); int stone(int, int); int crow(int, int); int copyMoss(int); int judge(int, int, boolean); int year(int);
        int carve(int, int); int clear(int); boolean open(int); boolean mend(int, int, int); int fly(int, int);
        int hatch(int, boolean); boolean rule(int); int far(int, int); int mercy(int, int); int turned(int, int);
        int verdict(int, int); int stand(int); int fall(int); int least(int); int freeIn(int, int); int fits(int, int);
        int fitsBy(int, int, int); int ask(int, int, int); int cuts(int, int); int cutOf(int, int, int); int windows(int, int);
        int windowSet(int, int); int walk(int, int); int walkAt(int, int, int); int longest(); int game(int, int, int);
        int moveOf(int, int, int); boolean lot(int, int); boolean couples(int); int live(int); int lived(int);
        boolean mean(int, int); int mark(); int back();""";
    private static final Path SOURCE = Path.of("src/main/java/ParapetCourt.java");
    private static final int LONGEST_METHOD = 60;
    private static final int MOST_PARAMETERS = 7;
    private static final int MOST_CLASSES = 12;
    private static final int MOST_FIELDS = 20;

    private static int wrong = 0;

    public static void main(String[] args) throws IOException {
        face();
        members();
        source(Files.readString(SOURCE));
        System.out.println(wrong == 0 ? "the form is as due" : wrong + " checks failed");
        if (wrong != 0) {
            System.exit(1);
        }
    }

    private static void check(boolean holds, String what) {
        if (!holds) {
            wrong++;
            System.out.println(what);
        }
    }

    private static void face() {
        Set<String> due = new TreeSet<>();
        for (String method : FACE.split(";")) {
            due.add(method.strip());
        }
        Set<String> got = new TreeSet<>();
        for (Method m : ParapetCourt.class.getDeclaredMethods()) {
            if (!Modifier.isPrivate(m.getModifiers())) {
                check(m.getModifiers() == Modifier.PUBLIC, "not just public: " + m);
                got.add(m.getReturnType() + " " + m.getName() + "(" + types(m.getParameterTypes()) + ")");
            }
        }
        check(due.equals(got), "the face is " + got);
        check(ParapetCourt.NONE == -1, "NONE");
        check(Modifier.isFinal(ParapetCourt.class.getModifiers()), "the class is final");
        Constructor<?>[] constructors = ParapetCourt.class.getDeclaredConstructors();
        check(constructors.length == 1 && constructors[0].getParameterCount() == 0, "one constructor");
        for (Field f : ParapetCourt.class.getDeclaredFields()) {
            check(Modifier.isPrivate(f.getModifiers()) || f.getName().equals("NONE"), "a field that is not private: " + f);
        }
    }

    private static String types(Class<?>[] of) {
        List<String> names = new ArrayList<>();
        for (Class<?> type : of) {
            names.add(type.getName());
        }
        return String.join(", ", names);
    }

    private static List<Class<?>> classes() {
        List<Class<?>> all = new ArrayList<>(Arrays.asList(ParapetCourt.class.getDeclaredClasses()));
        all.add(ParapetCourt.class);
        return all;
    }

    private static void members() {
        Set<String> names = new TreeSet<>();
        for (Method m : ParapetCourt.class.getDeclaredMethods()) {
            if (Modifier.isPublic(m.getModifiers())) {
                names.add(m.getName());
            }
        }
        check(classes().size() <= MOST_CLASSES, "too many classes");
        for (Class<?> c : classes()) {
            check(Modifier.isFinal(c.getModifiers()), "a class that is not final: " + c);
            int fields = 0;
            for (Field f : c.getDeclaredFields()) {
                fields += Modifier.isStatic(f.getModifiers()) ? 0 : 1;
                check(!Modifier.isStatic(f.getModifiers()) || Modifier.isFinal(f.getModifiers()), "rule 5: " + f);
            }
            check(fields <= MOST_FIELDS, "rule 11: " + fields + " fields in " + c);
            for (Method m : c.getDeclaredMethods()) {
                check(m.getParameterCount() <= MOST_PARAMETERS, "rule 11: " + m);
                check(!Modifier.isPrivate(m.getModifiers()) || !names.contains(m.getName()), "rule 1: " + m);
            }
        }
    }

    private static void source(String whole) {
        String code = whole.replaceAll("\"[^\"\n]*\"", "\"\"").replaceAll("(?s)/\\*.*?\\*/", "").replaceAll("//[^\n]*", "");
        for (String word : "throw throws try catch finally synchronized assert import package instanceof var double float".split(" ")) {
            check(!Pattern.compile("\\b" + word + "\\b").matcher(code).find(), "a word that is not wanted: " + word);
        }
        for (String sign : new String[] {"->", "::", "@", "\" +", "+ \""}) {
            check(!code.contains(sign), "a sign that is not wanted: " + sign);
        }
        Matcher calls = Pattern.compile("\\b(System|Math|Integer|Long|String|Arrays)\\.(\\w+)").matcher(code);
        Set<String> wanted = Set.of("System.arraycopy", "Math.min", "Math.max", "Math.abs", "Math.floorMod", "Integer.bitCount");
        while (calls.find()) {
            check(wanted.contains(calls.group()), "rule 4: " + calls.group());
        }
        check(code.chars().allMatch(c -> c < 128), "a sign above 127");
        lengths(whole.split("\n"));
    }

    private static void lengths(String[] lines) {
        Pattern head = Pattern.compile("( +)(public|private) [^=;]*\\) \\{");
        for (int i = 0; i < lines.length; i++) {
            Matcher m = head.matcher(lines[i]);
            if (m.matches()) {
                int end = i;
                while (end < lines.length && !lines[end].equals(m.group(1) + "}")) {
                    end++;
                }
                check(end - i < LONGEST_METHOD, "rule 11: too long: " + lines[i].strip());
            }
        }
    }
}
