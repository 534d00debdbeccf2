import java.lang.reflect.Constructor;
import java.lang.reflect.Field;
import java.lang.reflect.Member;
import java.lang.reflect.Method;
import java.lang.reflect.Modifier;
import java.nio.file.Files;
import java.nio.file.Path;
import java.util.Arrays;
import java.util.TreeSet;
import java.util.regex.Pattern;

/** The face of the class, and those rules of LANGUAGE.md that can be seen without reading the code. */
public final class RulesTest {
    private static final String SOURCE = "src/main/java/RoomWarden.java";
    private static final String[] FACE = {
        "int open(int)", "int page(int,boolean)", "int zone(int,long)", "int want(int,int)", "int give(int)",
        "int grow(int,int)", "int shrink(int,int)", "int write(int,int,long)", "int read(int,int)", "long value()",
        "int copy(int,int,int,int,int)", "int fill(int,long)", "int block(int,int)", "int spoil(int,boolean,long)",
        "int peek(int)", "int largest(int)", "int told(int,int)", "int map(int,int)", "int count(int)", "int save()",
        "int back()", "int hold(int,int)", "int throwIt(int)", "int found(int)"};
    private static final String[] BARRED = {
        "\\bthrow\\b", "\\btry\\b", "\\bcatch\\b", "\\bsynchronized\\b", "\\bassert\\b", "->", "::", "Exact\\b",
        "\\bstatic\\s*\\{", "[^\\x00-\\xff]", "\\bprotected\\b", "\\bThread\\b", "\\bRandom\\b",
        "currentTimeMillis", "nanoTime", "\\bObject\\b"};

    private static int wrong = 0;

    private static void check(String what, boolean holds) {
        if (!holds) {
            wrong++;
            System.out.println("not so: " + what);
        }
    }

    private static String told(Method m) {
        StringBuilder text = new StringBuilder(m.getReturnType() + " " + m.getName() + "(");
        for (int i = 0; i < m.getParameterCount(); i++) {
            text.append(i == 0 ? "" : ",").append(m.getParameterTypes()[i]);
        }
        return text.append(')').toString();
    }

    private static void checkFace() {
        TreeSet<String> open = new TreeSet<>();
        TreeSet<String> names = new TreeSet<>();
        for (Method m : RoomWarden.class.getDeclaredMethods()) {
            if (!Modifier.isPrivate(m.getModifiers())) {
                open.add(told(m));
                names.add(m.getName());
                check(m + " is public and no static one", m.getModifiers() == Modifier.PUBLIC);
            }
        }
        check("the methods are those of the document: " + open, open.equals(new TreeSet<>(Arrays.asList(FACE))));
        check("the class is public and final",
                RoomWarden.class.getModifiers() == (Modifier.PUBLIC | Modifier.FINAL));
        Constructor<?>[] made = RoomWarden.class.getDeclaredConstructors();
        check("one public constructor", made.length == 1 && made[0].getModifiers() == Modifier.PUBLIC);
        for (Field f : RoomWarden.class.getDeclaredFields()) {
            check(f + " is private", Modifier.isPrivate(f.getModifiers()));
            check(f + " is final if static", !Modifier.isStatic(f.getModifiers()) || Modifier.isFinal(f.getModifiers()));
        }
        checkNames(RoomWarden.class, names);
    }

    private static void checkNames(Class<?> c, TreeSet<String> names) {
        for (Method m : c.getDeclaredMethods()) {
            boolean ofFace = c == RoomWarden.class && Modifier.isPublic(m.getModifiers());
            check(m + " bears no name of the face", ofFace || !names.contains(m.getName()));
            check(m + " takes at most seven parameters", m.getParameterCount() <= 7);
        }
        int fields = 0;
        for (Member f : c.getDeclaredFields()) {
            fields += Modifier.isStatic(f.getModifiers()) ? 0 : 1;
        }
        check(c + " has at most twenty fields", fields <= 20);
        check(c + " has at most twelve classes inside", c.getDeclaredClasses().length <= 12);
        for (Class<?> inside : c.getDeclaredClasses()) {
            check(inside + " is static", Modifier.isStatic(inside.getModifiers()));
            checkNames(inside, names);
        }
    }

    private static void checkSource() throws Exception {
        String code = Files.readString(Path.of(SOURCE)).replaceAll("(?s)/\\*.*?\\*/", "").replaceAll("//[^\n]*", "");
        for (String word : BARRED) {
            check("the source has no " + word, !Pattern.compile(word).matcher(code).find());
        }
        for (String line : code.split("\n")) {
            if (line.startsWith("import ")) {
                check(line, line.equals("import java.util.Arrays;"));
            }
        }
        check("no package line", !code.startsWith("package"));
        checkWhatIsMade(code);
        checkLengths(code);
    }

    /** Rule 12: rows are made as an object is made, and once more at its first save(). */
    private static void checkWhatIsMade(String code) {
        Pattern ofAnObject = Pattern.compile(
                " *final (int|long)\\[] \\w+ = new .*;| *(room|chart|slabs|buddies|rows|answered) = new .*;");
        int later = 0;
        for (String line : code.split("\n")) {
            if (line.matches(".*\\bnew\\b.*") && !ofAnObject.matcher(line).matches()) {
                later++;
                check("made by save() alone: " + line, line.trim().equals("kept = new Room();"));
            }
        }
        check("one line makes something later", later == 1);
    }

    /** Rule 11: a method begins with a line that ends in ") {" and ends with a brace as far in. */
    private static void checkLengths(String code) {
        String[] lines = code.split("\n");
        int methods = 0;
        for (int i = 0; i < lines.length; i++) {
            if (!lines[i].matches(" {4}( {4})?[a-zA-Z][^=]*\\) \\{")) continue;
            if (lines[i].matches(" *(if|for|while|switch)\\b.*")) continue;
            String end = lines[i].replaceAll("\\S.*", "}");
            int last = i;
            while (last < lines.length && !lines[last].equals(end)) last++;
            methods++;
            check(lines[i].trim() + " has at most sixty lines", last - i < 60);
        }
        check("the methods are seen: " + methods, methods > FACE.length);
    }

    public static void main(String[] args) throws Exception {
        checkFace();
        checkSource();
        System.out.println(wrong + " rules are not kept");
        if (wrong > 0) {
            System.exit(1);
        }
    }
}
