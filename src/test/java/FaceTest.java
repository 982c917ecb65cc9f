import java.io.IOException;
import java.lang.reflect.Constructor;
import java.lang.reflect.Field;
import java.lang.reflect.Method;
import java.lang.reflect.Modifier;
import java.nio.file.Files;
import java.nio.file.Path;
import java.util.Set;
import java.util.TreeSet;
import java.util.regex.Matcher;
import java.util.regex.Pattern;

/** The public face, and the rules of LANGUAGE.md that can be seen from the class and its text. */
public final class FaceTest {
    private static final String METHODS =
        "feed(int) works() fault() told(int) place(int,int) channel(int,int) first(int,int) letIn(int) hour(int) "
        + "gate(int,boolean) clear(int) crack(int,int) empty() drift(int) undo() hears(int,int) soonest(int,int) "
        + "gates(int,int,int) cut(int,int,int) meet(int,int,int) longest(int) ways(int) firstBlocked() share(int) "
        + "frost(int,int) drip(int,int,int) cracked(int) listen(int) write(int,int) tear() judge() seed(int) keep(int) goBack(int)";
    private static final int LINES_MOST = 60, FIELDS_MOST = 20, CLASSES_MOST = 12, PARAMETERS_MOST = 7;

    public static void main(String[] args) throws IOException {
        constants();
        members();
        classesInside();
        words();
        lengths();
        Check.end();
    }

    private static void constants() {
        Check.same("NONE", GossipArches.NONE, -1);
        Check.same("UNKNOWN", GossipArches.UNKNOWN, -1000000001);
        Check.same("OUTSIDE", GossipArches.OUTSIDE, -1000000002);
        Check.same("NOT", GossipArches.NOT, -1000000003);
        Check.same("FULL", GossipArches.FULL, -1000000004);
    }

    private static void members() {
        Class<?> face = GossipArches.class;
        Check.holds("the class is public and final",
            Modifier.isPublic(face.getModifiers()) && Modifier.isFinal(face.getModifiers()));
        Set<String> due = new TreeSet<>(Set.of(METHODS.split(" ")));
        Set<String> names = new TreeSet<>();
        for (Method m : face.getDeclaredMethods()) {
            if (!Modifier.isPrivate(m.getModifiers())) {
                String sign = signature(m);
                Check.holds("a method of the face: " + sign, due.remove(sign));
                Check.holds("it answers an int: " + sign, m.getReturnType() == int.class);
                Check.holds("it is public, not static: " + sign, m.getModifiers() == Modifier.PUBLIC);
                names.add(m.getName());
            }
        }
        Check.holds("all methods of the face are there, but " + due, due.isEmpty());
        Set<String> fields = new TreeSet<>();
        for (Field f : face.getDeclaredFields()) {
            if (!Modifier.isPrivate(f.getModifiers())) {
                fields.add(f.getName());
            }
        }
        Check.holds("the constants alone: " + fields, fields.equals(Set.of("NONE", "UNKNOWN", "OUTSIDE", "NOT", "FULL")));
        Constructor<?>[] all = face.getDeclaredConstructors();
        Check.holds("one public constructor", all.length == 1 && Modifier.isPublic(all[0].getModifiers())
            && all[0].getParameterCount() == 0);
        noOtherMethodNamedSo(face, names);
        for (Class<?> inside : face.getDeclaredClasses()) {
            noOtherMethodNamedSo(inside, names);
        }
    }

    private static String signature(Method m) {
        StringBuilder sign = new StringBuilder(m.getName()).append('(');
        for (Class<?> type : m.getParameterTypes()) {
            sign.append(sign.charAt(sign.length() - 1) == '(' ? "" : ",").append(type.getName());
        }
        return sign.append(')').toString();
    }

    private static void noOtherMethodNamedSo(Class<?> where, Set<String> names) {
        for (Method m : where.getDeclaredMethods()) {
            boolean isFace = where == GossipArches.class && Modifier.isPublic(m.getModifiers());
            Check.holds(where.getSimpleName() + "." + m.getName() + " bears no public name", isFace || !names.contains(m.getName()));
            Check.holds(m.getName() + " takes few parameters", m.getParameterCount() <= PARAMETERS_MOST);
        }
    }

    private static void classesInside() {
        Class<?>[] inside = GossipArches.class.getDeclaredClasses();
        Check.holds("few classes", inside.length < CLASSES_MOST);
        for (Class<?> c : inside) {
            Check.holds(c.getSimpleName() + " is static", Modifier.isStatic(c.getModifiers()));
            Check.holds(c.getSimpleName() + " has few fields", fields(c) <= FIELDS_MOST);
        }
        Check.holds("few fields", fields(GossipArches.class) <= FIELDS_MOST);
    }

    private static int fields(Class<?> c) {
        int n = 0;
        for (Field f : c.getDeclaredFields()) {
            boolean isStatic = Modifier.isStatic(f.getModifiers());
            Check.holds(f.getName() + " is final, if it is static", !isStatic || Modifier.isFinal(f.getModifiers()));
            n += isStatic ? 0 : 1;
        }
        return n;
    }

    private static String source() throws IOException {
        return Files.readString(Path.of("src/main/java/GossipArches.java"));
    }

    private static void words() throws IOException {
        String code = source().replaceAll("(?s)/\\*.*?\\*/", " ").replaceAll("//[^\n]*", " ");
        String[] ruledOut = {"\\bthrow\\b", "\\btry\\b", "\\bcatch\\b", "\\bsynchronized\\b", "\\bassert\\b", "->", "::",
            "\\bpackage\\b", "\\bSystem\\.(?!arraycopy\\b)", "\\bMath\\.\\w*Exact\\b", "\\b(Integer|Long)\\.[A-Z]", "\\bvolatile\\b", "\\bnative\\b",
            "\\bThread\\b", "\\bRandom\\b", "\\bprotected\\b", "@", "\\bwhile \\(true\\)", "for \\(;;\\)"};
        for (String rule : ruledOut) {
            Check.holds("the code does without " + rule, !Pattern.compile(rule).matcher(code).find());
        }
        Matcher imports = Pattern.compile("import ([^;]+);").matcher(code);
        while (imports.find()) {
            Check.holds("it may import " + imports.group(1), imports.group(1).equals("java.util.Arrays"));
        }
        Matcher arrays = Pattern.compile("\\bArrays\\.(\\w+)").matcher(code.replaceAll("import [^;]+;", ""));
        while (arrays.find()) {
            Check.holds("Arrays." + arrays.group(1), Set.of("fill", "copyOf", "copyOfRange").contains(arrays.group(1)));
        }
    }

    private static void lengths() throws IOException {
        String[] lines = source().split("\n");
        int begun = -1;
        for (int i = 0; i < lines.length; i++) {
            if (lines[i].matches(" {4}(?: {4})?[\\w\\[\\]<> ]+\\(.*\\) \\{")) {
                begun = i;
            }
            if (begun >= 0 && lines[i].matches(" {4}(?: {4})?\\}")) {
                Check.holds("the method at line " + (begun + 1) + " is short", i - begun < LINES_MOST);
                begun = -1;
            }
        }
    }
}
