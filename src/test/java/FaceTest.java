import java.lang.reflect.Constructor;
import java.lang.reflect.Field;
import java.lang.reflect.Method;
import java.lang.reflect.Modifier;
import java.nio.charset.StandardCharsets;
import java.nio.file.Files;
import java.nio.file.Path;
import java.util.Arrays;
import java.util.HashSet;
import java.util.List;
import java.util.Set;
import java.util.TreeSet;
import java.util.regex.Matcher;
import java.util.regex.Pattern;

/** The face of the document, and what of LANGUAGE.md can be seen from outside. */
final class FaceTest {
    private static final String SOURCE = "src/main/java/EdgeAndSpeed.java";
    private static final List<String> FACE = List.of("int write(int,long)", "int wipe()", "int fault()", "int lay()",
            "int pass(int,int,int,int,int)", "int breaks(int)", "int hand(int,int)", "int does(int,int,int,int,int)",
            "long value(int,int,int,int,int)", "long mean(int,int,int,int,int,int)", "int judge(int,int)",
            "long parted(int,int,int,int)", "long guess(int,int)", "long blind(int)", "int two(int,int,int,int,int)",
            "long earns(int,int,int)", "int shop(int,int)", "long pay(int,int,int,int)", "int bestPay(int,int)",
            "int log(int,int,int,int)", "int noLog()", "int off(int,int,int)", "int plainest(int)", "long run(int,int,int,int)",
            "int keep()", "int back()", "int count(int)");

    private FaceTest() {
    }

    public static void main(String[] args) throws Exception {
        members();
        classesInside();
        words();
        Check.end();
    }

    private static String told(Method m) {
        StringBuilder s = new StringBuilder(m.getReturnType().getName()).append(' ').append(m.getName()).append('(');
        for (Class<?> p : m.getParameterTypes()) {
            s.append(s.charAt(s.length() - 1) == '(' ? "" : ",").append(p.getName());
        }
        return s.append(')').toString();
    }

    private static void members() {
        Class<?> c = EdgeAndSpeed.class;
        Check.holds("public and final", Modifier.isPublic(c.getModifiers()) && Modifier.isFinal(c.getModifiers()));
        Set<String> open = new TreeSet<>();
        Set<String> names = new HashSet<>();
        Set<String> hidden = new HashSet<>();
        for (Method m : c.getDeclaredMethods()) {
            if (Modifier.isPrivate(m.getModifiers())) {
                hidden.add(m.getName());
            } else if (!m.isSynthetic()) {
                open.add((Modifier.isPublic(m.getModifiers()) ? "" : "not public: ") + told(m));
                names.add(m.getName());
            }
        }
        Check.holds("methods of the face: " + open, open.equals(new TreeSet<>(FACE)));
        hidden.retainAll(names);
        Check.holds("no private method of a public one's name: " + hidden, hidden.isEmpty());
        Set<String> constants = new TreeSet<>();
        for (Field f : c.getDeclaredFields()) {
            if (!Modifier.isPrivate(f.getModifiers())) {
                constants.add(Modifier.toString(f.getModifiers()) + " " + f.getType() + " " + f.getName());
            }
            boolean fixed = !Modifier.isStatic(f.getModifiers()) || Modifier.isFinal(f.getModifiers());
            Check.holds("static fields are final: " + f.getName(), fixed);
        }
        Set<String> due = new TreeSet<>();
        for (String name : List.of("BAD", "NO", "FULL", "NONE")) {
            due.add("public static final int " + name);
        }
        Check.holds("constants of the face: " + constants, constants.equals(due));
        Constructor<?>[] made = c.getDeclaredConstructors();
        Check.holds("one constructor", made.length == 1 && Modifier.isPublic(made[0].getModifiers())
                && made[0].getParameterCount() == 0);
    }

    private static void classesInside() {
        Class<?>[] inside = EdgeAndSpeed.class.getDeclaredClasses();
        Check.holds("some twelve classes: " + inside.length, inside.length <= 12);
        Set<String> face = new HashSet<>();
        for (String m : FACE) {
            face.add(m.substring(m.indexOf(' ') + 1, m.indexOf('(')));
        }
        for (Class<?> c : inside) {
            int m = c.getModifiers();
            boolean open = Modifier.isPublic(m) || Modifier.isProtected(m);
            Check.holds(c.getName() + " is static and not open", Modifier.isStatic(m) && !open);
            for (Method method : c.getDeclaredMethods()) {
                Check.holds(told(method) + " takes seven at most", method.getParameterCount() <= 7);
                Check.holds(told(method) + " has no name of the face", !face.contains(method.getName()));
            }
            long fields = Arrays.stream(c.getDeclaredFields()).filter(f -> !Modifier.isStatic(f.getModifiers())).count();
            Check.holds(c.getName() + " has some twenty fields at most: " + fields, fields <= 20);
            for (Field f : c.getDeclaredFields()) {
                boolean fixed = !Modifier.isStatic(f.getModifiers()) || Modifier.isFinal(f.getModifiers());
                Check.holds(c.getName() + " has no static state: " + f.getName(), fixed);
            }
        }
    }

    /** Words that the rules leave out, in the code without its comments and characters. */
    private static void words() throws Exception {
        String source = Files.readString(Path.of(SOURCE), StandardCharsets.UTF_8);
        for (int i = 0; i < source.length(); i++) {
            if (source.charAt(i) > 126) {
                Check.holds("a plain character at " + i, false);
            }
        }
        Matcher imports = Pattern.compile("import ([^;]+);").matcher(source);
        while (imports.find()) {
            Check.due("import " + imports.group(1), imports.group(1).equals("java.util.Arrays") ? 1 : 0, 1);
        }
        String code = source.replaceAll("(?s)/\\*.*?\\*/", " ").replaceAll("//[^\n]*", " ").replaceAll("'[^']+'", "0");
        String[] not = {"package", "protected", "lambda", "throw", "try", "catch", "finally", "synchronized", "assert", "volatile",
            "native", "transient", "strictfp", "instanceof", "record", "var", "yield", "System.out", "System.exit", "nanoTime",
            "Random", "Thread", "Object", "equals", "hashCode", "toString", "getMessage", "addExact", "multiplyExact", "float",
            "double", "String", "printStackTrace"};
        for (String word : not) {
            boolean there = Pattern.compile("\\b" + Pattern.quote(word) + "\\b").matcher(code).find();
            Check.holds("no " + word, !there);
        }
        Check.holds("no arrow, no reference to a method", !code.contains("->") && !code.contains("::") && !code.contains("\""));
        Check.holds("no annotation", !code.contains("@"));
    }
}
