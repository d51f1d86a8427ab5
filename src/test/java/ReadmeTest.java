import java.io.IOException;
import java.lang.reflect.Array;
import java.lang.reflect.Field;
import java.lang.reflect.Method;
import java.lang.reflect.Modifier;
import java.nio.charset.StandardCharsets;
import java.nio.file.Files;
import java.nio.file.Path;
import java.util.ArrayList;
import java.util.Collections;
import java.util.HashMap;
import java.util.IdentityHashMap;
import java.util.List;
import java.util.Map;
import java.util.Set;
import java.util.TreeSet;
import java.util.regex.Matcher;
import java.util.regex.Pattern;
import java.util.stream.Stream;

/** README.md held against the class: its examples, its tables, the classes and tests that it names. */
final class ReadmeTest {
    private static final long LEAST = Long.MIN_VALUE;
    private static final Path TESTS = Path.of("src/test/java");
    private static final String BENCH = "v10,40;p20,2,60,40;p35,3,40,90;";
    private static String readme;

    private ReadmeTest() {
    }

    public static void main(String[] args) throws Exception {
        readme = read(Path.of("README.md"));
        examples();
        writer();
        firstBench();
        items();
        refusals();
        calls();
        classes();
        tests();
        room();
        Check.end();
    }

    private static String read(Path file) throws IOException {
        return Files.readString(file, StandardCharsets.UTF_8);
    }

    /** What stands below a headline, to the next one of its rank or above. */
    private static String section(String headline) {
        int begin = readme.indexOf("\n" + headline + "\n");
        Check.holds("README has " + headline, begin >= 0);
        String rest = begin < 0 ? "" : readme.substring(begin + headline.length() + 1);
        Matcher next = Pattern.compile("\n#{2," + headline.indexOf(' ') + "} ").matcher(rest);
        return next.find() ? rest.substring(0, next.start()) : rest;
    }

    /** The rows of a section's table, without its head; each cell is trimmed. */
    private static List<String[]> rows(String headline) {
        List<String[]> rows = new ArrayList<>();
        for (String line : section(headline).split("\n")) {
            if (line.startsWith("| ") && !line.startsWith("| ---")) {
                String[] cells = line.substring(1, line.lastIndexOf('|')).split("\\|", -1);
                for (int i = 0; i < cells.length; i++) {
                    cells[i] = cells[i].trim();
                }
                rows.add(cells);
            }
        }
        Check.holds("a table below " + headline, rows.size() > 1);
        return rows.isEmpty() ? rows : rows.subList(1, rows.size());
    }

    private static List<String> blocks(String text) {
        List<String> all = new ArrayList<>();
        Matcher m = Pattern.compile("(?s)```java\n(.*?)```").matcher(text);
        while (m.find()) {
            all.add(m.group(1));
        }
        return all;
    }

    // ---- examples

    private static void examples() throws Exception {
        String section = section("### An example");
        List<String> blocks = blocks(section);
        Check.due("examples", blocks.size(), 3);
        Set<String> asked = new TreeSet<>();
        for (String block : blocks) {
            EdgeAndSpeed x = new EdgeAndSpeed();
            StringBuilder written = new StringBuilder();
            String[] lines = block.split("\n");
            Check.holds("an example begins with a new object", lines[0].equals("EdgeAndSpeed x = new EdgeAndSpeed();"));
            for (int i = 1; i < lines.length; i++) {
                written.append(row(x, lines[i], asked));
            }
            if (block.contains("x.value(")) {
                Check.holds("the text is told whole: " + written, section.contains("`" + written + "`"));
            }
        }
        Check.holds("the examples ask each call: " + asked, asked.equals(face().keySet()));
    }

    /** Asks one row's call; answers the bytes that it writes. */
    private static String row(EdgeAndSpeed x, String line, Set<String> asked) throws Exception {
        Matcher m = Pattern.compile("x\\.(\\w+)\\((.*)\\); +// (-?\\d+|[A-Z]+)(: .*)?(, .*)?").matcher(line);
        if (!m.matches()) {
            Check.holds("a row of a call and its answer: " + line, false);
            return "";
        }
        List<Long> numbers = new ArrayList<>();
        for (String number : m.group(2).isEmpty() ? new String[0] : m.group(2).split(", ")) {
            numbers.add(Long.decode(number.replace("L", "")));
        }
        asked.add(m.group(1));
        Check.due(line, ask(x, m.group(1), numbers), due(m.group(3)));
        return m.group(1).equals("write") ? bytes(numbers, m.group(4)) : "";
    }

    private static String bytes(List<Long> numbers, String told) {
        StringBuilder s = new StringBuilder();
        for (long k = numbers.get(0) - 1; k >= 0 && k < 8; k--) {
            s.append((char) (numbers.get(1) >>> 8 * k & 255));
        }
        Matcher quoted = Pattern.compile("\"(.*)\"").matcher(told == null ? "" : told);
        if (quoted.find()) {
            Check.holds("the bytes of " + told + " are " + s, quoted.group(1).contentEquals(s));
        }
        return s.toString();
    }

    private static long ask(EdgeAndSpeed x, String name, List<Long> numbers) throws Exception {
        for (Method method : EdgeAndSpeed.class.getDeclaredMethods()) {
            if (Modifier.isPublic(method.getModifiers()) && method.getName().equals(name)) {
                Object[] args = new Object[numbers.size()];
                for (int i = 0; i < args.length; i++) {
                    boolean isLong = method.getParameterTypes()[i] == long.class;
                    args[i] = isLong ? (Object) numbers.get(i) : (Object) Math.toIntExact(numbers.get(i));
                }
                return ((Number) method.invoke(x, args)).longValue();
            }
        }
        throw new IllegalArgumentException("no call " + name);
    }

    private static long due(String told) throws Exception {
        return Character.isLetter(told.charAt(0)) ? EdgeAndSpeed.class.getField(told).getInt(null) : Long.parseLong(told);
    }

    /** The snippet that writes a text is the tests' own. */
    private static void writer() throws Exception {
        List<String> blocks = blocks(section("### A text"));
        Check.due("the snippet that writes", blocks.size(), 1);
        String own = read(TESTS.resolve("Check.java")).replaceAll("\\s+", " ");
        Check.holds("it is Check.write", own.contains(blocks.get(0).trim().replaceAll("\\s+", " ")));
    }

    // ---- texts

    private static void firstBench() {
        Matcher m = Pattern.compile("one SPEED \\(`(.*?)`\\), one PIECE \\(`(.*?)`\\)").matcher(section("### An object"));
        Check.holds("the first bench is told", m.find());
        EdgeAndSpeed x = Check.laid(m.group(1) + m.group(2) + "t100,10;");
        x.wipe();
        Seen.same("the first bench", x, new EdgeAndSpeed());
        Check.holds("a text's bytes are told", section("### A text").contains("bytes, 500 at most"));
        EdgeAndSpeed full = new EdgeAndSpeed();
        Check.due("500 bytes", Check.write(full, "x".repeat(500)), 500);
        Check.due("501 bytes", full.write(1, 'x'), EdgeAndSpeed.FULL);
    }

    private static void items() {
        StringBuilder letters = new StringBuilder();
        for (String[] row : rows("### A text")) {
            String form = row[0].replace("`", "");
            letters.append(form.charAt(0));
            String[] names = form.substring(1, form.length() - 1).split(",");
            int[][] ranges = ranges(form, names, row[2]);
            numbers(form.charAt(0), ranges);
            atMost(item(form.charAt(0), ranges, -1, 0), row[3]);
            without(form, row[4]);
        }
        Check.holds("all items are told: " + letters, letters.toString().equals("vpbchkt"));
    }

    private static int[][] ranges(String form, String[] names, String told) {
        int[][] ranges = new int[names.length][];
        String[] parts = told.split(", ");
        Check.due("numbers of " + form, parts.length, names.length);
        for (int i = 0; i < names.length; i++) {
            Matcher m = Pattern.compile("(\\w) (\\d+) to (\\d+)").matcher(parts[i]);
            Check.holds(names[i] + " of " + form + " is told", m.matches() && m.group(1).equals(names[i]));
            ranges[i] = new int[] {Integer.parseInt(m.group(2)), Integer.parseInt(m.group(3))};
        }
        return ranges;
    }

    /** An item of the least numbers, but for one of them. */
    private static String item(char letter, int[][] ranges, int other, int number) {
        StringBuilder s = new StringBuilder().append(letter);
        for (int i = 0; i < ranges.length; i++) {
            s.append(i == 0 ? "" : ",").append(i == other ? number : ranges[i][0]);
        }
        return s.append(';').toString();
    }

    private static void numbers(char letter, int[][] ranges) {
        for (int i = 0; i < ranges.length; i++) {
            for (int number = 0; number < 1001; number++) {
                String item = item(letter, ranges, i, number);
                boolean may = number >= ranges[i][0] && number <= ranges[i][1];
                Check.holds(item + " is as told", Check.fault(item) != 0 == may);
            }
        }
    }

    private static void atMost(String item, String told) {
        boolean any = told.equals("any");
        int most = any ? 500 / item.length() : Integer.parseInt(told);
        int fault = Check.fault(item.repeat(most));
        Check.holds(most + " of " + item, fault == EdgeAndSpeed.NONE || fault == most * item.length());
        if (!any) {
            Check.due(most + 1 + " of " + item, Check.fault(item.repeat(most + 1)), most * item.length());
        }
    }

    private static void without(String form, String told) {
        if (told.equals("it can't be laid")) {
            EdgeAndSpeed x = new EdgeAndSpeed();
            Check.write(x, form.charAt(0) == 'v' ? "p20,2,60,40;" : "v10,40;");
            Check.due("no fault without " + form, x.fault(), EdgeAndSpeed.NONE);
            Check.due("not laid without " + form, x.lay(), EdgeAndSpeed.NO);
            return;
        }
        EdgeAndSpeed x = Check.laid(BENCH);
        for (int wear = 0; wear <= 100 && told.equals("0 hundredths"); wear++) {
            Check.due("breaks(" + wear + ") without " + form, x.breaks(wear), 0);
        }
        Check.holds("without " + form + ": " + told, told.equals("0 hundredths") || told.startsWith("`" + form.charAt(0)));
        EdgeAndSpeed y = Check.laid(BENCH + (told.startsWith("`") ? told.replace("`", "") : ""));
        x.wipe();
        y.wipe();
        Seen.same("without " + form, x, y);
    }

    // ---- calls

    private static void refusals() throws Exception {
        Map<String, Long> due = new HashMap<>();
        for (String name : List.of("BAD", "NO", "FULL", "NONE")) {
            due.put("`" + name + "`", due(name));
        }
        due.put("the least long", LEAST);
        due.put("the least long and 2", LEAST + 2);
        due.put("the least long and 4", LEAST + 4);
        List<String[]> rows = rows("### What stands for a refusal");
        for (String[] row : rows) {
            Check.holds(row[0] + " is " + row[1], due.containsKey(row[0]) && due.get(row[0]) == Long.parseLong(row[1]));
        }
        Check.due("what stands for a refusal", rows.size(), due.size());
    }

    /** The document's calls and the names of their numbers. */
    private static Map<String, String> face() throws Exception {
        Map<String, String> face = new HashMap<>();
        String doc = read(Path.of("../shared/DOC.md"));
        Matcher m = Pattern.compile("\n    public (?:int|long) (\\w+)\\((.*?)\\);").matcher(doc);
        while (m.find()) {
            face.put(m.group(1), m.group(2).replaceAll("(int|long) ", ""));
        }
        Check.due("calls of the face", face.size(), 27);
        return face;
    }

    /** Each call is told with its numbers, and with what it answers when they are none that is told. */
    private static void calls() throws Exception {
        Map<String, String> told = new HashMap<>();
        for (String[] row : rows("### What the calls answer")) {
            Matcher m = Pattern.compile("`(\\w+)\\((.*)\\)`").matcher(row[0]);
            Check.holds("a call: " + row[0], m.matches());
            told.put(m.group(1), m.group(2));
            List<Long> none = new ArrayList<>();
            for (int i = 0; i < m.group(2).split(", ").length && !m.group(2).isEmpty(); i++) {
                none.add((long) Integer.MIN_VALUE);
            }
            if (!none.isEmpty()) {
                boolean bad = row[2].contains("BAD");
                Check.holds(row[0] + " tells what stands for BAD", bad || row[2].startsWith("the least long"));
                Check.due(row[0] + " of none", ask(new EdgeAndSpeed(), m.group(1), none), bad ? EdgeAndSpeed.BAD : LEAST);
            } else {
                long first = ask(new EdgeAndSpeed(), m.group(1), none);
                Check.holds(row[0] + " refuses as told", first >= 0 || row[2].contains(first == -2 ? "NO" : "NONE"));
            }
        }
        Check.holds("the calls told are those of the document: " + told, told.equals(face()));
    }

    // ---- what it is built of

    private static Set<String> named(String headline, String pattern) {
        Set<String> names = new TreeSet<>();
        for (String[] row : rows(headline)) {
            Matcher m = Pattern.compile(pattern).matcher(row[0]);
            while (m.find()) {
                names.add(m.group(1));
            }
        }
        return names;
    }

    private static void classes() {
        Set<String> inside = new TreeSet<>();
        for (Class<?> c : EdgeAndSpeed.class.getDeclaredClasses()) {
            inside.add(c.getSimpleName());
        }
        Set<String> named = named("## How it is built", "`(\\w+)`");
        Check.holds("the classes named " + named + " are those inside " + inside, named.equals(inside));
    }

    private static void tests() throws Exception {
        Set<String> files = new TreeSet<>();
        try (Stream<Path> all = Files.list(TESTS)) {
            all.map(file -> file.getFileName().toString()).filter(name -> name.endsWith("Test.java"))
                    .forEach(name -> files.add(name.substring(0, name.length() - 5)));
        }
        Set<String> named = named("## How to run its tests", "`(\\w+Test)`");
        Check.holds("the tests named " + named + " are those there are " + files, named.equals(files));
        Matcher m = Pattern.compile("`(\\w+)` tells all|`(Model)`|`(Check)\\.write`").matcher(readme);
        int helpers = 0;
        while (m.find()) {
            String name = m.group(1) != null ? m.group(1) : m.group(2) != null ? m.group(2) : m.group(3);
            Check.holds("there is " + name, Files.exists(TESTS.resolve(name + ".java")));
            helpers++;
        }
        Check.due("what else is named of the tests", helpers, 3);
        Check.holds("the script that is named can be run", Files.isExecutable(Path.of(".ci/run")));
    }

    /** The elements that the constructor makes are as many as told. */
    private static void room() throws Exception {
        Matcher m = Pattern.compile("\\(some (\\d+),000 elements\\)").matcher(readme);
        Check.holds("the elements are told", m.find());
        long told = 1000L * Long.parseLong(m.group(1));
        long there = elements(new EdgeAndSpeed(), Collections.newSetFromMap(new IdentityHashMap<>()));
        Check.holds(there + " elements, some " + told, Math.abs(there - told) < 5000);
    }

    private static long elements(Object o, Set<Object> seen) throws Exception {
        if (o == null || !seen.add(o)) {
            return 0;
        }
        long sum = 0;
        if (o.getClass().isArray()) {
            sum += Array.getLength(o);
            for (int i = 0; o instanceof Object[] && i < Array.getLength(o); i++) {
                sum += elements(Array.get(o, i), seen);
            }
            return sum;
        }
        for (Field f : o.getClass().getDeclaredFields()) {
            if (!Modifier.isStatic(f.getModifiers())) {
                f.setAccessible(true);
                sum += f.getType().isPrimitive() ? 1 : 1 + elements(f.get(o), seen);
            }
        }
        return sum;
    }
}
