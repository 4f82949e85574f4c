import java.io.IOException;
import java.lang.reflect.Array;
import java.lang.reflect.Field;
import java.lang.reflect.Method;
import java.lang.reflect.Modifier;
import java.nio.charset.StandardCharsets;
import java.nio.file.DirectoryStream;
import java.nio.file.Files;
import java.nio.file.Path;
import java.nio.file.Paths;
import java.util.ArrayList;
import java.util.LinkedHashMap;
import java.util.List;
import java.util.Map;
import java.util.regex.Matcher;
import java.util.regex.Pattern;

/**
 * What README.md says is so. Its example stands here between two marks, line for line, so that it is
 * compiled and run, and its answers are compared with the numbers that README.md tells beside them.
 */
public final class ReadmeTest {
    private static final Map<String, Integer> answers = new LinkedHashMap<>();
    private static int asked = 0;
    private static int wrong = 0;

    private static void due(String what, Object want, Object got) {
        asked++;
        if (!want.equals(got)) {
            wrong++;
            System.out.println(what + ": " + got + ", due is " + want);
        }
    }

    private static void example() {
        // the example begins
        int x = 16777216;
        int y = 65536;
        RemnantDictionary r = new RemnantDictionary();
        r.field(7, 2, 0);
        r.coefficient(2 * x, 1);
        r.coefficient(y, -1);
        r.coefficient(0, 2);
        int first = r.join();
        r.coefficient(3 * y, 1);
        r.coefficient(x, -1);
        int held = r.hand(x);
        int second = r.join();
        int count = r.find(12);
        int monomial = r.left(3);
        int number = r.times(0, 2, 0);
        int polynomials = r.dictionary();
        int leading = r.entry(0, 0, 0);
        int next = r.entry(0, 1, 0);
        int coefficient = r.entry(0, 1, 1);
        int behind = r.entry(0, 3, 0);
        // the example ends
        answers.put("x", x);
        answers.put("y", y);
        answers.put("first", first);
        answers.put("held", held);
        answers.put("second", second);
        answers.put("count", count);
        answers.put("monomial", monomial);
        answers.put("number", number);
        answers.put("polynomials", polynomials);
        answers.put("leading", leading);
        answers.put("next", next);
        answers.put("coefficient", coefficient);
        answers.put("behind", behind);
        wordsBesideTheExample(r, x, y);
    }

    /** What the example's comments say beyond the number that they begin with. */
    private static void wordsBesideTheExample(RemnantDictionary r, int x, int y) {
        int[] left = {0, y, x, 2 * y, x + y, x + 2 * y};
        for (int k = 0; k < left.length; k++) {
            due("left(" + k + ")", left[k], r.left(k));
        }
        int[] xx = {5, 1, 0, 0, 0, 0};
        for (int j = 0; j < xx.length; j++) {
            due("times(0, 2, " + j + ")", xx[j], r.times(0, 2, j));
        }
        int[][] polynomials = {{6 * y, 1, y, 6, 0, 2}, {x, 1, 3 * y, 6}};
        for (int k = 0; k < polynomials.length; k++) {
            int terms = polynomials[k].length / 2;
            for (int j = 0; j < terms; j++) {
                due("entry(" + k + ", " + j + ", 0)", polynomials[k][2 * j], r.entry(k, j, 0));
                due("entry(" + k + ", " + j + ", 1)", polynomials[k][2 * j + 1], r.entry(k, j, 1));
            }
            due("entry(" + k + ", " + terms + ", 0)", RemnantDictionary.NONE, r.entry(k, terms, 0));
        }
    }

    private static List<String> linesBetween(List<String> lines, String begin, String end) {
        List<String> between = new ArrayList<>();
        boolean inside = false;
        for (String line : lines) {
            if (inside && line.trim().equals(end)) {
                return between;
            }
            if (inside) {
                between.add(line.trim());
            }
            inside |= line.trim().equals(begin);
        }
        return between;
    }

    private static void exampleIsTheSame(List<String> readme) throws IOException {
        List<String> own = Files.readAllLines(Paths.get("src/test/java/ReadmeTest.java"), StandardCharsets.UTF_8);
        List<String> code = new ArrayList<>();
        for (String line : linesBetween(readme, "```java", "```")) {
            code.add(line.replaceAll("\\s*//.*", ""));
        }
        due("the example", linesBetween(own, "// the example begins", "// the example ends"), code);
    }

    private static void numbersOfTheExample(List<String> readme) {
        Pattern told = Pattern.compile("int (\\w+) = .*; +// (-?\\d+).*");
        Pattern plain = Pattern.compile("int (\\w+) = (-?\\d+);");
        for (String line : linesBetween(readme, "```java", "```")) {
            Matcher matcher = told.matcher(line);
            Matcher constant = plain.matcher(line);
            if (matcher.matches()) {
                due("README.md on " + matcher.group(1), answers.get(matcher.group(1)), Integer.parseInt(matcher.group(2)));
            } else if (line.startsWith("int ")) {
                due("README.md tells a number in '" + line + "'", true, constant.matches());
            }
        }
    }

    private static void namesEveryCall(String readme) {
        for (Method m : RemnantDictionary.class.getDeclaredMethods()) {
            if (Modifier.isPublic(m.getModifiers())) {
                String row = "(?s).*\n\\| `" + m.getName() + "\\((\\w+(, \\w+)*)?\\)` \\|[^\n|]*\\|([^\n|]*)\\|\n.*";
                Matcher matcher = Pattern.compile(row).matcher(readme);
                boolean stands = matcher.matches();
                due("README.md has a row for " + m.getName(), true, stands);
                if (stands) {
                    int parameters = matcher.group(1) == null ? 0 : matcher.group(1).split(", ").length;
                    due("parameters of " + m.getName(), m.getParameterCount(), parameters);
                    for (String name : new String[] {"IllegalArgumentException", "IllegalStateException"}) {
                        due(m.getName() + " throws " + name, throwsOne(m, name), matcher.group(3).contains(name));
                    }
                }
            }
        }
    }

    private static boolean throwsOne(Method m, String name) {
        for (Class<?> c : m.getExceptionTypes()) {
            if (c.getSimpleName().equals(name)) {
                return true;
            }
        }
        return false;
    }

    private static void namesEveryTest(String readme) throws IOException {
        try (DirectoryStream<Path> tests = Files.newDirectoryStream(Paths.get("src/test/java"), "*.java")) {
            for (Path test : tests) {
                String name = test.getFileName().toString().replace(".java", "");
                due("README.md says what " + name + " does", true, readme.contains("\n- `" + name + "`: "));
            }
        }
        Matcher named = Pattern.compile("\n- `(\\w+Test)`: ").matcher(readme);
        while (named.find()) {
            due(named.group(1) + " is there", true, Files.exists(Paths.get("src/test/java/" + named.group(1) + ".java")));
        }
    }

    /** Every array that the object reaches, with its length; an array that is reached twice counts once. */
    private static void gatherArrays(Object object, List<Object> seen) throws IllegalAccessException {
        for (Field f : object.getClass().getDeclaredFields()) {
            f.setAccessible(true);
            Object value = f.getType().isPrimitive() || Modifier.isStatic(f.getModifiers()) ? null : f.get(object);
            boolean isNew = value != null;
            for (Object other : seen) {
                isNew &= other != value;
            }
            if (isNew) {
                seen.add(value);
                if (!value.getClass().isArray()) {
                    gatherArrays(value, seen);
                }
            }
        }
    }

    private static int elements(List<Object> seen) {
        int sum = 0;
        for (Object value : seen) {
            sum += value.getClass().isArray() ? Array.getLength(value) : 0;
        }
        return sum;
    }

    private static void room(String readme) throws IllegalAccessException {
        RemnantDictionary r = new RemnantDictionary();
        List<Object> before = new ArrayList<>();
        gatherArrays(r, before);
        Matcher told = Pattern.compile("All arrays are made with the object \\((\\d+) elements in all\\)").matcher(readme);
        boolean stands = told.find();
        due("README.md tells how many elements there are", true, stands);
        if (stands) {
            due("elements in all", elements(before), Integer.parseInt(told.group(1)));
        }
        r.field(32003, 4, 1);
        for (int v = 0; v < 4; v++) {
            r.coefficient((v == 3 ? 5 : 2) << 24 - 8 * v, 1);
            r.join();
        }
        due("find(5)", 40, r.find(5));
        List<Object> after = new ArrayList<>();
        gatherArrays(r, after);
        boolean same = before.size() == after.size();
        for (int i = 0; same && i < before.size(); i++) {
            same = before.get(i) == after.get(i);
        }
        due("the object has the arrays that it was made with", true, same);
    }

    /** Beyond what the object keeps: no call makes an array for itself. */
    private static void arraysOfTheSource() throws IOException {
        Path path = Paths.get("src/main/java/RemnantDictionary.java");
        for (String line : Files.readAllLines(path, StandardCharsets.UTF_8)) {
            String code = line.replaceAll("^ *(\\*|/\\*\\*|//).*", "").replaceAll("\"[^\"]*\"", "\"\"");
            if (code.matches(".*\\bnew\\b.*")) {
                boolean inField = code.matches(" +(private )?final [\\w\\[\\]]+ \\w+ = new .*;");
                due("made once, or thrown: " + line.trim(), true, inField || code.contains("throw new Illegal"));
            }
            due("no copy is made: " + line.trim(), false, code.matches(".*\\b(copyOf|copyOfRange|clone|ArrayList|StringBuilder)\\b.*"));
        }
    }

    public static void main(String[] args) throws IOException, IllegalAccessException {
        List<String> lines = Files.readAllLines(Paths.get("README.md"), StandardCharsets.UTF_8);
        String readme = String.join("\n", lines) + "\n";
        example();
        exampleIsTheSame(lines);
        numbersOfTheExample(lines);
        namesEveryCall(readme);
        namesEveryTest(readme);
        room(readme);
        arraysOfTheSource();
        System.out.println(asked + " things of README.md, " + wrong + " of them wrong");
        if (wrong != 0) {
            System.exit(1);
        }
    }
}
