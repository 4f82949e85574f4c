import java.io.IOException;
import java.lang.reflect.Constructor;
import java.lang.reflect.Field;
import java.lang.reflect.Method;
import java.lang.reflect.Modifier;
import java.nio.charset.StandardCharsets;
import java.nio.file.Files;
import java.nio.file.Paths;
import java.util.Arrays;
import java.util.Set;
import java.util.TreeSet;

/** The face is the document's, and the source keeps to what of LANGUAGE.md its text can show. */
public final class FaceTest {
    private static final String[] METHODS = {
        "clear() void []",
        "coefficient(int,int) void [IllegalArgumentException]",
        "dictionary() int []",
        "entry(int,int,int) int []",
        "field(int,int,int) void [IllegalArgumentException]",
        "find(int) int [IllegalArgumentException, IllegalStateException]",
        "hand(int) int []",
        "join() int [IllegalArgumentException, IllegalStateException]",
        "left(int) int []",
        "times(int,int,int) int []",
    };
    private static final String[] WORDS = {
        "try", "catch", "finally", "synchronized", "assert", "package", "protected", "instanceof", "volatile", "native",
        "System.out", "System.err", "System.nanoTime", "System.currentTimeMillis", "Exact", "Random", "Thread", "->", "::", "double", "float",
    };

    private static int wrong = 0;

    private static void due(String what, Object want, Object got) {
        if (!want.equals(got)) {
            wrong++;
            System.out.println(what + ": " + got + ", due is " + want);
        }
    }

    private static String list(Class<?>[] classes) {
        StringBuilder all = new StringBuilder();
        for (Class<?> c : classes) {
            all.append(all.length() == 0 ? "" : ",").append(c.getSimpleName());
        }
        return all.toString();
    }

    private static void face() {
        Class<?> c = RemnantDictionary.class;
        due("the class", Modifier.PUBLIC | Modifier.FINAL, c.getModifiers());
        Set<String> methods = new TreeSet<>();
        Set<String> publicNames = new TreeSet<>();
        for (Method m : c.getDeclaredMethods()) {
            if (!Modifier.isPrivate(m.getModifiers())) {
                due(m.getName(), Modifier.PUBLIC, m.getModifiers());
                Set<String> thrown = new TreeSet<>();
                for (Class<?> e : m.getExceptionTypes()) {
                    thrown.add(e.getSimpleName());
                }
                methods.add(m.getName() + "(" + list(m.getParameterTypes()) + ") " + m.getReturnType() + " " + thrown);
                publicNames.add(m.getName());
            }
        }
        due("the methods", new TreeSet<>(Arrays.asList(METHODS)), methods);
        Constructor<?>[] constructors = c.getDeclaredConstructors();
        due("constructors", 1, constructors.length);
        due("the constructor's parameters", 0, constructors[0].getParameterCount());
        due("the constructor", Modifier.PUBLIC, constructors[0].getModifiers());
        fields(c);
        namesInside(c, publicNames);
    }

    private static void fields(Class<?> c) {
        for (Field f : c.getDeclaredFields()) {
            boolean isNone = f.getName().equals("NONE");
            int visible = f.getModifiers() & (Modifier.PUBLIC | Modifier.PROTECTED | Modifier.PRIVATE);
            due(f.getName(), isNone ? Modifier.PUBLIC : Modifier.PRIVATE, visible);
            due(f.getName() + " is final if static", false, Modifier.isStatic(f.getModifiers()) && !Modifier.isFinal(f.getModifiers()));
        }
        due("NONE is there", 1L, Arrays.stream(c.getFields()).filter(f -> f.toGenericString().equals("public static final int RemnantDictionary.NONE")).count());
        due("NONE", -1, RemnantDictionary.NONE);
    }

    private static void namesInside(Class<?> c, Set<String> publicNames) {
        for (Method m : c.getDeclaredMethods()) {
            if (Modifier.isPrivate(m.getModifiers())) {
                due("private " + m.getName() + " bears a public name", false, publicNames.contains(m.getName()));
            }
            due(m.getName() + " has at most seven parameters", true, m.getParameterCount() <= 7);
        }
        for (Class<?> inside : c.getDeclaredClasses()) {
            due(inside.getSimpleName(), Modifier.PRIVATE | Modifier.STATIC | Modifier.FINAL, inside.getModifiers());
            for (Method m : inside.getDeclaredMethods()) {
                due(inside.getSimpleName() + "." + m.getName() + " bears a public name", false, publicNames.contains(m.getName()));
                due(m.getName() + " has at most seven parameters", true, m.getParameterCount() <= 7);
            }
            due(inside.getSimpleName() + " has some twenty fields", true, inside.getDeclaredFields().length <= 20);
        }
    }

    private static void source() throws IOException {
        String path = "src/main/java/RemnantDictionary.java";
        String text = new String(Files.readAllBytes(Paths.get(path)), StandardCharsets.UTF_8);
        String code = text.replaceAll("(?s)/\\*.*?\\*/", "").replaceAll("//[^\n]*", "").replaceAll("\"[^\"]*\"", "\"\"");
        for (String word : WORDS) {
            boolean isName = Character.isLetter(word.charAt(0)) && !word.equals("Exact");
            String pattern = isName ? "(?s).*\\b" + word.replace(".", "\\.") + "\\b.*" : "(?s).*" + word + ".*";
            due("the source has " + word, false, code.matches(pattern));
        }
        for (String line : code.split("\n")) {
            if (line.startsWith("import ")) {
                due("an import", "import java.util.Arrays;", line);
            }
            if (line.contains("throw ")) {
                due("a throw in '" + line.trim() + "'", true, line.matches(".*throw new Illegal(Argument|State)Exception\\(\"\"\\);"));
            }
        }
        for (int i = 0; i < text.length(); i++) {
            due("character " + i + " is at most 255", true, text.charAt(i) <= 255);
        }
    }

    public static void main(String[] args) throws IOException {
        face();
        source();
        System.out.println(wrong == 0 ? "the face is as due" : wrong + " things are not as due");
        if (wrong != 0) {
            System.exit(1);
        }
    }
}
