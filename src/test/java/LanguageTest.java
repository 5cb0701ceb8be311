import java.io.IOException;
import java.lang.reflect.Constructor;
import java.lang.reflect.Field;
import java.lang.reflect.Method;
import java.lang.reflect.Modifier;
import java.nio.charset.StandardCharsets;
import java.nio.file.Files;
import java.nio.file.Path;
import java.util.ArrayList;
import java.util.List;
import java.util.Set;
import java.util.TreeSet;
import java.util.regex.Matcher;
import java.util.regex.Pattern;

/** The face of the document, and those rules of ../shared/LANGUAGE.md that a reader without a compiler can see. */
final class LanguageTest {
    private static final Path SOURCE = Path.of("src/main/java/TenInDrawers.java");
    private static final Path DOCUMENT = Path.of("../shared/DOC.md");

    public static void main(String[] args) throws IOException {
        face();
        names();
        classes();
        code();
        lengths();
        Due.end("LanguageTest");
    }

    private static void face() throws IOException {
        Set<String> due = new TreeSet<>();
        String all = Files.readString(DOCUMENT);
        String block = all.substring(all.indexOf("```java") + 7, all.indexOf("```", all.indexOf("```java") + 7));
        Matcher m = Pattern.compile("public (int|long) (\\w+)\\(([^)]*)\\);").matcher(block);
        while (m.find()) {
            due.add(m.group(1) + " " + m.group(2) + "(" + m.group(3).replaceAll(" ?(int|long) \\w+", "$1") + ")");
        }
        Set<String> got = new TreeSet<>();
        for (Method method : TenInDrawers.class.getDeclaredMethods()) {
            if (!Modifier.isPrivate(method.getModifiers())) {
                Due.is(method + " is public and nothing else", method.getModifiers(), Modifier.PUBLIC);
                List<String> types = new ArrayList<>();
                for (Class<?> t : method.getParameterTypes()) {
                    types.add(t.getName());
                }
                got.add(method.getReturnType() + " " + method.getName() + "(" + String.join(",", types) + ")");
            }
        }
        Due.is("face " + due + " / " + got, due.equals(got) ? 1 : 0, 1);
        Due.is("48 methods", got.size(), 48);
        Set<String> constants = new TreeSet<>();
        for (Field field : TenInDrawers.class.getDeclaredFields()) {
            if (!Modifier.isPrivate(field.getModifiers())) {
                constants.add(field.getName() + " " + field.getType() + " " + Modifier.toString(field.getModifiers()));
            }
        }
        Due.is("constants " + constants, constants.size(), 5);
        for (String name : new String[] {"BAD", "NOT", "FULL", "STATE", "VOID"}) {
            Due.is(name, constants.contains(name + " int public static final") ? 1 : 0, 1);
        }
        Constructor<?>[] made = TenInDrawers.class.getDeclaredConstructors();
        Due.is("one constructor", made.length, 1);
        Due.is("public", made[0].getModifiers(), Modifier.PUBLIC);
        Due.is("of nothing", made[0].getParameterCount(), 0);
        Due.is("public and final", TenInDrawers.class.getModifiers(), Modifier.PUBLIC | Modifier.FINAL);
    }

    private static void names() {
        Set<String> face = new TreeSet<>();
        for (Method m : TenInDrawers.class.getMethods()) {
            face.add(m.getName());
        }
        List<Class<?>> all = new ArrayList<>(List.of(TenInDrawers.class.getDeclaredClasses()));
        all.add(TenInDrawers.class);
        for (Class<?> c : all) {
            for (Method m : c.getDeclaredMethods()) {
                boolean own = c == TenInDrawers.class && Modifier.isPublic(m.getModifiers());
                Due.is(c + ": " + m.getName() + " is a name of the face", !own && face.contains(m.getName()) ? 1 : 0, 0);
                Due.is(m + ": parameters", Math.max(7, m.getParameterCount()), 7);
            }
        }
    }

    private static void classes() {
        Class<?>[] inside = TenInDrawers.class.getDeclaredClasses();
        Due.is("at most 12 classes", Math.max(12, inside.length + 1), 12);
        for (Class<?> c : inside) {
            Due.is(c + " is private and static", c.getModifiers() & 15, Modifier.PRIVATE | Modifier.STATIC);
            int fields = 0;
            for (Field f : c.getDeclaredFields()) {
                fields += Modifier.isStatic(f.getModifiers()) ? 0 : 1;
                boolean loose = Modifier.isStatic(f.getModifiers()) && !Modifier.isFinal(f.getModifiers());
                Due.is(f + " is static and not final", loose ? 1 : 0, 0);
            }
            Due.is(c + ": fields", Math.max(20, fields), 20);
        }
    }

    private static String withoutComments() throws IOException {
        String text = Files.readString(SOURCE, StandardCharsets.ISO_8859_1);
        return text.replaceAll("(?s)/\\*.*?\\*/", " ").replaceAll("//[^\n]*", " ");
    }

    private static void code() throws IOException {
        String code = withoutComments();
        String[] words = {"throw", "throws", "try", "catch", "finally", "synchronized", "assert", "import", "package", "native",
            "volatile", "transient", "Object", "equals", "hashCode", "toString", "String", "List", "ArrayList", "double", "float"};
        for (String w : words) {
            Due.is("the word " + w, Pattern.compile("\\b" + w + "\\b").matcher(code).find() ? 1 : 0, 0);
        }
        Due.is("lambdas", code.contains("->") || code.contains("::") ? 1 : 0, 0);
        Due.is("Exact", code.contains("Exact") ? 1 : 0, 0);
        Due.is("other signs", code.chars().anyMatch(c -> c > 126 || c < 32 && c != '\n') ? 1 : 0, 0);
        Matcher library = Pattern.compile("\\b(System|Math|Integer|Long|Arrays|Character)\\.(\\w+)").matcher(code);
        Set<String> allowed = Set.of("System.arraycopy", "Math.abs", "Math.min", "Math.max", "Integer.bitCount", "Long.MIN_VALUE");
        while (library.find()) {
            Due.is(library.group() + " of the library", allowed.contains(library.group()) ? 1 : 0, 1);
        }
        Matcher made = Pattern.compile("\\bnew (\\w+)").matcher(code);
        int news = 0;
        while (made.find()) {
            news++;
        }
        // All that is made is made in constructors and in fields: as many places as there are such rows.
        Matcher fields = Pattern.compile("(final \\w+(\\[\\])+ \\w+ = new|(?m)^        \\w+ = new) ").matcher(code);
        int held = 0;
        while (fields.find()) {
            held++;
        }
        Due.is("nothing is made by a call", news, held);
    }

    private static void lengths() throws IOException {
        String[] lines = Files.readString(SOURCE).split("\n");
        int start = -1;
        for (int i = 0; i < lines.length; i++) {
            boolean inner = lines[i].startsWith("        ") && !lines[i].startsWith("         ");
            boolean outer = lines[i].startsWith("    ") && !lines[i].startsWith("     ");
            if ((inner || outer) && lines[i].endsWith(") {")) {
                start = i;
            }
            if ((inner || outer) && lines[i].trim().equals("}") && start >= 0) {
                Due.is("line " + (start + 1) + ": too long a method", Math.max(60, i - start), 60);
            }
            Due.is("line " + (i + 1) + ": too long", Math.max(140, lines[i].length()), 140);
        }
    }
}
