import java.io.IOException;
import java.lang.reflect.Method;
import java.lang.reflect.Modifier;
import java.nio.charset.StandardCharsets;
import java.nio.file.DirectoryStream;
import java.nio.file.Files;
import java.nio.file.Path;
import java.util.ArrayList;
import java.util.List;
import java.util.Set;
import java.util.TreeSet;
import java.util.regex.Matcher;
import java.util.regex.Pattern;

/** What README.md says holds: it is followed word for word, and names each call of the face and each test. */
final class ReadmeTest {
    private static final Path README = Path.of("README.md"), EXAMPLE = Path.of("src/example/java/FirstCards.java");
    private static final Path TESTS = Path.of("src/test/java");
    // Running it here would run this test again, and so on.
    private static final String ALL_TESTS = ".ci/run\n";

    public static void main(String[] args) throws IOException, InterruptedException {
        String page = Files.readString(README);
        example(page);
        commands(page);
        calls(page);
        tests(page);
        promises();
        Due.end("ReadmeTest");
    }

    private static void example(String page) throws IOException {
        List<String> programs = blocks(page, "java");
        Due.is("README: one program", programs.size(), 1);
        Due.is("README: its program is " + EXAMPLE, programs.get(0).equals(Files.readString(EXAMPLE)) ? 1 : 0, 1);
    }

    private static List<String> blocks(String page, String kind) {
        List<String> all = new ArrayList<>();
        Matcher m = Pattern.compile("(?ms)^```" + kind + "\n(.*?)^```$").matcher(page);
        while (m.find()) {
            all.add(m.group(1));
        }
        return all;
    }

    /** Each block of commands runs well; what the first prints (it runs the example) stands on the page. */
    private static void commands(String page) throws IOException, InterruptedException {
        List<String> commands = blocks(page, "sh");
        Due.is("README: blocks of commands", commands.size(), 4);
        Due.is("README: " + ALL_TESTS.trim() + " is named", commands.remove(ALL_TESTS) ? 1 : 0, 1);
        Due.is("README: " + ALL_TESTS.trim() + " can be run", Files.isExecutable(Path.of(ALL_TESTS.trim())) ? 1 : 0, 1);
        List<String> printed = new ArrayList<>();
        for (String block : commands) {
            Process run = new ProcessBuilder("sh", "-e", "-c", block).redirectErrorStream(true).start();
            printed.add(new String(run.getInputStream().readAllBytes(), StandardCharsets.UTF_8));
            Due.is("README: " + block, run.waitFor(), 0);
        }
        List<String> due = blocks(page, "text");
        Due.is("README: one print", due.size(), 1);
        Due.is("README: the example prints " + printed.get(0), due.get(0).equals(printed.get(0)) ? 1 : 0, 1);
    }

    private static void calls(String page) {
        String uses = page.substring(0, page.indexOf("## How to run its tests"));
        Set<String> named = new TreeSet<>();
        Matcher rows = Pattern.compile("(?m)^\\| ((?:`\\w+` )+)\\| \\d+( to \\d+)? \\|").matcher(uses);
        while (rows.find()) {
            for (String name : rows.group(1).trim().split(" ")) {
                named.add(name.replace("`", ""));
            }
        }
        Set<String> face = new TreeSet<>();
        for (Method m : TenInDrawers.class.getDeclaredMethods()) {
            if (Modifier.isPublic(m.getModifiers())) {
                face.add(m.getName());
            }
        }
        Due.is("README: calls " + named + " / " + face, named.equals(face) ? 1 : 0, 1);
    }

    private static void tests(String page) throws IOException {
        Set<String> named = new TreeSet<>();
        Matcher rows = Pattern.compile("(?m)^\\| (\\w+Test) \\|").matcher(page);
        while (rows.find()) {
            named.add(rows.group(1) + ".java");
        }
        Set<String> there = new TreeSet<>();
        try (DirectoryStream<Path> files = Files.newDirectoryStream(TESTS, "*Test.java")) {
            for (Path file : files) {
                there.add(file.getFileName().toString());
            }
        }
        Due.is("README: tests " + named + " / " + there, named.equals(there) ? 1 : 0, 1);
    }

    /** A call that is asked of a promise is named by its number, as "7: .."; so each promise has one. */
    private static void promises() throws IOException {
        StringBuilder sources = new StringBuilder();
        try (DirectoryStream<Path> files = Files.newDirectoryStream(TESTS, "*.java")) {
            for (Path file : files) {
                sources.append(Files.readString(file));
            }
        }
        for (int promise = 1; promise <= 49; promise++) {
            Due.is("a test of promise " + promise, sources.indexOf("\"" + promise + ": ") >= 0 ? 1 : 0, 1);
        }
    }
}
