import java.io.ByteArrayOutputStream;
import java.io.IOException;
import java.io.PrintStream;
import java.lang.reflect.Method;
import java.lang.reflect.Modifier;
import java.net.URL;
import java.net.URLClassLoader;
import java.nio.charset.StandardCharsets;
import java.nio.file.Files;
import java.nio.file.Path;
import java.util.Comparator;
import java.util.List;
import java.util.stream.Stream;
import javax.tools.ToolProvider;

/** What README.md says works as it stands: its program prints what it shows, and its table names each call. */
public final class ReadmeTest {
    private static int passed = 0;
    private static int failed = 0;

    private ReadmeTest() {
    }

    private static void due(String what, Object got, Object want) {
        if (got.equals(want)) {
            passed++;
        } else {
            failed++;
            System.out.println(what + ": " + got + ", due is " + want);
        }
    }

    public static void main(String[] args) throws Exception {
        String page = Files.readString(Path.of("README.md"), StandardCharsets.US_ASCII);
        Path folder = Files.createTempDirectory("readme");
        try {
            due("what the program prints", printed(block(page, "java"), Path.of(args[0]), folder),
                    block(page, "text"));
        } finally {
            remove(folder);
        }
        String table = page.substring(page.indexOf("| calls |"), page.indexOf("## Tests"));
        for (Method method : NightDiary.class.getDeclaredMethods()) {
            if (Modifier.isPublic(method.getModifiers())) {
                due(method.getName() + " is in the table", table.contains("`" + method.getName() + "`"), true);
            }
        }
        try (Stream<Path> tests = Files.list(Path.of("src/test/java"))) {
            for (Path test : tests.toList()) {
                String name = test.getFileName().toString().replace(".java", "");
                due(name + " is told", page.contains("- `" + name + "`: "), true);
            }
        }
        System.out.println(passed + " passed, " + failed + " failed");
        if (failed != 0) {
            System.exit(1);
        }
    }

    private static String block(String page, String kind) {
        String fence = "```" + kind + "\n";
        int start = page.indexOf(fence) + fence.length();
        return page.substring(start, page.indexOf("```", start));
    }

    private static String printed(String program, Path diary, Path folder) throws Exception {
        Path source = Files.writeString(folder.resolve("Night.java"), program);
        Path classes = Files.createDirectory(folder.resolve("out"));
        int code = ToolProvider.getSystemJavaCompiler().run(null, null, null, "-d", classes.toString(),
                diary.toString(), source.toString());
        due("the exit code of the compiler", code, 0);
        ByteArrayOutputStream bytes = new ByteArrayOutputStream();
        PrintStream before = System.out;
        // Without a parent that knows them, both classes are those that were just compiled.
        try (URLClassLoader loader = new URLClassLoader(new URL[] {classes.toUri().toURL()},
                ClassLoader.getPlatformClassLoader())) {
            Method main = loader.loadClass("Night").getMethod("main", String[].class);
            System.setOut(new PrintStream(bytes, true, StandardCharsets.US_ASCII));
            main.invoke(null, (Object) new String[0]);
        } finally {
            System.setOut(before);
        }
        return bytes.toString(StandardCharsets.US_ASCII).replace("\r\n", "\n");
    }

    private static void remove(Path folder) throws IOException {
        try (Stream<Path> all = Files.walk(folder)) {
            List<Path> paths = all.sorted(Comparator.reverseOrder()).toList();
            for (Path path : paths) {
                Files.delete(path);
            }
        }
    }
}
