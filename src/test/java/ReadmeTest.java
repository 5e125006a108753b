import java.io.ByteArrayOutputStream;
import java.io.IOException;
import java.io.PrintStream;
import java.lang.reflect.Method;
import java.lang.reflect.Modifier;
import java.net.URL;
import java.net.URLClassLoader;
import java.nio.file.Files;
import java.nio.file.Path;
import javax.tools.ToolProvider;

/** README.md: its program prints what is told there, and its tables have each call and each test. */
public final class ReadmeTest {
    private static final Check check = new Check("ReadmeTest");

    public static void main(String[] args) throws IOException, ReflectiveOperationException {
        String readme = Files.readString(Path.of("README.md"));
        theProgramPrintsWhatIsTold(readme);
        eachCallHasARow(readme);
        eachTestHasARow(readme);
        check.end();
    }

    private static String block(String readme, String kind) {
        int begin = readme.indexOf("```" + kind + "\n");
        int end = readme.indexOf("\n```", begin + 1);
        if (begin < 0 || end < 0) return "";
        return readme.substring(begin + kind.length() + 4, end + 1);
    }

    private static void theProgramPrintsWhatIsTold(String readme) throws IOException, ReflectiveOperationException {
        String printed = printedBy(block(readme, "java"));
        boolean same = printed.equals(block(readme, "text"));
        check.due("the program of README.md, which printed\n" + printed, same ? 1 : 0, 1);
    }

    private static String printedBy(String program) throws IOException, ReflectiveOperationException {
        Path folder = Files.createTempDirectory("readme");
        Path source = folder.resolve("Example.java");
        Files.writeString(source, program);
        String classes = System.getProperty("java.class.path");
        int failed = ToolProvider.getSystemJavaCompiler().run(null, null, null,
            "-cp", classes, "-d", folder.toString(), source.toString());
        String printed = failed == 0 ? runMain(folder) : "nothing: it does not compile";
        for (String file : new String[] {"Example.class", "Example.java"}) Files.deleteIfExists(folder.resolve(file));
        Files.delete(folder);
        return printed;
    }

    private static String runMain(Path folder) throws IOException, ReflectiveOperationException {
        PrintStream usual = System.out;
        ByteArrayOutputStream printed = new ByteArrayOutputStream();
        try (URLClassLoader loader = new URLClassLoader(new URL[] {folder.toUri().toURL()})) {
            Method main = loader.loadClass("Example").getMethod("main", String[].class);
            System.setOut(new PrintStream(printed, true));
            main.invoke(null, (Object) new String[0]);
        } finally {
            System.setOut(usual);
        }
        return printed.toString().replace(System.lineSeparator(), "\n");
    }

    private static void eachCallHasARow(String readme) {
        for (Method m : GivenGoesOn.class.getDeclaredMethods()) {
            if (!Modifier.isPublic(m.getModifiers())) continue;
            int row = readme.indexOf("\n| `" + m.getName() + "(");
            check.due("README.md has a row of " + m.getName(), row < 0 ? 0 : 1, 1);
            if (row < 0) continue;
            String told = readme.substring(readme.indexOf('(', row) + 1, readme.indexOf(')', row));
            int arguments = told.isEmpty() ? 0 : told.split(", ").length;
            check.due("arguments of " + m.getName() + " in README.md", arguments, m.getParameterCount());
        }
    }

    private static void eachTestHasARow(String readme) throws IOException {
        try (var files = Files.list(Path.of("src/test/java"))) {
            for (Path file : files.toList()) {
                String name = file.getFileName().toString().replace(".java", "");
                if (!name.endsWith("Test")) continue;
                check.due("README.md has a row of " + name, readme.contains("\n| " + name + " |") ? 1 : 0, 1);
            }
        }
    }
}
