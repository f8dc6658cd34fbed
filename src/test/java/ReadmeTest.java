import java.io.ByteArrayOutputStream;
import java.io.File;
import java.io.IOException;
import java.io.PrintStream;
import java.lang.reflect.Method;
import java.lang.reflect.Modifier;
import java.net.URL;
import java.net.URLClassLoader;
import java.nio.file.Files;
import java.nio.file.Path;
import java.util.Set;
import java.util.TreeSet;
import java.util.regex.Matcher;
import java.util.regex.Pattern;
import javax.tools.ToolProvider;

/** README.md's program prints what README.md says, and each method is told there; run from the project's folder. */
public final class ReadmeTest {
    private static final Pattern METHOD = Pattern.compile("(?m)^- `(\\w+) (\\w+)\\(([^)]*)\\)`:");
    private static final String TICKS = "```";

    public static void main(String[] args) throws IOException, ReflectiveOperationException {
        String page = Files.readString(Path.of("README.md"));
        toldIsTheFace(page);
        String printed = printedBy(block(page, "java"));
        String due = block(page, "text");
        Check.yes("the program prints\n" + printed + "which is what README.md says", printed.equals(due));
        Check.end();
    }

    private static void toldIsTheFace(String page) {
        Set<String> told = new TreeSet<>();
        Matcher found = METHOD.matcher(page);
        while (found.find()) {
            String one = found.group(1) + " " + found.group(2) + " " + found.group(3).replaceAll(" \\w+(,|$)", "$1");
            Check.yes(one + " is told once", told.add(one));
        }
        Set<String> face = new TreeSet<>();
        for (Method m : GuestHouse.class.getDeclaredMethods()) {
            if (Modifier.isPublic(m.getModifiers())) {
                StringBuilder types = new StringBuilder();
                for (Class<?> type : m.getParameterTypes()) {
                    types.append(types.length() == 0 ? "" : ", ").append(type.getName());
                }
                face.add(m.getReturnType().getName() + " " + m.getName() + " " + types);
            }
        }
        Check.yes("told " + told + ", face " + face, told.equals(face));
    }

    private static String block(String page, String name) {
        int begin = page.indexOf(TICKS + name + "\n");
        int end = page.indexOf("\n" + TICKS, begin + 1);
        Check.yes("a part written as " + name, begin >= 0 && end > begin);
        return page.substring(page.indexOf('\n', begin) + 1, end + 1);
    }

    private static String printedBy(String program) throws IOException, ReflectiveOperationException {
        Path folder = Files.createTempDirectory("readme");
        Path source = folder.resolve("Stay.java");
        Path compiled = folder.resolve("Stay.class");
        PrintStream out = System.out;
        ByteArrayOutputStream kept = new ByteArrayOutputStream();
        try (URLClassLoader loader = new URLClassLoader(new URL[] {folder.toUri().toURL()})) {
            Files.writeString(source, program);
            String path = System.getProperty("java.class.path") + File.pathSeparator + folder;
            int code = ToolProvider.getSystemJavaCompiler().run(null, null, null,
                "-cp", path, "-d", folder.toString(), source.toString());
            Check.due("javac", code, 0);
            System.setOut(new PrintStream(kept));
            loader.loadClass("Stay").getMethod("main", String[].class).invoke(null, (Object) new String[0]);
        } finally {
            System.setOut(out);
            Files.deleteIfExists(compiled);
            Files.deleteIfExists(source);
            Files.deleteIfExists(folder);
        }
        return kept.toString().replace(System.lineSeparator(), "\n");
    }
}
