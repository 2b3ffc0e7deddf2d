import java.io.ByteArrayOutputStream;
import java.io.IOException;
import java.io.PrintStream;
import java.lang.reflect.Method;
import java.net.URL;
import java.net.URLClassLoader;
import java.nio.charset.StandardCharsets;
import java.nio.file.Files;
import java.nio.file.Path;
import java.util.ArrayList;
import java.util.List;
import java.util.Set;
import java.util.TreeSet;
import java.util.regex.Matcher;
import java.util.regex.Pattern;
import javax.tools.ToolProvider;

/** Compiles and runs the program of README.md, and asks that it prints what README.md says and that no call is left out. */
public final class ReadmeTest {
    private static final Testing T = new Testing("ReadmeTest");

    public static void main(String[] args) throws Exception {
        String readme = Files.readString(Path.of("README.md"));
        List<String> program = blocksOf(readme, "java");
        List<String> printed = blocksOf(readme, "text");
        T.due("the programs", program.size(), 1);
        T.due("the texts that they print", printed.size(), 1);
        Path folder = Files.createTempDirectory("readme");
        try {
            T.due("what the program prints", outputOf(folder, program.get(0)), printed.get(0));
        } finally {
            delete(folder);
        }
        everyCallIsNamed(readme.substring(readme.indexOf("### The calls")));
        T.end();
    }

    private static List<String> blocksOf(String readme, String kind) {
        List<String> blocks = new ArrayList<>();
        Matcher block = Pattern.compile("^```" + kind + "\n(.*?)^```$", Pattern.MULTILINE | Pattern.DOTALL).matcher(readme);
        while (block.find()) {
            blocks.add(block.group(1));
        }
        return blocks;
    }

    private static String outputOf(Path folder, String program) throws Exception {
        Path file = Files.writeString(folder.resolve("Example.java"), program);
        String classes = System.getProperty("java.class.path");
        int faults = ToolProvider.getSystemJavaCompiler().run(null, System.out, System.out,
            "-cp", classes, "-d", folder.toString(), file.toString());
        T.due("the compiler's answer", faults, 0);
        ByteArrayOutputStream bytes = new ByteArrayOutputStream();
        PrintStream usual = System.out;
        try (URLClassLoader loader = new URLClassLoader(new URL[] {folder.toUri().toURL()})) {
            System.setOut(new PrintStream(bytes, true, StandardCharsets.UTF_8));
            loader.loadClass("Example").getMethod("main", String[].class).invoke(null, (Object) new String[0]);
        } finally {
            System.setOut(usual);
        }
        return bytes.toString(StandardCharsets.UTF_8).replace(System.lineSeparator(), "\n");
    }

    private static void delete(Path folder) throws IOException {
        for (String name : folder.toFile().list()) {
            Files.delete(folder.resolve(name));
        }
        Files.delete(folder);
    }

    private static void everyCallIsNamed(String text) {
        Set<String> calls = new TreeSet<>();
        for (Method method : PenOffice.class.getMethods()) {
            if (method.getDeclaringClass() == PenOffice.class) {
                calls.add(method.getName());
            }
        }
        for (String call : calls) {
            T.due(call + " stands in README.md", text.contains("`" + call + "`"), true);
        }
    }
}
