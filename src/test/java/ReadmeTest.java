import java.io.ByteArrayOutputStream;
import java.io.IOException;
import java.io.PrintStream;
import java.net.URL;
import java.net.URLClassLoader;
import java.nio.file.Files;
import java.nio.file.Path;
import java.util.Comparator;
import java.util.List;
import java.util.stream.Stream;
import javax.tools.ToolProvider;

/** The example in README.md compiles with the class, and prints what README.md says. */
public final class ReadmeTest {
    public static void main(String[] args) throws Exception {
        String readme = Files.readString(Path.of("README.md"));
        Path out = Files.createTempDirectory("readme");
        try {
            same(printed(block(readme, "java"), out), block(readme, "text"));
        } finally {
            remove(out);
        }
        Desk.end();
    }

    private static void same(String got, String want) {
        Desk.due("README.md's example printed\n" + got + "due is\n" + want, got.equals(want) ? 1 : 0, 1);
    }

    private static String block(String readme, String kind) {
        String begin = "```" + kind + "\n";
        int from = readme.indexOf(begin) + begin.length();
        return readme.substring(from, readme.indexOf("```", from));
    }

    private static String printed(String source, Path out) throws Exception {
        Path example = Files.writeString(out.resolve("Yours.java"), source);
        List<String> words = List.of("-d", out.toString(), "src/main/java/PascalDesk.java", example.toString());
        int code = ToolProvider.getSystemJavaCompiler().run(null, null, null, words.toArray(new String[0]));
        Desk.due("compiling README.md's example", code, 0);
        PrintStream before = System.out;
        ByteArrayOutputStream kept = new ByteArrayOutputStream();
        System.setOut(new PrintStream(kept));
        try (URLClassLoader loader = new URLClassLoader(new URL[] {out.toUri().toURL()})) {
            loader.loadClass("Yours").getMethod("main", String[].class).invoke(null, (Object) new String[0]);
        } finally {
            System.setOut(before);
        }
        return kept.toString().replace("\r\n", "\n");
    }

    private static void remove(Path directory) throws IOException {
        try (Stream<Path> all = Files.walk(directory)) {
            for (Path one : all.sorted(Comparator.reverseOrder()).toList()) {
                Files.delete(one);
            }
        }
    }
}
