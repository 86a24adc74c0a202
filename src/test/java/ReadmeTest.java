import java.io.IOException;
import java.net.URL;
import java.net.URLClassLoader;
import java.nio.file.Files;
import java.nio.file.Path;
import java.util.regex.Matcher;
import java.util.regex.Pattern;
import java.util.stream.Stream;
import javax.tools.ToolProvider;

/** The example of README.md, taken from there: each call is to answer what stands behind it. */
public final class ReadmeTest {
  private static int wrong = 0;
  private static int answers = 0;

  public static void due(String call, Object got, String want) {
    answers++;
    if (!got.toString().equals(want)) { wrong++; System.out.println("README: " + call + " answered " + got + ", it says " + want); }
  }

  public static void main(String[] args) throws Exception {
    Matcher blocks = Pattern.compile("(?s)```java\\n(.*?)```").matcher(Files.readString(Path.of("README.md")));
    StringBuilder source = new StringBuilder("public final class Example {\n");
    if (blocks.find()) source.append(blocks.group(1));
    source.append("public static void main(String[] args) {\n");
    if (blocks.find()) {
      for (String line : blocks.group(1).split("\n")) source.append(asked(line)).append('\n');
    }
    run(source.append("}\n}\n").toString());
    if (answers < 20) { wrong++; System.out.println("README: " + answers + " answers only"); }
    System.out.println(wrong == 0 ? "README's example is as it says" : wrong + " answers are not as it says");
    if (wrong != 0) System.exit(1);
  }

  /** A call with its answer behind it is asked and compared; other lines stay. */
  private static String asked(String line) {
    Matcher m = Pattern.compile("(pike\\..*\\)); +// (-?\\w+).*").matcher(line);
    return m.matches() ? "ReadmeTest.due(\"" + m.group(1) + "\", " + m.group(1) + ", \"" + m.group(2) + "\");" : line;
  }

  private static void run(String source) throws Exception {
    Path dir = Files.createTempDirectory("readme");
    try {
      Path file = Files.writeString(dir.resolve("Example.java"), source);
      String classes = System.getProperty("java.class.path");
      int failed = ToolProvider.getSystemJavaCompiler().run(null, null, null, "-cp", classes, "-d", dir.toString(), file.toString());
      if (failed != 0) { wrong++; System.out.println("README: its example does not compile"); return; }
      try (URLClassLoader loader = new URLClassLoader(new URL[] {dir.toUri().toURL()})) {
        loader.loadClass("Example").getMethod("main", String[].class).invoke(null, (Object) new String[0]);
      }
    } finally {
      clear(dir);
    }
  }

  private static void clear(Path dir) throws IOException {
    try (Stream<Path> files = Files.list(dir)) {
      for (Path file : (Iterable<Path>) files::iterator) Files.delete(file);
    }
    Files.delete(dir);
  }
}
