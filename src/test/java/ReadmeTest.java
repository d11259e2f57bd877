import java.io.IOException;
import java.lang.reflect.Method;
import java.lang.reflect.Modifier;
import java.net.URL;
import java.net.URLClassLoader;
import java.nio.file.Files;
import java.nio.file.Path;
import java.util.List;
import java.util.regex.Matcher;
import java.util.regex.Pattern;
import javax.tools.ToolProvider;

/** The example of README.md is compiled and run, and each answer that it tells is the one that the class gives. */
public final class ReadmeTest {
  // A call of the example, and behind it the answer that the page tells.
  private static final Pattern TOLD = Pattern.compile("^(m\\..*);\\s*// (-?\\d+): .*$");
  private static int looked;
  private static int wrong;

  public static void due(String line, int got, int want) {
    looked++;
    if (got != want) {
      wrong++;
      System.out.println("README: " + line + " answered " + got + ", the page tells " + want);
    }
  }

  public static void main(String[] args) throws Exception {
    String page = Files.readString(Path.of("README.md"));
    int lines = run(exampleOf(page));
    for (Method method : MarshLights.class.getDeclaredMethods()) {
      boolean named = page.contains("`" + method.getName() + "`");
      if (Modifier.isPublic(method.getModifiers())) due(method.getName() + " is named", named ? 1 : 0, 1);
    }
    for (String path : new String[] {".ci/run", "src/main/java/MarshLights.java", "../shared/tests", "../shared/DOC.md"}) {
      due(path + " is named and there", page.contains(path) && Files.exists(Path.of(path)) ? 1 : 0, 1);
    }
    try (var tests = Files.list(Path.of("src/test/java"))) {
      for (Path test : (Iterable<Path>) tests::iterator) {
        String name = test.getFileName().toString().replace(".java", "");
        due(name + " is named", page.contains("`" + name + "`") ? 1 : 0, 1);
      }
    }
    due("answers in the example", lines > 0 ? 1 : 0, 1);
    System.out.println(looked + " looked at, " + wrong + " wrong");
    if (wrong != 0) System.exit(1);
  }

  private static String exampleOf(String page) {
    int from = page.indexOf("```java\n") + 8;
    return page.substring(from, page.indexOf("```\n", from));
  }

  /** How many answers the example tells. */
  private static int run(String example) throws Exception {
    StringBuilder code = new StringBuilder("public final class Example {\n  public static void run() {\n");
    int told = 0;
    for (String line : example.split("\n")) {
      Matcher answer = TOLD.matcher(line);
      if (answer.matches()) {
        told++;
        code.append("ReadmeTest.due(\"").append(answer.group(1)).append("\", ").append(answer.group(1)).append(", ")
            .append(answer.group(2)).append(");\n");
      } else {
        code.append(line).append('\n');
      }
    }
    Path room = Files.createTempDirectory("readme");
    try {
      Path file = Files.writeString(room.resolve("Example.java"), code.append("  }\n}\n").toString());
      int failed = ToolProvider.getSystemJavaCompiler().run(null, null, null, "-cp", System.getProperty("java.class.path"),
          "-d", room.toString(), file.toString());
      due("compiling the example", failed, 0);
      if (failed == 0) {
        try (URLClassLoader loader = new URLClassLoader(new URL[] {room.toUri().toURL()})) {
          loader.loadClass("Example").getMethod("run").invoke(null);
        }
      }
    } finally {
      clear(room);
    }
    return told;
  }

  private static void clear(Path room) throws IOException {
    List<Path> files;
    try (var listed = Files.list(room)) {
      files = listed.toList();
    }
    for (Path file : files) Files.delete(file);
    Files.delete(room);
  }
}
