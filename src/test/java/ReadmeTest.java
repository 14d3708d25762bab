import java.io.ByteArrayOutputStream;
import java.io.IOException;
import java.io.PrintStream;
import java.lang.reflect.Field;
import java.lang.reflect.Method;
import java.lang.reflect.Modifier;
import java.net.URL;
import java.net.URLClassLoader;
import java.nio.charset.StandardCharsets;
import java.nio.file.Files;
import java.nio.file.Path;
import java.util.List;
import java.util.stream.Collectors;
import java.util.stream.Stream;
import javax.tools.ToolProvider;

/** README.md: its program does what the page says, and the page leaves nothing of the face out. */
public final class ReadmeTest extends TestKit {
  private static String page;

  public static void main(String[] args) throws Exception {
    page = Files.readString(Path.of("README.md"));
    everyMemberIsNamed();
    everyTestIsNamed();
    dueText("the program of README.md", printedBy(block("java")), block("text"));
    end();
  }

  private static void named(String words) {
    due("'" + words + "' in README.md", page.contains(words) ? 1 : 0, 1);
  }

  private static void everyMemberIsNamed() {
    for (Method m : TreeDiffer.class.getDeclaredMethods()) {
      if (Modifier.isPublic(m.getModifiers())) named("`" + m.getName() + "(");
    }
    for (Field f : TreeDiffer.class.getDeclaredFields()) {
      if (Modifier.isPublic(f.getModifiers())) named("`" + f.getName() + "`");
    }
    named("new TreeDiffer()");
  }

  private static void everyTestIsNamed() throws IOException {
    named("    .ci/run\n");
    named("../shared/tests");
    for (String test : files("src/test/java")) {
      String name = test.replace(".java", "");
      named(name.endsWith("Boundaries") ? "*Boundaries.java" : "`" + name + "`");
    }
  }

  private static List<String> files(String directory) throws IOException {
    try (Stream<Path> found = Files.list(Path.of(directory))) {
      return found.map(p -> p.getFileName().toString()).sorted().collect(Collectors.toList());
    }
  }

  private static String block(String language) {
    String start = "```" + language + "\n";
    int from = page.indexOf(start) + start.length();
    return page.substring(from, page.indexOf("```", from));
  }

  private static String printedBy(String program) throws Exception {
    Path build = Files.createTempDirectory("readme");
    Path file = build.resolve("Example.java");
    try {
      Files.writeString(file, "public class Example { public static void main(String[] args) {\n" + program + "}}\n");
      String classes = System.getProperty("java.class.path");
      int code = ToolProvider.getSystemJavaCompiler()
          .run(null, null, null, "-cp", classes, "-d", build.toString(), file.toString());
      return code == 0 ? run(build) : "a fault of the compiler";
    } finally {
      for (String made : files(build.toString())) Files.delete(build.resolve(made));
      Files.delete(build);
    }
  }

  private static String run(Path build) throws Exception {
    ByteArrayOutputStream bytes = new ByteArrayOutputStream();
    PrintStream before = System.out;
    try (URLClassLoader loader = new URLClassLoader(new URL[] {build.toUri().toURL()});
        PrintStream caught = new PrintStream(bytes, true, StandardCharsets.UTF_8)) {
      System.setOut(caught);
      loader.loadClass("Example").getMethod("main", String[].class).invoke(null, (Object) new String[0]);
    } finally {
      System.setOut(before);
    }
    return bytes.toString(StandardCharsets.UTF_8).replace(System.lineSeparator(), "\n");
  }
}
