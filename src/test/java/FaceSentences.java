import java.io.IOException;
import java.nio.file.Files;
import java.nio.file.Path;

/** The public face: each line of it, and the head of each promise, as the class has it. */
final class FaceSentences extends TestKit {
  private static String source;

  static void all() throws IOException {
    source = Files.readString(Path.of("src/main/java/TreeDiffer.java"));
    asksForNothing("# TreeDiffer");
    asksForNothing("## What it is");
    asksForNothing("## The public face");
    asksForNothing("```java");
    asksForNothing("## Description");
    asksForNothing("The constants:");
    asksForNothing("The constructor and the methods follow, a promise each: the signature, then what it does.");
    int ofPromise = 1;
    for (String line : face()) {
      boolean isMethod = line.endsWith(");");
      sentence(isMethod ? ofPromise : 1, line);
      String written = isMethod ? line.replace(";", " {") : line;
      due("lines '" + written + "' of the class", times(written), 1);
      if (isMethod) headOf(ofPromise++, line);
    }
    due("promises of the face", ofPromise - 1, PROMISES);
    for (String group : new String[] {"texts", "trees", "matching", "the script", "the working tree", "slots, checksum"}) {
      asksForNothing("---- " + group);
    }
  }

  private static String[] face() {
    String start = "```java\n";
    int from = document().indexOf(start) + start.length();
    return document().substring(from, document().indexOf("\n}\n```", from)).split("\n *");
  }

  private static int times(String line) {
    int found = 0;
    for (String written : source.split("\n")) {
      if (written.trim().equals(line)) found++;
    }
    return found;
  }

  /** The title and the signature of a promise name the method that the face has in its place. */
  private static void headOf(int ofPromise, String line) {
    String signature = line.substring("public ".length(), line.length() - 1);
    String name = signature.substring(signature.indexOf(' ') + 1, signature.indexOf('('));
    sentence(ofPromise, title(ofPromise) + (ofPromise == 1 ? "A new object" : name) + "\n\n`" + signature + "`");
  }
}
