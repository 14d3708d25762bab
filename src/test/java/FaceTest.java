import java.io.IOException;
import java.lang.reflect.Constructor;
import java.lang.reflect.Field;
import java.lang.reflect.Method;
import java.lang.reflect.Modifier;
import java.nio.file.Files;
import java.nio.file.Path;
import java.util.Set;
import java.util.TreeSet;

/** The face of the class, and those rules of LANGUAGE.md that can be seen from outside. */
public final class FaceTest {
  private static int wrong = 0;

  private static final String METHODS = "append(int) clearText() faultPosition() faultDepth() read(int) exchange() "
      + "nodes(int) node(int,int,int) child(int,int,int) equal(int,int) setMatching(int,int) pairs() partner(int,int) "
      + "phase(int) likeness(int,int) steps() step(int,int) count(int) distance() start() stepOn() stepBack() "
      + "workingChild(int,int) workingNode(int,int) print(int) printed(int) save(int) restore(int) checksum()";
  private static final String CONSTANTS = "BAD_INDEX=-11 BAD_VALUE=-12 NOT_POSSIBLE=-13 FULL=-14 NONE=-15 "
      + "UPDATE=0 INSERT=1 MOVE=2 DELETE=3";
  private static final String[] FORBIDDEN = {"throw", "try", "catch", "synchronized", "assert", "import", "package",
      "finally", "native", "volatile", "transient", "System", "Thread", "Random", "float", "double"};

  public static void main(String[] args) throws Exception {
    methods();
    constants();
    rest();
    words();
    System.out.println(wrong == 0 ? "the face is as due" : wrong + " faults of the face");
    if (wrong != 0) System.exit(1);
  }

  private static void check(boolean holds, String what) {
    if (!holds) {
      wrong++;
      System.out.println("the face: " + what);
    }
  }

  private static void methods() {
    Set<String> found = new TreeSet<>();
    Set<String> open = new TreeSet<>();
    for (Method m : TreeDiffer.class.getDeclaredMethods()) {
      if (m.isSynthetic() || Modifier.isPrivate(m.getModifiers())) continue;
      StringBuilder b = new StringBuilder(m.getName()).append('(');
      for (Class<?> p : m.getParameterTypes()) b.append(b.charAt(b.length() - 1) == '(' ? "" : ",").append(p);
      found.add(b.append(')').toString());
      open.add(m.getName());
      check(Modifier.isPublic(m.getModifiers()) && !Modifier.isStatic(m.getModifiers()), b + " is not public");
      check(m.getReturnType() == (m.getName().equals("checksum") ? long.class : int.class), b + " returns another type");
    }
    check(found.equals(new TreeSet<>(Set.of(METHODS.split(" ")))), "methods " + found);
    for (Method m : TreeDiffer.class.getDeclaredMethods()) {
      check(!Modifier.isPrivate(m.getModifiers()) || !open.contains(m.getName()), m + " bears a public name");
      check(m.getParameterCount() <= 7, m + " has too many parameters");
    }
    for (Class<?> c : TreeDiffer.class.getDeclaredClasses()) {
      for (Method m : c.getDeclaredMethods()) {
        check(!open.contains(m.getName()), m + " bears a public name");
        check(m.getParameterCount() <= 7, m + " has too many parameters");
      }
    }
  }

  private static void constants() throws IllegalAccessException {
    Set<String> found = new TreeSet<>();
    for (Field f : TreeDiffer.class.getDeclaredFields()) {
      int how = f.getModifiers();
      check(!Modifier.isStatic(how) || Modifier.isFinal(how), f + " is not final");
      if (Modifier.isPrivate(how)) continue;
      check(Modifier.isPublic(how) && Modifier.isStatic(how) && f.getType() == int.class, f + " is no constant");
      found.add(f.getName() + "=" + f.getInt(null));
    }
    check(found.equals(new TreeSet<>(Set.of(CONSTANTS.split(" ")))), "constants " + found);
  }

  private static void rest() {
    int how = TreeDiffer.class.getModifiers();
    check(Modifier.isPublic(how) && Modifier.isFinal(how), "the class is not public and final");
    Constructor<?>[] made = TreeDiffer.class.getDeclaredConstructors();
    check(made.length == 1 && made[0].getParameterCount() == 0 && Modifier.isPublic(made[0].getModifiers()), "constructors");
    check(TreeDiffer.class.getDeclaredClasses().length <= 11, "too many classes");
    for (Class<?> c : TreeDiffer.class.getDeclaredClasses()) {
      check(Modifier.isStatic(c.getModifiers()) && !Modifier.isPublic(c.getModifiers()), c + " is not static or is public");
    }
  }

  private static void words() throws IOException {
    String source = Files.readString(Path.of("src/main/java/TreeDiffer.java"));
    String code = source.replaceAll("(?s)/\\*.*?\\*/", "").replaceAll("//[^\n]*", "");
    for (String word : FORBIDDEN) check(!code.matches("(?s).*\\b" + word + "\\b.*"), "the word " + word);
    check(!code.contains("->") && !code.contains("::"), "a lambda or a method reference");
    check(source.chars().allMatch(c -> c < 128), "a sign beyond 127");
  }
}
