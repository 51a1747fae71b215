import java.io.File;
import java.lang.reflect.Method;
import java.lang.reflect.Modifier;
import java.net.URL;
import java.net.URLClassLoader;
import java.nio.file.Files;
import java.nio.file.Path;
import java.util.TreeSet;
import java.util.Set;
import java.util.regex.Matcher;
import java.util.regex.Pattern;
import javax.tools.ToolProvider;

/** README.md tells how the class is used: its program is compiled and held against what it says. */
public final class ReadmeTest {
  private static final Check C = new Check();
  private static int held = 0;

  public static void main(String[] args) throws Exception {
    String page = Files.readString(Path.of("README.md"));
    example(page);
    calls(page);
    tests(page);
    C.close();
  }

  /** The program of the page calls it in place of each call that has its answer behind it. */
  public static void due(String call, int got, int want) {
    held++;
    C.due("README: " + call, got, want);
  }

  private static void example(String page) throws Exception {
    Matcher block = Pattern.compile("(?s)```java\n(.*?)```").matcher(page);
    C.due("a program stands on the page", block.find());
    String program = block.group(1);
    String asked = program.replaceAll("(?m)^ *(x\\.\\w+\\([^)\n]*\\)); *// (-?\\d+).*$", "ReadmeTest.due(\"$1\", $1, $2);");
    Path folder = Files.createTempDirectory("readme");
    Path file = folder.resolve("Example.java");
    Files.writeString(file, asked);
    String path = System.getProperty("java.class.path");
    int failed = ToolProvider.getSystemJavaCompiler().run(null, null, null, "-cp", path, "-d", folder.toString(),
        file.toString());
    C.due("the program compiles", failed, 0);
    try (URLClassLoader loader = new URLClassLoader(new URL[] {folder.toUri().toURL()})) {
      loader.loadClass("Example").getMethod("main", String[].class).invoke(null, (Object) new String[0]);
    }
    int told = program.split("// -?\\d").length - 1;
    C.due("each answer told is held", held, told);
    C.due("answers told", told > 30);
    for (File made : folder.toFile().listFiles()) {
      Files.delete(made.toPath());
    }
    Files.delete(folder);
  }

  /** Each call stands in the table once, behind its promise's number. */
  private static void calls(String page) throws Exception {
    String doc = Files.readString(Path.of("../shared/DOC.md"));
    Set<String> told = new TreeSet<>();
    for (Method m : NorthRoad.class.getDeclaredMethods()) {
      if (Modifier.isPublic(m.getModifiers())) {
        Matcher promise = Pattern.compile("## Promise (\\d+): " + m.getName() + "\n").matcher(doc);
        C.due("a promise of " + m.getName(), promise.find());
        int rows = 0;
        for (String line : page.split("\n")) {
          if (line.startsWith("| ") && line.split("\\|").length == 4 && line.split("\\|")[2].contains("`" + m.getName() + "`")) {
            rows++;
            C.due("README tells the promise of " + m.getName(), covers(line.split("\\|")[3], Integer.parseInt(promise.group(1))));
          }
        }
        C.due("README's table has " + m.getName(), rows, 1);
        told.add(m.getName());
      }
    }
    C.due("calls", told.size(), 74);
  }

  /** Whether a list as '8 to 14, 29' has a number. */
  private static boolean covers(String list, int number) {
    for (String part : list.trim().split(", ")) {
      String[] ends = part.split(" to ");
      if (Integer.parseInt(ends[0]) <= number && number <= Integer.parseInt(ends[ends.length - 1])) {
        return true;
      }
    }
    return false;
  }

  private static void tests(String page) {
    C.due("the command", page.contains("\n.ci/run\n") && new File(".ci/run").canExecute());
    for (File file : new File("src/test/java").listFiles()) {
      String name = file.getName().replace(".java", "");
      C.due("README tells of " + name, !name.endsWith("Test") || page.contains("\n| `" + name + "` | "));
    }
    for (Class<?> inside : NorthRoad.class.getDeclaredClasses()) {
      C.due("README tells of " + inside.getSimpleName(), page.contains("\n| `" + inside.getSimpleName() + "` | "));
    }
  }
}
