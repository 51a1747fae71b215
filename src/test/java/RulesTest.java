import java.lang.reflect.Constructor;
import java.lang.reflect.Field;
import java.lang.reflect.Method;
import java.lang.reflect.Modifier;
import java.nio.file.Files;
import java.nio.file.Path;
import java.util.ArrayList;
import java.util.List;
import java.util.Set;
import java.util.TreeSet;
import java.util.regex.Matcher;
import java.util.regex.Pattern;

/** The rules of LANGUAGE.md that can be looked at: the face, words that may not stand, lengths. */
public final class RulesTest {
  private static final Check C = new Check();

  public static void main(String[] args) throws Exception {
    String source = Files.readString(Path.of("src/main/java/NorthRoad.java"));
    face(Files.readString(Path.of("../shared/DOC.md")));
    names();
    words(source.replaceAll("(?s)/\\*.*?\\*/", " ").replaceAll("//[^\n]*", " "));
    lengths(source);
    promises();
    C.close();
  }

  private static void face(String doc) {
    Set<String> due = new TreeSet<>();
    Matcher m = Pattern.compile("public int (\\w+)\\(([^)]*)\\);").matcher(doc);
    while (m.find()) {
      due.add(m.group(1) + "(" + m.group(2).replaceAll(" \\w+(, |$)", ",").replaceAll("[^a-z,]", "") + ")");
    }
    Set<String> is = new TreeSet<>();
    for (Method method : NorthRoad.class.getDeclaredMethods()) {
      if (Modifier.isPublic(method.getModifiers())) {
        StringBuilder s = new StringBuilder(method.getName()).append('(');
        for (Class<?> p : method.getParameterTypes()) {
          s.append(p.getName()).append(',');
        }
        is.add(s.append(')').toString());
        C.due(method.getName() + " answers an int", method.getReturnType() == int.class);
      } else {
        C.due(method.getName() + " is private", Modifier.isPrivate(method.getModifiers()));
      }
    }
    C.due("methods of the document", due.size(), 74);
    C.due("the face: " + due + " is " + is, due.equals(is));
    C.due("the class is public and final", NorthRoad.class.getModifiers(), Modifier.PUBLIC | Modifier.FINAL);
    Constructor<?>[] made = NorthRoad.class.getDeclaredConstructors();
    C.due("constructors", made.length, 1);
    C.due("a public one", Modifier.isPublic(made[0].getModifiers()));
    for (Field f : NorthRoad.class.getDeclaredFields()) {
      C.due(f.getName(), Modifier.isPrivate(f.getModifiers()) || f.getName().equals("NONE"));
    }
  }

  private static void names() {
    Set<String> open = new TreeSet<>();
    for (Method m : NorthRoad.class.getDeclaredMethods()) {
      if (Modifier.isPublic(m.getModifiers())) {
        open.add(m.getName());
      }
    }
    List<Class<?>> all = new ArrayList<>(List.of(NorthRoad.class.getDeclaredClasses()));
    all.add(NorthRoad.class);
    C.due("classes", all.size() <= 12);
    for (Class<?> c : all) {
      int fields = 0;
      for (Method m : c.getDeclaredMethods()) {
        boolean own = Modifier.isPublic(m.getModifiers()) && c == NorthRoad.class;
        C.due("the name of " + c.getName() + "." + m.getName(), own || !open.contains(m.getName()));
        C.due("parameters of " + m.getName(), m.getParameterCount() <= 7);
      }
      for (Field f : c.getDeclaredFields()) {
        boolean constant = Modifier.isStatic(f.getModifiers());
        C.due("static " + f.getName(), !constant || Modifier.isFinal(f.getModifiers()) && f.getType() == int.class);
        fields += constant ? 0 : 1;
      }
      C.due("fields of " + c.getName(), fields <= 20);
      C.due("static " + c.getName(), c == NorthRoad.class || Modifier.isStatic(c.getModifiers()));
    }
  }

  private static void words(String code) {
    for (String word : new String[] {"throw", "throws", "try", "catch", "finally", "synchronized", "assert", "import",
      "package", "float", "double", "equals", "hashCode", "toString", "Object", "System\\.out", "var", "native"}) {
      C.due("'" + word + "' does not stand", !Pattern.compile("\\b" + word + "\\b").matcher(code).find());
    }
    C.due("no lambda", !code.contains("->"));
    C.due("no method reference", !code.contains("::"));
    C.due("no Exact function", !Pattern.compile("Exact\\b").matcher(code).find());
    Matcher used = Pattern.compile("\\b(Integer|Long|Math|Arrays|System|String|Character)\\.(\\w+)").matcher(code);
    Set<String> allowed = Set.of("Integer.bitCount", "Long.compare", "Math.abs", "Math.max", "Math.min",
        "System.arraycopy");
    while (used.find()) {
      C.due("the library's " + used.group(), allowed.contains(used.group()));
    }
    C.due("signs 1 to 127 alone", code.chars().allMatch(c -> c >= 1 && c <= 127));
  }

  /** The tests whose answers were worked out by hand label them by the number of the promise. */
  private static void promises() throws Exception {
    StringBuilder all = new StringBuilder();
    for (java.io.File file : Path.of("src/test/java").toFile().listFiles()) {
      if (file.getName().matches("(.*Edge|Promise)Test\\.java")) {
        all.append(Files.readString(file.toPath()));
      }
    }
    for (int promise = 1; promise <= 75; promise++) {
      C.due("promise " + promise + " has a test", all.indexOf("\"" + promise + " ") >= 0);
    }
  }

  /** Methods of the class stand 4 signs in, those of the classes inside it 8. */
  private static void lengths(String source) {
    String[] lines = source.split("\n");
    for (int i = 0; i < lines.length; i++) {
      if (lines[i].matches("( {4}| {8})[a-zA-Z][^=;]*\\) \\{") && !lines[i].matches(" *(if|for|while|switch|\\}).*")) {
        String close = lines[i].replaceAll("\\S.*", "") + "}";
        int k = i;
        while (k < lines.length && !lines[k].equals(close)) {
          k++;
        }
        C.due("lines of" + lines[i], k - i <= 60);
      }
      C.due("the length of line " + (i + 1), lines[i].length() <= 120);
    }
  }
}
