import java.lang.reflect.Method;
import java.nio.file.Files;
import java.nio.file.Path;
import java.util.ArrayList;
import java.util.List;
import java.util.regex.Matcher;
import java.util.regex.Pattern;

/** README.md is true: its calls answer what stands behind them, and it has a row for every test. */
public final class ReadmeTest {
  private static final Pattern CALL = Pattern.compile("^ {4}x\\.(\\w+)\\((.*)\\);\\s+// (-?\\d+)(:.*)?$");

  private ReadmeTest() {}

  public static void main(String[] args) throws Exception {
    Path readme = Path.of(System.getProperty("readme", "README.md"));
    List<String> lines = Files.readAllLines(readme);
    calls(lines);
    tests(String.join("\n", lines), readme.toAbsolutePath().getParent());
    Check.end("ReadmeTest");
  }

  private static void calls(List<String> lines) throws Exception {
    Check.about("README's calls");
    ApronStrings x = new ApronStrings();
    int many = 0;
    for (String line : lines) {
      if (!line.startsWith("    x.")) continue;
      Matcher m = CALL.matcher(line);
      boolean told = m.matches();
      Check.due("its answer is told: " + line.trim(), told ? 1 : 0, 1);
      if (!told) continue;
      Check.due(line.trim(), answer(x, m.group(1), m.group(2)), Long.parseLong(m.group(3)));
      many++;
    }
    Check.due("there are some", many > 20 ? 1 : 0, 1);
  }

  private static int answer(ApronStrings x, String name, String inBrackets) throws Exception {
    String[] words = inBrackets.isBlank() ? new String[0] : inBrackets.split(",");
    for (Method method : ApronStrings.class.getMethods()) {
      Class<?>[] types = method.getParameterTypes();
      if (!method.getName().equals(name) || types.length != words.length) continue;
      List<Object> given = new ArrayList<>();
      for (int i = 0; i < types.length; i++) {
        long v = Long.decode(words[i].trim().replace("L", ""));
        if (types[i] == long.class) given.add(v);
        else given.add((int) v);
      }
      return (Integer) method.invoke(x, given.toArray());
    }
    throw new IllegalArgumentException("no such call: " + name);
  }

  private static void tests(String text, Path root) throws Exception {
    Check.about("README's table of tests");
    try (var all = Files.list(root.resolve("src/test/java"))) {
      for (Path file : all.sorted().toList()) {
        String name = file.getFileName().toString().replace(".java", "");
        if (!name.endsWith("Test")) continue;
        boolean has = Pattern.compile("(?m)^\\|[^|]*\\b" + name + "\\b[^|]*\\|").matcher(text).find();
        Check.due("a row for " + name, has ? 1 : 0, 1);
      }
    }
  }
}
