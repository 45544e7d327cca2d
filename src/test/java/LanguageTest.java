import java.io.PrintWriter;
import java.io.StringWriter;
import java.nio.charset.StandardCharsets;
import java.nio.file.Files;
import java.nio.file.Path;
import java.util.ArrayList;
import java.util.HashMap;
import java.util.List;
import java.util.Map;
import java.util.Optional;
import java.util.Set;
import java.util.TreeSet;
import java.util.regex.Matcher;
import java.util.regex.Pattern;
import java.util.spi.ToolProvider;

/** Rules of LANGUAGE.md that the source's own words show. */
public final class LanguageTest {
  private LanguageTest() {}

  public static void main(String[] args) throws Exception {
    Path main = Path.of(System.getProperty("main", "src/main/java/ApronStrings.java"));
    String source = Files.readString(main, StandardCharsets.ISO_8859_1);
    Check.about("the language");
    for (int i = 0; i < source.length(); i++) {
      char sign = source.charAt(i);
      if (sign != '\n' && (sign < 32 || sign > 126)) Check.due("sign at " + i, sign, 0);
    }
    String code = bare(source);
    none(code, "\\b(throw|throws|try|catch|synchronized|assert|import|package|native|volatile|finally)\\b");
    none(code, "->|::|\\bnew\\s+\\w+\\s*\\([^)]*\\)\\s*\\{|@");
    none(code, "\\b(float|double|var|record|sealed|instanceof|Object|System\\.(?!arraycopy)\\w+)\\b");
    none(code, "\\b(equals|hashCode|toString|currentTimeMillis|nanoTime|random|Exact)\\b");
    none(code, "\"");
    library(code);
    statics(code);
    lengths(code);
    depth();
    Check.end("LanguageTest");
  }

  /** Without comments, and with every sign in quotes made plain. */
  private static String bare(String source) {
    return source.replaceAll("(?s)/\\*.*?\\*/", "").replaceAll("//[^\n]*", "").replaceAll("'[^']'", "' '");
  }

  private static void none(String code, String banned) {
    Matcher m = Pattern.compile(banned).matcher(code);
    boolean found = m.find();
    Check.due("what stands there of " + banned + (found ? ": " + m.group() : ""), found ? 1 : 0, 0);
  }

  private static void library(String code) {
    List<String> listed = List.of("Math.abs", "Math.min", "Math.max", "Math.floorMod", "Integer.bitCount",
        "System.arraycopy");
    Matcher m = Pattern.compile("\\b(Math|Integer|Long|System|Arrays|String|StringBuilder)\\.\\w+").matcher(code);
    while (m.find()) Check.due("listed is " + m.group(), listed.contains(m.group()) ? 1 : 0, 1);
  }

  private static void statics(String code) {
    for (String line : code.split("\n")) {
      boolean field = line.contains(" static ") && !line.contains("(") && !line.contains(" class ");
      if (field) Check.due("final: " + line.trim(), line.contains(" final ") ? 1 : 0, 1);
    }
  }

  /** By the indent: a method begins two or four blanks in, and ends with a brace as far in. */
  private static void lengths(String code) {
    List<String> lines = new ArrayList<>(List.of(code.split("\n")));
    for (int i = 0; i < lines.size(); i++) {
      Matcher m = Pattern.compile("^( {2}| {4})(?! )[^=]*\\)\\s*\\{$").matcher(lines.get(i));
      if (!m.find()) continue;
      int end = i;
      while (end < lines.size() && !lines.get(end).equals(m.group(1) + "}")) end++;
      Check.due("at most 60 lines: " + lines.get(i).trim(), end - i < 60 ? 1 : 0, 1);
    }
  }

  /** By what javap shows: the longest chain of calls, the recursion of the voices counted once. */
  private static void depth() throws Exception {
    Optional<ToolProvider> javap = ToolProvider.findFirst("javap");
    if (javap.isEmpty()) return;
    List<String> files = new ArrayList<>();
    Path classes = Path.of(ApronStrings.class.getProtectionDomain().getCodeSource().getLocation().toURI());
    try (var all = Files.list(classes)) {
      all.map(Path::toString).filter(f -> f.matches(".*ApronStrings(\\$.*)?\\.class")).forEach(files::add);
    }
    files.addAll(0, List.of("-c", "-p"));
    StringWriter out = new StringWriter();
    javap.get().run(new PrintWriter(out), new PrintWriter(out), files.toArray(new String[0]));
    Map<String, Set<String>> calls = calls(out.toString());
    Check.due("methods that javap shows", calls.size() > 80 ? 1 : 0, 1);
    int deepest = 0;
    for (String from : calls.keySet()) deepest = Math.max(deepest, below(from, calls, new TreeSet<>()));
    Check.due("calls at most eight deep: " + deepest, deepest <= 8 ? 1 : 0, 1);
  }

  private static Map<String, Set<String>> calls(String shown) {
    Map<String, Set<String>> calls = new HashMap<>();
    String inside = "", method = "";
    for (String line : shown.split("\n")) {
      Matcher c = Pattern.compile("class (ApronStrings\\S*) ").matcher(line);
      Matcher m = Pattern.compile("^  \\S.*?([\\w$]+)\\([^)]*\\)( throws.*)?;$").matcher(line);
      Matcher i = Pattern.compile("(?:Interface)?Method (?:([\\w$/]+)\\.)?\"?([\\w<>]+)\"?:\\(").matcher(line);
      if (!line.startsWith(" ") && c.find()) inside = c.group(1);
      if (m.find()) calls.put(method = inside + "." + named(m.group(1)), new TreeSet<>());
      if (i.find()) calls.get(method).add((i.group(1) == null ? inside : i.group(1)) + "." + i.group(2));
    }
    return calls;
  }

  private static String named(String name) {
    return name.startsWith("ApronStrings") ? "<init>" : name;
  }

  private static int below(String from, Map<String, Set<String>> calls, Set<String> open) {
    if (!calls.containsKey(from) || !open.add(from)) return 0;
    int most = 0;
    for (String to : calls.get(from)) most = Math.max(most, below(to, calls, open));
    open.remove(from);
    return most + 1;
  }
}
