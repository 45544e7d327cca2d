import java.lang.reflect.Constructor;
import java.lang.reflect.Field;
import java.lang.reflect.Member;
import java.lang.reflect.Method;
import java.lang.reflect.Modifier;
import java.nio.file.Files;
import java.nio.file.Path;
import java.util.ArrayList;
import java.util.List;

/** The face is just what the document's "public face" lists, and the fields are as LANGUAGE.md wants them. */
public final class FaceTest {
  private FaceTest() {}

  public static void main(String[] args) throws Exception {
    List<String> wanted = documented(Path.of(System.getProperty("doc", "../shared/DOC.md")));
    List<String> found = new ArrayList<>();
    List<String> names = new ArrayList<>();
    for (Method m : ApronStrings.class.getDeclaredMethods()) {
      if (Modifier.isPublic(m.getModifiers())) {
        found.add(m.getReturnType() + " " + m.getName() + types(m.getParameterTypes()));
        names.add(m.getName());
      }
    }
    Check.about("the face");
    Check.due("methods that the document lists", wanted.size(), 41);
    for (String one : wanted) Check.due("it has " + one, found.contains(one) ? 1 : 0, 1);
    for (String one : found) Check.due("listed is " + one, wanted.contains(one) ? 1 : 0, 1);
    members(names);
    Check.end("FaceTest");
  }

  private static List<String> documented(Path doc) throws Exception {
    List<String> face = new ArrayList<>();
    for (String line : Files.readAllLines(doc)) {
      String s = line.trim();
      if (!s.startsWith("public int ")) continue;
      String inner = s.substring(s.indexOf('(') + 1, s.indexOf(')'));
      StringBuilder types = new StringBuilder("(");
      for (String part : inner.split(",")) {
        if (!part.isBlank()) types.append(part.trim().split(" ")[0]).append(',');
      }
      face.add("int " + s.substring(11, s.indexOf('(')) + types + ")");
    }
    return face;
  }

  private static String types(Class<?>[] of) {
    StringBuilder s = new StringBuilder("(");
    for (Class<?> type : of) s.append(type.getName()).append(',');
    return s.append(')').toString();
  }

  private static void members(List<String> names) {
    Class<?> face = ApronStrings.class;
    Check.due("final", Modifier.isFinal(face.getModifiers()) ? 1 : 0, 1);
    Check.due("public", Modifier.isPublic(face.getModifiers()) ? 1 : 0, 1);
    Constructor<?>[] made = face.getDeclaredConstructors();
    Check.due("constructors", made.length, 1);
    Check.due("a public constructor", Modifier.isPublic(made[0].getModifiers()) ? 1 : 0, 1);
    for (Field f : face.getDeclaredFields()) Check.due("private " + f.getName(), hidden(f), 1);
    for (Method m : face.getDeclaredMethods()) {
      if (Modifier.isPublic(m.getModifiers())) continue;
      Check.due("private " + m.getName(), hidden(m), 1);
      Check.due("a name of its own, " + m.getName(), names.contains(m.getName()) ? 1 : 0, 0);
    }
    Check.due("at most 12 classes", face.getDeclaredClasses().length < 12 ? 1 : 0, 1);
    for (Class<?> inner : face.getDeclaredClasses()) inside(inner, names);
    inside(face, List.of());
  }

  private static int hidden(Member m) {
    return Modifier.isPrivate(m.getModifiers()) ? 1 : 0;
  }

  private static void inside(Class<?> one, List<String> names) {
    if (one != ApronStrings.class) {
      Check.due("static " + one, Modifier.isStatic(one.getModifiers()) ? 1 : 0, 1);
      Check.due("not public " + one, Modifier.isPublic(one.getModifiers()) ? 1 : 0, 0);
    }
    int fields = 0;
    for (Field f : one.getDeclaredFields()) {
      if (Modifier.isStatic(f.getModifiers())) {
        Check.due("final " + f, Modifier.isFinal(f.getModifiers()) ? 1 : 0, 1);
      } else {
        fields++;
      }
    }
    Check.due("at most 20 fields in " + one, fields <= 20 ? 1 : 0, 1);
    for (Method m : one.getDeclaredMethods()) {
      Check.due("at most 7 parameters, " + m, m.getParameterCount() <= 7 ? 1 : 0, 1);
      Check.due("a name of its own, " + m, names.contains(m.getName()) ? 1 : 0, 0);
    }
  }
}
