import java.io.IOException;
import java.lang.reflect.Constructor;
import java.lang.reflect.Executable;
import java.lang.reflect.Field;
import java.lang.reflect.Method;
import java.lang.reflect.Modifier;
import java.nio.file.Files;
import java.nio.file.Path;
import java.util.ArrayList;
import java.util.List;
import java.util.TreeSet;

/** "The public face": the class has what the document's face shows, and nothing else that others can see. */
public final class FaceTest {
  private static final Checks CHECKS = new Checks();

  public static void main(String[] args) throws IOException {
    CHECKS.same("the class", Modifier.toString(ReportMill.class.getModifiers()), "public final");
    CHECKS.same("the face", String.join("\n", new TreeSet<>(members())), String.join("\n", new TreeSet<>(promised())));
    for (Class<?> inside : ReportMill.class.getDeclaredClasses()) {
      int modifiers = inside.getModifiers();
      CHECKS.same(inside + " is static", Modifier.isStatic(modifiers) + "", "true");
      CHECKS.same(inside + " is hidden", (modifiers & (Modifier.PUBLIC | Modifier.PROTECTED)) == 0 ? "yes" : "no", "yes");
    }
    CHECKS.end();
  }

  /** The lines of the document's face, without the names of parameters. */
  private static List<String> promised() throws IOException {
    List<String> members = new ArrayList<>();
    for (String line : Files.readAllLines(Path.of("../shared/DOC.md"))) {
      if (line.startsWith("    public ")) {
        members.add(line.strip().replace(";", "").replaceAll("(int|long|boolean) \\w+(?=[,)])", "$1"));
      }
    }
    return members;
  }

  private static List<String> members() {
    List<String> members = new ArrayList<>();
    for (Constructor<?> constructor : ReportMill.class.getDeclaredConstructors()) {
      members.add(member(constructor, "ReportMill"));
    }
    for (Method method : ReportMill.class.getDeclaredMethods()) {
      if (!Modifier.isPrivate(method.getModifiers()) && !method.isSynthetic()) {
        members.add(member(method, method.getReturnType() + " " + method.getName()));
      }
    }
    for (Field field : ReportMill.class.getDeclaredFields()) {
      if (!Modifier.isPrivate(field.getModifiers()) && !field.isSynthetic()) {
        members.add("field " + field.getName());
      }
    }
    return members;
  }

  private static String member(Executable executable, String name) {
    String thrown = names(executable.getExceptionTypes());
    return Modifier.toString(executable.getModifiers()) + " " + name + "(" + names(executable.getParameterTypes()) + ")"
        + (thrown.isEmpty() ? "" : " throws " + thrown);
  }

  private static String names(Class<?>[] types) {
    List<String> names = new ArrayList<>();
    for (Class<?> type : types) {
      names.add(type.getSimpleName());
    }
    return String.join(", ", names);
  }
}
