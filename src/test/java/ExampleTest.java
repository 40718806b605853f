import java.io.ByteArrayOutputStream;
import java.io.IOException;
import java.io.PrintStream;
import java.nio.charset.StandardCharsets;
import java.nio.file.Files;
import java.nio.file.Path;

/** README.md's example prints what README.md shows. */
public final class ExampleTest {
  private static final Checks CHECKS = new Checks();

  private static final String DUE = String.join("\n",
      "page 1 of 2",
      "a1          120.00",
      "a1            3.00",
      "all of a1    123.00",
      "",
      "b1           12.50",
      "page 2 of 2",
      "b1            0.99",
      "all of b1     13.49",
      "",
      "all         136.49",
      "");

  public static void main(String[] args) throws IOException {
    CHECKS.same("the example", printed(), DUE + "\n");
    String readme = Files.readString(Path.of("README.md"));
    CHECKS.same("README.md shows the program", readme.contains("\n" + Example.PROGRAM + "\n") + "", "true");
    CHECKS.same("README.md shows the pages", readme.contains("\n" + DUE.stripTrailing() + "\n") + "", "true");
    CHECKS.end();
  }

  /** What the example prints, with the line ends of README.md. */
  private static String printed() {
    PrintStream out = System.out;
    ByteArrayOutputStream bytes = new ByteArrayOutputStream();
    System.setOut(new PrintStream(bytes, true, StandardCharsets.ISO_8859_1));
    Example.main(new String[0]);
    System.setOut(out);
    return bytes.toString(StandardCharsets.ISO_8859_1).replace("\r\n", "\n");
  }
}
