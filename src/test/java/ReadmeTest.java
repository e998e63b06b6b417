import java.io.IOException;
import java.lang.reflect.InvocationTargetException;
import java.lang.reflect.Method;
import java.lang.reflect.Modifier;
import java.net.URL;
import java.net.URLClassLoader;
import java.nio.file.Files;
import java.nio.file.Path;
import java.util.ArrayList;
import java.util.Comparator;
import java.util.List;
import java.util.NoSuchElementException;
import java.util.concurrent.Callable;
import java.util.regex.Matcher;
import java.util.regex.Pattern;
import java.util.stream.Stream;
import javax.tools.JavaCompiler;
import javax.tools.ToolProvider;

/** README.md: its example answers what stands behind each call, and it names all that there is. */
public final class ReadmeTest {
  private static final Kit kit = new Kit("ReadmeTest");
  private static final Pattern CODE = Pattern.compile("(?s)```java\n(.*?)```");
  private static final Pattern CALL = Pattern.compile("(\\S.*\\));\\s+// ([^\\s:]+)(: \\S.*)?");
  private static final String MAKES = "GroundPlan plan = new GroundPlan();";

  /** A line of the example: a call, and the answer that is told behind it. */
  private record Line(String call, String answer) {}

  public static void main(String[] args) throws Exception {
    String readme = Files.readString(Path.of("README.md"));
    List<Line> lines = linesOf(readme);
    kit.yes("an example of some length", lines.size() >= 20);
    example(lines);
    namesAll(readme, lines);
    kit.finish();
  }

  private static List<Line> linesOf(String readme) {
    List<Line> lines = new ArrayList<>();
    Matcher code = CODE.matcher(readme);
    kit.yes("an example", code.find());
    String[] told = code.group(1).split("\n");
    kit.yes("the example makes an object first", told[0].equals(MAKES));
    for (int i = 1; i < told.length; i++) {
      Matcher call = CALL.matcher(told[i]);
      if (call.matches()) {
        lines.add(new Line(call.group(1), call.group(2)));
      } else {
        kit.yes("a call and its answer: " + told[i], told[i].isEmpty());
      }
    }
    return lines;
  }

  /** Each call is compiled as it stands, and all of them are asked of one object. */
  private static void example(List<Line> lines) throws Exception {
    Path folder = Files.createTempDirectory("readme");
    try {
      Path source = folder.resolve("ReadmeExample.java");
      Files.writeString(source, programOf(lines));
      String classes = System.getProperty("java.class.path");
      JavaCompiler compiler = ToolProvider.getSystemJavaCompiler();
      int refused = compiler.run(null, null, null, "-cp", classes, "-d", folder.toString(), source.toString());
      kit.due("the example compiles", 0, refused);
      if (refused == 0) {
        answers(lines, folder);
      }
    } finally {
      remove(folder);
    }
  }

  private static String programOf(List<Line> lines) {
    StringBuilder text = new StringBuilder("public class ReadmeExample {\n  " + MAKES + "\n");
    for (int i = 0; i < lines.size(); i++) {
      text.append("  public Object line").append(i).append("() { return ").append(lines.get(i).call()).append("; }\n");
    }
    return text.append("}\n").toString();
  }

  private static void answers(List<Line> lines, Path folder) throws Exception {
    URL[] from = {folder.toUri().toURL()};
    try (URLClassLoader loader = new URLClassLoader(from, ReadmeTest.class.getClassLoader())) {
      Class<?> program = loader.loadClass("ReadmeExample");
      Object example = program.getDeclaredConstructor().newInstance();
      for (int i = 0; i < lines.size(); i++) {
        Method line = program.getMethod("line" + i);
        String answer = answerOf(() -> line.invoke(example));
        Line due = lines.get(i);
        kit.yes(due.call() + ", told " + due.answer() + ", answers " + answer, due.answer().equals(answer));
      }
    }
  }

  private static String answerOf(Callable<Object> call) throws Exception {
    try {
      return String.valueOf(call.call());
    } catch (InvocationTargetException e) {
      if (e.getCause() instanceof NoSuchElementException) {
        return "NoSuchElementException";
      }
      throw e;
    }
  }

  private static void remove(Path folder) throws IOException {
    try (Stream<Path> files = Files.walk(folder)) {
      for (Path file : files.sorted(Comparator.reverseOrder()).toList()) {
        Files.delete(file);
      }
    }
  }

  private static void namesAll(String readme, List<Line> lines) throws IOException {
    for (Method method : GroundPlan.class.getDeclaredMethods()) {
      if (Modifier.isPublic(method.getModifiers())) {
        names(readme, method.getName());
      }
    }
    for (Class<?> inside : GroundPlan.class.getDeclaredClasses()) {
      names(readme, inside.getSimpleName());
    }
    try (Stream<Path> files = Files.list(Path.of("src/test/java"))) {
      for (Path file : files.toList()) {
        names(readme, file.getFileName().toString().replace(".java", ""));
      }
    }
    kit.yes("README.md tells how to run the tests", readme.contains("\n.ci/run\n"));
    kit.yes("README.md tells where the shared tests are", readme.contains("../shared/tests"));
    for (String answer : new String[] {"true", "false", "-1", "NoSuchElementException"}) {
      kit.yes("an example that answers " + answer, lines.stream().anyMatch(line -> line.answer().equals(answer)));
    }
  }

  private static void names(String readme, String name) {
    kit.yes("README.md names " + name, readme.contains("`" + name + "`"));
  }
}
