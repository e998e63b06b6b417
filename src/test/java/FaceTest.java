import java.io.IOException;
import java.lang.reflect.Constructor;
import java.lang.reflect.Field;
import java.lang.reflect.Method;
import java.lang.reflect.Modifier;
import java.nio.file.Files;
import java.nio.file.Path;
import java.util.Arrays;
import java.util.Set;
import java.util.TreeSet;
import java.util.regex.Matcher;
import java.util.regex.Pattern;
import java.util.stream.Collectors;

/** The public face of the class, and those rules of the language that can be seen from outside. */
public final class FaceTest {
  private static final Kit kit = new Kit("FaceTest");

  private static final String[] METHODS = {
    "int block(int, int, boolean)",
    "int less()",
    "int side(int, int) throws NoSuchElementException",
    "int net(int, int) throws NoSuchElementException",
    "boolean places()",
    "boolean put(int, int, int, boolean) throws NoSuchElementException",
    "boolean pair(long, long, int)",
    "boolean cuts(long, long, int)",
    "boolean tree(int, long, long, int)",
    "int about(int) throws NoSuchElementException",
    "int at(int, int) throws NoSuchElementException",
    "long told(int) throws NoSuchElementException",
    "int slack(int, int) throws NoSuchElementException",
    "int wires() throws NoSuchElementException",
    "boolean from()",
    "boolean isCut() throws NoSuchElementException",
    "int normal() throws NoSuchElementException",
    "int curve() throws NoSuchElementException",
    "int shape(int, int) throws NoSuchElementException",
    "int best(int) throws NoSuchElementException",
    "boolean swap(int, int, int)",
    "int least(int) throws NoSuchElementException",
    "long count(int, int) throws NoSuchElementException",
    "long rank() throws NoSuchElementException",
    "boolean of(long)"
  };

  public static void main(String[] args) throws IOException {
    methods();
    membersAside();
    classesInside();
    source();
    kit.finish();
  }

  private static String names(Class<?>[] types) {
    return Arrays.stream(types).map(Class::getSimpleName).collect(Collectors.joining(", "));
  }

  private static String textOf(Method method) {
    String text = method.getReturnType().getSimpleName() + " " + method.getName();
    text += "(" + names(method.getParameterTypes()) + ")";
    return method.getExceptionTypes().length == 0 ? text : text + " throws " + names(method.getExceptionTypes());
  }

  private static void methods() {
    Set<String> want = new TreeSet<>(Arrays.asList(METHODS));
    Set<String> have = new TreeSet<>();
    Set<String> publicNames = new TreeSet<>();
    for (Method method : GroundPlan.class.getDeclaredMethods()) {
      if (Modifier.isPublic(method.getModifiers())) {
        have.add(textOf(method));
        publicNames.add(method.getName());
        kit.no(method.getName() + " is static", Modifier.isStatic(method.getModifiers()));
      } else {
        kit.yes(method.getName() + " is private", Modifier.isPrivate(method.getModifiers()));
      }
    }
    kit.yes("the methods are " + have, have.equals(want));
    for (Class<?> inside : withItsInside(GroundPlan.class)) {
      for (Method method : inside.getDeclaredMethods()) {
        boolean other = inside != GroundPlan.class || !Modifier.isPublic(method.getModifiers());
        kit.no(method + " bears a public name", other && publicNames.contains(method.getName()));
        kit.yes(method + " takes at most seven", method.getParameterCount() <= 7);
      }
    }
  }

  private static Class<?>[] withItsInside(Class<?> outer) {
    Class<?>[] inside = outer.getDeclaredClasses();
    Class<?>[] all = Arrays.copyOf(inside, inside.length + 1);
    all[inside.length] = outer;
    return all;
  }

  private static void membersAside() {
    int modifiers = GroundPlan.class.getModifiers();
    kit.yes("public and final", Modifier.isPublic(modifiers) && Modifier.isFinal(modifiers));
    kit.yes("without a package", GroundPlan.class.getPackageName().isEmpty());
    kit.yes("no class above it", GroundPlan.class.getSuperclass() == Object.class);
    Constructor<?>[] constructors = GroundPlan.class.getDeclaredConstructors();
    kit.due("constructors", 1, constructors.length);
    kit.due("parameters", 0, constructors[0].getParameterCount());
    kit.yes("public constructor", Modifier.isPublic(constructors[0].getModifiers()));
    for (Field field : GroundPlan.class.getDeclaredFields()) {
      boolean constant = field.getName().equals("NONE");
      kit.yes(field + " is seen as it should", constant == Modifier.isPublic(field.getModifiers()));
      kit.yes(field + " is private", constant || Modifier.isPrivate(field.getModifiers()));
    }
  }

  private static void classesInside() {
    Class<?>[] inside = GroundPlan.class.getDeclaredClasses();
    kit.yes("at most twelve classes", inside.length < 12);
    for (Class<?> one : withItsInside(GroundPlan.class)) {
      boolean outer = one == GroundPlan.class;
      kit.yes(one + " is static", outer || Modifier.isStatic(one.getModifiers()));
      int seen = one.getModifiers() & (Modifier.PUBLIC | Modifier.PROTECTED);
      kit.no(one + " is public or protected", !outer && seen != 0);
      int fields = 0;
      for (Field field : one.getDeclaredFields()) {
        boolean isStatic = Modifier.isStatic(field.getModifiers());
        fields += isStatic ? 0 : 1;
        kit.yes(field + " is final if it is static", !isStatic || Modifier.isFinal(field.getModifiers()));
      }
      kit.yes(one + " has at most twenty fields", fields <= 20);
    }
  }

  private static void source() throws IOException {
    String path = System.getenv().getOrDefault("GROUND_PLAN_SOURCE", "src/main/java/GroundPlan.java");
    String text = Files.readString(Path.of(path));
    String code = text.replaceAll("(?s)/\\*.*?\\*/", "").replaceAll("//[^\n]*", "");
    String[] refused = {
      "\\btry\\b", "\\bcatch\\b", "\\bfinally\\b", "\\bsynchronized\\b", "\\bassert\\b", "->", "::", "\\bpackage\\b",
      "\\bSystem\\.(?!arraycopy)", "\\w+Exact\\b", "\\bdouble\\b", "\\bfloat\\b", "while \\(true\\)", "for \\(;;\\)"
    };
    for (String word : refused) {
      Matcher matcher = Pattern.compile(word).matcher(code);
      kit.no("the source has " + word, matcher.find());
    }
    Matcher imports = Pattern.compile("(?m)^import (.*);").matcher(code);
    while (imports.find()) {
      kit.yes("import of " + imports.group(1), imports.group(1).equals("java.util.NoSuchElementException"));
    }
    Matcher thrown = Pattern.compile("throw (?!new NoSuchElementException\\(\"[^\"]*\"\\);)").matcher(code);
    kit.no("another throw", thrown.find());
    shortMethods(code);
  }

  private static void shortMethods(String code) {
    String[] lines = code.split("\n");
    int start = -1;
    String end = "";
    for (int i = 0; i < lines.length; i++) {
      if (start < 0 && lines[i].matches("( {2}| {4})[a-z][^=;]*\\) .*\\{")) {
        start = i;
        end = lines[i].replaceAll("\\S.*", "") + "}";
      } else if (start >= 0 && lines[i].equals(end)) {
        kit.yes("the method at line " + (start + 1) + " is short", i - start <= 60);
        start = -1;
      }
    }
  }
}
