import java.io.IOException;
import java.lang.reflect.Constructor;
import java.lang.reflect.Field;
import java.lang.reflect.Method;
import java.lang.reflect.Modifier;
import java.nio.file.Files;
import java.nio.file.Path;
import java.util.ArrayList;
import java.util.HashSet;
import java.util.List;
import java.util.Set;
import java.util.TreeSet;
import java.util.regex.Matcher;
import java.util.regex.Pattern;

/** The face of the document, and those rules of LANGUAGE.md that can be seen in the text. */
public final class LanguageTest {
  private static final Path SOURCE = Path.of("src/main/java/AdderChooser.java");
  private static final Path DOCUMENT = Path.of("../shared/DOC.md");
  private static final String[] NOT_ALLOWED = {
    "\\bthrows?\\b", "\\btry\\b", "\\bcatch\\b", "\\bsynchronized\\b", "\\bassert\\b", "->", "::", "\\bimport\\b",
    "\\bpackage\\b", "\\bvar\\b", "\\bSystem\\.(?!arraycopy\\b)", "\\bThread\\b", "\\bRandom\\b", "\\bObject\\b",
    "\\bhashCode\\b", "\\btoString\\b", "\\bprotected\\b", "\\w+Exact\\b", "\\bString\\b", "\"", "\\bdouble\\b", "\\bfloat\\b"
  };
  private static final int MOST_LINES = 60, MOST_PARAMETERS = 7, MOST_CLASSES = 12, MOST_FIELDS = 20;

  public static void main(String[] args) throws IOException {
    Check check = new Check();
    face(check);
    String code = withoutComments(Files.readString(SOURCE));
    for (String pattern : NOT_ALLOWED) {
      Matcher found = Pattern.compile(pattern).matcher(code);
      check.isTrue("the program holds no " + pattern, !found.find());
    }
    methodsAreShort(code, check);
    classes(check);
    check.end();
  }

  private static String withoutComments(String text) {
    return text.replaceAll("(?s)/\\*.*?\\*/", "").replaceAll("//[^\n]*", "");
  }

  private static void face(Check check) throws IOException {
    Set<String> due = new TreeSet<>();
    Matcher lines = Pattern.compile("    public (int|long) (\\w+)\\((.*)\\);").matcher(Files.readString(DOCUMENT));
    while (lines.find()) {
      due.add(lines.group(1) + " " + lines.group(2) + "(" + lines.group(3).replaceAll(" \\w+(, |$)", "$1") + ")");
    }
    Set<String> there = new TreeSet<>();
    Set<String> names = new HashSet<>();
    for (Method method : AdderChooser.class.getDeclaredMethods()) {
      if (method.isSynthetic() || Modifier.isPrivate(method.getModifiers())) {
        continue;
      }
      check.isTrue(method + " is public, not static", method.getModifiers() == Modifier.PUBLIC);
      names.add(method.getName());
      List<String> types = new ArrayList<>();
      for (Class<?> type : method.getParameterTypes()) {
        types.add(type.getName());
      }
      there.add(method.getReturnType() + " " + method.getName() + "(" + String.join(", ", types) + ")");
    }
    check.due("the document's methods", due.size(), 33);
    check.isTrue("the methods are the document's: " + there, there.equals(due));
    Constructor<?>[] constructors = AdderChooser.class.getDeclaredConstructors();
    check.isTrue("one public constructor", constructors.length == 1 && constructors[0].getModifiers() == Modifier.PUBLIC
        && constructors[0].getParameterCount() == 0);
    check.isTrue("public and final", AdderChooser.class.getModifiers() == (Modifier.PUBLIC | Modifier.FINAL));
    Set<String> constants = new TreeSet<>();
    for (Field field : AdderChooser.class.getDeclaredFields()) {
      if (!Modifier.isPrivate(field.getModifiers())) {
        constants.add(field.getType() + " " + field.getName() + " " + Modifier.toString(field.getModifiers()));
      }
    }
    String how = " public static final";
    check.isTrue("the constants are the document's: " + constants, constants.equals(Set.of("int BAD" + how, "int NOT" + how,
        "int FULL" + how, "int LONG" + how, "long VOID" + how)));
    for (Class<?> type : allClasses()) {
      for (Method method : type.getDeclaredMethods()) {
        boolean isOfFace = type == AdderChooser.class && Modifier.isPublic(method.getModifiers());
        check.isTrue(method + " bears no name of the face", isOfFace || !names.contains(method.getName()));
      }
    }
  }

  private static List<Class<?>> allClasses() {
    List<Class<?>> all = new ArrayList<>(List.of(AdderChooser.class.getDeclaredClasses()));
    all.add(AdderChooser.class);
    return all;
  }

  private static void classes(Check check) {
    check.isTrue("some twelve classes", allClasses().size() <= MOST_CLASSES);
    for (Class<?> type : allClasses()) {
      int fields = 0;
      for (Field field : type.getDeclaredFields()) {
        boolean isStatic = Modifier.isStatic(field.getModifiers());
        fields += isStatic ? 0 : 1;
        check.isTrue(field + " is no static state", !isStatic || Modifier.isFinal(field.getModifiers()));
      }
      check.isTrue(type + " has some twenty fields", fields <= MOST_FIELDS);
      check.isTrue(type + " is static", type == AdderChooser.class || Modifier.isStatic(type.getModifiers()));
      for (Method method : type.getDeclaredMethods()) {
        check.isTrue(method + " takes few parameters", method.getParameterCount() <= MOST_PARAMETERS);
      }
    }
  }

  /** A method begins with a line that ends with ") {" and ends with the brace that stands below its first sign. */
  private static void methodsAreShort(String code, Check check) {
    String[] lines = code.split("\n");
    int methods = 0;
    for (int i = 0; i < lines.length; i++) {
      Matcher head = Pattern.compile("(  |    )\\w[\\w\\[\\] ]*\\([^()]*\\) \\{").matcher(lines[i]);
      if (!head.matches() || lines[i].matches(" +(if|for|while|switch) .*")) {
        continue;
      }
      int end = i;
      while (!lines[end].equals(head.group(1) + "}")) {
        end++;
      }
      methods++;
      check.isTrue(lines[i].trim() + " is short", end - i < MOST_LINES);
    }
    check.isTrue("the methods are found: " + methods, methods > 80);
  }
}
