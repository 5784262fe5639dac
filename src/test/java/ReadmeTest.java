import java.io.IOException;
import java.nio.file.Files;
import java.nio.file.Path;
import java.util.List;
import java.util.TreeSet;
import java.util.regex.Matcher;
import java.util.regex.Pattern;
import java.util.stream.Collectors;
import java.util.stream.Stream;
import javax.tools.JavaCompiler;
import javax.tools.ToolProvider;

/** README.md's example runs and answers what stands behind it, and the table of tests holds each test. */
public final class ReadmeTest {
  private static final Path README = Path.of("README.md"), TESTS = Path.of("src/test/java");
  private static final String CLASSES = System.getProperty("java.class.path");

  public static void main(String[] args) throws IOException, InterruptedException {
    Check check = new Check();
    String readme = Files.readString(README);
    example(readme, check);
    tests(readme, check);
    check.end();
  }

  private static void example(String readme, Check check) throws IOException, InterruptedException {
    Matcher block = Pattern.compile("(?s)```java\n(.*?)```").matcher(readme);
    check.isTrue("README.md has an example", block.find());
    Matcher answer = Pattern.compile("(?m)^int (\\w+) = .*; +// (-?\\d+)\\b.*$").matcher(block.group(1));
    StringBuilder program = new StringBuilder();
    int answers = 0;
    while (answer.find()) {
      answers++;
      answer.appendReplacement(program, Matcher.quoteReplacement(answer.group() + "\nif (" + answer.group(1) + " != "
          + answer.group(2) + ") {\n  System.out.println(\"" + answer.group(1) + ": \" + " + answer.group(1)
          + ");\n  System.exit(1);\n}"));
    }
    answer.appendTail(program);
    check.isTrue("the example tells its answers: " + answers, answers >= 10);
    check.due("the example, run", runs(program.toString()), 0);
  }

  private static int runs(String program) throws IOException, InterruptedException {
    Path folder = Files.createTempDirectory("readme");
    Path source = folder.resolve("Example.java");
    try {
      Files.writeString(source, "class Example {\npublic static void main(String[] args) {\n" + program + "}\n}\n");
      JavaCompiler compiler = ToolProvider.getSystemJavaCompiler();
      if (compiler.run(null, null, null, "-cp", CLASSES, "-d", folder.toString(), source.toString()) != 0) {
        return 1;
      }
      String java = Path.of(System.getProperty("java.home"), "bin", "java").toString();
      String both = CLASSES + System.getProperty("path.separator") + folder;
      return new ProcessBuilder(java, "-cp", both, "Example").inheritIO().start().waitFor();
    } finally {
      remove(folder);
    }
  }

  private static void remove(Path folder) throws IOException {
    for (Path file : within(folder)) {
      Files.delete(file);
    }
    Files.delete(folder);
  }

  private static List<Path> within(Path folder) throws IOException {
    try (Stream<Path> files = Files.list(folder)) {
      return files.collect(Collectors.toList());
    }
  }

  private static void tests(String readme, Check check) throws IOException {
    TreeSet<String> told = new TreeSet<>();
    Matcher row = Pattern.compile("(?m)^\\| `(\\w+)` \\|").matcher(readme);
    while (row.find()) {
      told.add(row.group(1));
    }
    TreeSet<String> there = new TreeSet<>();
    for (Path file : within(TESTS)) {
      String name = file.getFileName().toString();
      if (name.endsWith("Test.java")) {
        there.add(name.replace(".java", ""));
      }
    }
    check.isTrue("README.md tells of " + there + ": " + told, told.equals(there));
  }
}
