import java.io.IOException;
import java.nio.file.Files;
import java.nio.file.Path;

/** Counts the answers that are not the ones that are due. */
final class Check {
  private static final Path DOCUMENT = Path.of("../shared/DOC.md");

  private int seen;
  private int wrong;
  private String words = "";
  private String document = "";

  void due(String call, long got, long want) {
    seen++;
    if (got != want) {
      wrong++;
      System.out.println(words + call + " answered " + got + ", due is " + want);
    }
  }

  /**
   * What follows holds the class against these words, which the document must
   * hold just so: a test whose words are gone from it is to be looked at again.
   */
  void says(String itsWords) throws IOException {
    if (document.isEmpty()) {
      document = Files.readString(DOCUMENT).replaceAll("\\s+", " ");
    }
    words = "";
    isTrue("the document says: " + itsWords, document.contains(itsWords));
    words = "\"" + itsWords + "\": ";
  }

  void isTrue(String what, boolean holds) {
    due(what, holds ? 1 : 0, 1);
  }

  int wrong() {
    return wrong;
  }

  void end() {
    System.out.println(wrong == 0 ? seen + " answers are as due" : wrong + " of " + seen + " answers are not as due");
    if (wrong != 0) {
      System.exit(1);
    }
  }

  /** A new object with these texts read. */
  static AdderChooser with(String... texts) {
    AdderChooser x = new AdderChooser();
    for (String text : texts) {
      read(x, text);
    }
    return x;
  }

  static int read(AdderChooser x, String text) {
    feed(x, text);
    return x.read();
  }

  static void feed(AdderChooser x, String text) {
    for (int i = 0; i < text.length(); i++) {
      x.feed(text.charAt(i));
    }
  }
}
