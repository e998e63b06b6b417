import java.io.IOException;
import java.nio.file.Files;
import java.nio.file.Path;
import java.util.ArrayList;
import java.util.List;

/** The document's sentences by promise; promise 0 is all that stands ahead of promise 1. */
final class Doc {
  static final int PROMISES = 26;

  private static final String[] MARKS = {
    "NONE:", "; NONE)", "False:", "False (", "NoSuchElementException:", "NoSuchElementException likewise", "-2",
    "nothing changes", "left out", "(0 without)", "(0 of fewer than two)", "as everywhere", "likewise", "else as",
    "isn't asked", "1 to 200", "0 to 19", "none at first", "ends the LAYING", "at most x of b", "more than an end",
    "if there was none", "No BLOCKS, no NETS", "NETS without it", "each BLOCK once", "one part is left", "both sides",
    "0 or more"
  };

  private final List<String> sections = new ArrayList<>();

  /** Null if the document is not where it should be: then only the class is held to it. */
  static Doc read() throws IOException {
    Path path = Path.of(System.getenv().getOrDefault("GROUND_PLAN_DOC", "../shared/DOC.md"));
    return Files.isRegularFile(path) ? new Doc(Files.readString(path)) : null;
  }

  private Doc(String text) {
    String body = text.substring(0, Math.max(0, text.indexOf("## Not promised")));
    for (String section : body.split("## Promise \\d+:")) {
      sections.add(plain(section));
    }
  }

  private static String plain(String text) {
    return text.replaceAll("(?s)```java.*?```", " ").replace("```text", " ").replace("`", " ").replaceAll("\\s+", " ");
  }

  boolean isWhole() {
    return sections.size() == PROMISES + 1;
  }

  boolean says(int promise, String words) {
    return promise < sections.size() && sections.get(promise).contains(plain(words));
  }

  /** The sentences of a promise that name a boundary case. */
  List<String> edges(int promise) {
    List<String> found = new ArrayList<>();
    for (String sentence : sections.get(promise).split("(?<=\\.) ")) {
      for (String mark : MARKS) {
        if (sentence.contains(mark)) {
          found.add(sentence);
          break;
        }
      }
    }
    return found;
  }
}
