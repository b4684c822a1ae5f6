import java.io.IOException;
import java.nio.file.DirectoryStream;
import java.nio.file.Files;
import java.nio.file.Path;
import java.util.List;
import java.util.regex.Matcher;
import java.util.regex.Pattern;

/** README.md: its examples answer as they say, and it leaves out no call, constant or test. */
public final class ReadmeTest {
  private static final Pattern NEW = Pattern.compile("RefusedMayAsk town = new RefusedMayAsk\\(\\);");
  private static final Pattern FEED =
      Pattern.compile("for \\(char c : \"([^\"]*)\"\\.toCharArray\\(\\)\\) town\\.feed\\(c\\);");
  private static final Pattern CALL = Pattern.compile("town\\.(\\w+\\([^()]*\\)); +// (-?\\d+)(:.*)?");
  private static final Pattern METHOD =
      Pattern.compile("(?m)^  public (?:int|long) (\\w+)\\(([^()]*)\\) \\{$");
  private static final int METHODS = 29;
  private static final Due DUE = new Due();

  public static void main(String[] args) throws IOException {
    String readme = Files.readString(Path.of("README.md"));
    examples(readme.lines().toList());
    calls(readme, Files.readString(Path.of("src/main/java/RefusedMayAsk.java")));
    answers(readme);
    tests(readme);
    DUE.end();
  }

  private static void examples(List<String> lines) {
    RefusedMayAsk town = new RefusedMayAsk();
    boolean inside = false;
    int made = 0;
    for (String line : lines) {
      if (line.startsWith("```")) {
        inside = line.equals("```java");
      } else if (inside && NEW.matcher(line).matches()) {
        town = new RefusedMayAsk();
      } else if (inside) {
        example(town, line);
        made++;
      }
    }
    DUE.holds("there are examples", made > 0);
  }

  private static void example(RefusedMayAsk town, String line) {
    Matcher feed = FEED.matcher(line);
    Matcher call = CALL.matcher(line);
    if (feed.matches()) {
      for (char c : feed.group(1).toCharArray()) {
        town.feed(c);
      }
    } else if (call.matches()) {
      long got = Scene.make(town, call.group(1).replace("RefusedMayAsk.", ""));
      DUE.is("README.md: " + call.group(1), got, Long.parseLong(call.group(2)));
    } else {
      DUE.holds("an example is a call with its answer: " + line, false);
    }
  }

  private static void calls(String readme, String source) {
    Matcher method = METHOD.matcher(source);
    int found = 0;
    while (method.find()) {
      String told = method.group(1) + "(" + method.group(2).replace("int ", "") + ")";
      DUE.holds("README.md has a row for " + told, readme.contains("\n| `" + told + "` |"));
      found++;
    }
    DUE.is("methods of the face", found, METHODS);
  }

  private static void answers(String readme) {
    String[] told = {"| -1 | `NONE` |", "| -2 | `BAD` |", "| -3 | `STATE` |", "| -4 | `FULL` |",
        "| -11 | |", "| -12 | |", "| -13 | |", "| -14 | |", "| -100 less p | |",
        "| " + RefusedMayAsk.NO + " | `NO` |"};
    for (String row : told) {
      DUE.holds("README.md has a row " + row, readme.contains("\n" + row));
    }
    DUE.holds("README.md names .ci/run", readme.contains("\n    .ci/run\n"));
  }

  private static void tests(String readme) throws IOException {
    try (DirectoryStream<Path> tests = Files.newDirectoryStream(Path.of("src/test/java"), "*Test.java")) {
      for (Path test : tests) {
        String name = test.getFileName().toString().replace(".java", "");
        Pattern row = Pattern.compile("(?m)^\\|[^|]*\\b" + name + "\\b[^|]*\\|");
        DUE.holds("README.md has a row for " + name, row.matcher(readme).find());
      }
    }
  }
}
