import java.io.IOException;
import java.nio.file.DirectoryStream;
import java.nio.file.Files;
import java.nio.file.Path;
import java.util.regex.Matcher;
import java.util.regex.Pattern;

/** Each promise of the document, 1 to 30, is named by scenes of its bounds. */
public final class PromisesTest {
  private static final int PROMISES = 30;
  private static final Pattern SCENE = Pattern.compile("\\b(?:scene|rich|square|town|pair)\\((\\d+), ");
  private static final Due DUE = new Due();

  public static void main(String[] args) throws IOException {
    int[] scenes = new int[PROMISES + 1];
    try (DirectoryStream<Path> tests = Files.newDirectoryStream(Path.of("src/test/java"), "*BoundsTest.java")) {
      for (Path test : tests) {
        Matcher named = SCENE.matcher(Files.readString(test));
        while (named.find()) {
          int promise = Integer.parseInt(named.group(1));
          DUE.holds(test + " names a promise: " + promise, promise >= 1 && promise <= PROMISES);
          scenes[Math.max(0, Math.min(promise, PROMISES))]++;
        }
      }
    }
    for (int promise = 1; promise <= PROMISES; promise++) {
      DUE.holds("promise " + promise + " has a scene of its own", scenes[promise] > 0);
    }
    DUE.end();
  }
}
