import java.lang.reflect.Field;
import java.lang.reflect.Method;
import java.lang.reflect.Modifier;
import java.nio.file.Files;
import java.nio.file.Path;
import java.util.Arrays;
import java.util.Set;
import java.util.TreeSet;

/** The public face, and those rules of LANGUAGE.md that can be read off the class or its source. */
public final class FaceTest {
  private static final String[] FACE = {"int man(int)", "int maid(int,int)",
      "int likes(int,int,int,int)", "int set(int,int,int)", "int told(int,int,int)",
      "int of(int,int)", "int feed(int)", "int text()", "int force(int)", "int ask(int,int)",
      "int part(int)", "int way(int,int,int,int)", "int mistake(int)", "int sure(int)",
      "int pairings(int)", "int best(int,int)", "int row(int)", "int year(int,int)",
      "int judge(int,int)", "int drawn(int)", "long chance(int,int,int)", "int image()",
      "int back()", "int count(int)", "int sheet(int,int,int)", "int cell(int,int,int)",
      "int copy(int,int,int,int,int)", "int likings(int,int,int,int)", "int taken(int,int)"};
  private static final Due DUE = new Due();

  public static void main(String[] args) throws Exception {
    constants();
    methods();
    classesInside();
    source();
    DUE.end();
  }

  private static void constants() {
    DUE.is("NONE", RefusedMayAsk.NONE, -1);
    DUE.is("BAD", RefusedMayAsk.BAD, -2);
    DUE.is("STATE", RefusedMayAsk.STATE, -3);
    DUE.is("FULL", RefusedMayAsk.FULL, -4);
    DUE.is("NO", RefusedMayAsk.NO, -4611686018427387904L);
    Set<String> names = new TreeSet<>();
    for (Field field : RefusedMayAsk.class.getDeclaredFields()) {
      if (!Modifier.isPrivate(field.getModifiers())) {
        names.add(field.getName());
      }
    }
    DUE.holds("no constant more: " + names, names.equals(Set.of("NONE", "BAD", "STATE", "FULL", "NO")));
    DUE.holds("public and final", Modifier.isFinal(RefusedMayAsk.class.getModifiers()));
    DUE.is("constructors", RefusedMayAsk.class.getDeclaredConstructors().length, 1);
  }

  private static String told(Method method) {
    StringBuilder b = new StringBuilder(method.getReturnType() + " " + method.getName() + "(");
    for (Class<?> type : method.getParameterTypes()) {
      b.append(b.charAt(b.length() - 1) == '(' ? "" : ",").append(type);
    }
    return b.append(")").toString();
  }

  private static void methods() {
    Set<String> face = new TreeSet<>();
    Set<String> names = new TreeSet<>();
    for (Method method : RefusedMayAsk.class.getDeclaredMethods()) {
      if (!Modifier.isPrivate(method.getModifiers())) {
        face.add(told(method));
        names.add(method.getName());
      }
    }
    DUE.holds("the face: " + face, face.equals(new TreeSet<>(Arrays.asList(FACE))));
    for (Method method : RefusedMayAsk.class.getDeclaredMethods()) {
      boolean hidden = Modifier.isPrivate(method.getModifiers());
      DUE.holds("rule 1: " + method, !hidden || !names.contains(method.getName()));
      DUE.holds("rule 11: " + method, method.getParameterCount() <= 7);
    }
    for (Class<?> inside : RefusedMayAsk.class.getDeclaredClasses()) {
      for (Method method : inside.getDeclaredMethods()) {
        DUE.holds("rule 1: " + method, !names.contains(method.getName()));
        DUE.holds("rule 11: " + method, method.getParameterCount() <= 7);
      }
    }
  }

  private static void classesInside() {
    Class<?>[] inside = RefusedMayAsk.class.getDeclaredClasses();
    DUE.holds("rule 11: classes", inside.length <= 12);
    for (Class<?> c : inside) {
      DUE.holds("rule 1: " + c, Modifier.isStatic(c.getModifiers())
          && !Modifier.isPublic(c.getModifiers()) && !Modifier.isProtected(c.getModifiers()));
      int fields = 0;
      for (Field field : c.getDeclaredFields()) {
        boolean still = Modifier.isStatic(field.getModifiers());
        fields += still ? 0 : 1;
        DUE.holds("rule 5: " + field, !still || Modifier.isFinal(field.getModifiers()));
      }
      DUE.holds("rule 11: fields of " + c, fields <= 20);
    }
  }

  private static void source() throws Exception {
    String source = Files.readString(Path.of("src/main/java/RefusedMayAsk.java"));
    String code = source.replaceAll("(?s)/\\*.*?\\*/", "").replaceAll("//[^\\n]*", "")
        .replaceAll("\"[^\"\\n]*\"", "\"\"");
    String[] banned = {"throw", "throws", "try", "catch", "finally", "synchronized", "assert",
        "package", "Exact", "System.out", "Thread", "Random", "currentTimeMillis", "nanoTime",
        "hashCode", "toString", "Object", "->", "::", "NaN"};
    for (String word : banned) {
      boolean letters = Character.isLetter(word.charAt(0));
      String pattern = letters ? "\\b" + java.util.regex.Pattern.quote(word) + "\\b" : word;
      DUE.holds("no " + word, !java.util.regex.Pattern.compile(pattern).matcher(code).find());
    }
    for (String line : code.split("\n")) {
      if (line.startsWith("import ")) {
        DUE.holds("rule 4: " + line, line.equals("import java.util.Arrays;"));
      }
    }
    DUE.holds("signs 1 to 127", source.chars().allMatch(c -> c > 0 && c < 128));
  }
}
