import java.io.IOException;
import java.nio.file.Files;
import java.nio.file.Path;
import java.util.Map;
import java.util.Set;
import java.util.TreeMap;
import java.util.TreeSet;
import java.util.regex.Matcher;
import java.util.regex.Pattern;

/** The rules of LANGUAGE.md that can be seen in the text of the source; FaceTest has others. */
public final class LanguageTest {
  private static final Path SOURCE = Path.of("src/main/java/ScoreboardCpu.java");
  private static final String WHOLE = "(?:int|long|short|byte|char|boolean)";
  private static final Pattern METHOD = Pattern.compile(
      "\\b(?:void|" + WHOLE + ")\\s+(\\w+)\\s*\\([^)]*\\)\\s*\\{");

  public static void main(String[] args) throws IOException {
    String source = withoutComments(Files.readString(SOURCE));
    Map<String, String> bodies = bodies(source);
    Check.due("methods of the document found", bodies.size() >= 16, true);
    oneClass(source);
    wholeNumbersAlone(source);
    noWordOfRules4And6(source);
    arraysAreMadeAtTheStart(source, bodies);
    methodsAreShort(bodies);
    noCallInsideArguments(bodies);
    noRecursionAndSixDeepAtMost(bodies);
    Check.end();
  }

  private static String withoutComments(String source) {
    return source.replaceAll("(?s)/\\*.*?\\*/", "").replaceAll("//[^\\n]*", "");
  }

  private static Map<String, String> bodies(String source) {
    Map<String, String> bodies = new TreeMap<>();
    Matcher method = METHOD.matcher(source);
    while (method.find()) {
      String body = source.substring(method.end(), closing(source, method.end(), '{', '}'));
      bodies.merge(method.group(1), body, String::concat);
    }
    return bodies;
  }

  /** Where the bracket that was opened just before from is closed. */
  private static int closing(String text, int from, char open, char close) {
    int depth = 1;
    int at = from;
    while (at < text.length() - 1 && depth > 0) {
      char here = text.charAt(at++);
      depth += here == open ? 1 : here == close ? -1 : 0;
    }
    return at;
  }

  private static void none(int rule, String text, String pattern) {
    Matcher matcher = Pattern.compile(pattern).matcher(text);
    if (matcher.find()) {
      Check.due("rule " + rule + ": '" + matcher.group() + "' in the source", true, false);
    }
  }

  private static void oneClass(String source) {
    none(1, source, "\\b(package|interface|enum|record|protected)\\b");
    Check.due("rule 1: classes", source.split("\\bclass\\b", -1).length - 1, 1);
  }

  // A name with a great letter first and a small one in it would be a class of the library.
  private static void wholeNumbersAlone(String source) {
    none(2, source, "\\b(float|double)\\b|\"");
    none(2, source, "\\[\\s*\\]\\s*\\[|\\w\\[[^\\]\\[]*\\]\\[");
    none(3, source, "\\bimport\\b");
    none(3, source.replaceAll("\\bScoreboardCpu\\b", ""), "\\b[A-Z][A-Z_0-9]*[a-z]\\w*");
    none(3, source, "\\b(getClass|hashCode|equals|toString|notify|notifyAll|wait|clone)\\s*\\(");
  }

  private static void noWordOfRules4And6(String source) {
    none(4, source, "\\bnull\\b");
    none(6, source, "\\b(throws?|try|catch|finally|synchronized|assert|instanceof)\\b|->|::");
    none(6, source, "\\(\\s*" + WHOLE + "\\s*\\[\\s*\\]\\s*\\)");
  }

  private static void arraysAreMadeAtTheStart(String source, Map<String, String> bodies) {
    none(4, source, "\\bnew\\b(?!\\s+" + WHOLE + "\\s*\\[([A-Z][A-Z_0-9]*|[1-9][0-9]*)\\])");
    bodies.forEach((name, body) -> none(4, body, "\\bnew\\b"));
    String constant = "(final\\s+)?(int|long)\\s+\\w+\\s*=";
    String method = "(void|" + WHOLE + ")\\s+\\w+\\s*\\(";
    none(5, source, "\\bstatic\\b(?!\\s+(" + constant + "|" + method + "))");
  }

  private static void methodsAreShort(Map<String, String> bodies) {
    bodies.forEach((name, body) -> {
      Check.due("rule 10: " + name + " has some sixty lines", body.split("\n").length <= 60, true);
    });
  }

  private static void noCallInsideArguments(Map<String, String> bodies) {
    String call = "\\b(" + String.join("|", bodies.keySet()) + ")\\(";
    bodies.forEach((name, body) -> {
      Matcher outer = Pattern.compile(call).matcher(body);
      while (outer.find()) {
        none(10, body.substring(outer.end(), closing(body, outer.end(), '(', ')')), call);
      }
    });
  }

  private static void noRecursionAndSixDeepAtMost(Map<String, String> bodies) {
    Map<String, Set<String>> called = new TreeMap<>();
    bodies.forEach((name, body) -> {
      called.put(name, new TreeSet<>());
      for (String other : bodies.keySet()) {
        if (Pattern.compile("\\b" + other + "\\(").matcher(body).find()) {
          called.get(name).add(other);
        }
      }
    });
    // Leaves are taken away again and again: what is left after six rounds is too deep or a circle.
    for (int round = 0; round < 6; round++) {
      Set<String> left = new TreeSet<>(called.keySet());
      called.keySet().removeIf(name -> called.get(name).stream().noneMatch(left::contains));
    }
    Check.due("rules 8 and 10: too deep " + called.keySet(), called.size(), 0);
  }
}
