import java.io.IOException;
import java.lang.reflect.Method;
import java.nio.file.Files;
import java.nio.file.Path;
import java.util.List;
import java.util.Set;
import java.util.TreeSet;
import java.util.regex.Matcher;
import java.util.regex.Pattern;
import java.util.stream.Stream;

/** README.md: its examples give the answers told there, and its tables are true. */
public final class ReadmeTest {
  private static final Pattern MADE = Pattern.compile(
      "ScoreboardCpu cpu = new ScoreboardCpu\\(([^)]*)\\);");
  private static final Pattern CALL = Pattern.compile(
      "cpu\\.(\\w+)\\(([^)]*)\\);(?:\\s+// ([\\w-]+)(?:: .+)?)?");
  private static final Pattern FIELDS = Pattern.compile(
      "\\| `([A-Z]+)` \\| ([^|]+) \\| ([^|]+) \\| ([^|]+) \\|.*");
  private static final Pattern TEST = Pattern.compile("`(\\w+Test)`");

  public static void main(String[] args) throws IOException, ReflectiveOperationException {
    List<String> lines = Files.readAllLines(Path.of("README.md"));
    examplesAnswerAsTold(lines);
    theTableOfFieldsIsTrue(lines);
    everyTestIsNamed(lines);
    Check.end();
  }

  private static void examplesAnswerAsTold(List<String> lines)
      throws ReflectiveOperationException {
    ScoreboardCpu cpu = null;
    boolean inside = false;
    Set<String> called = new TreeSet<>();
    for (String line : lines) {
      Matcher made = MADE.matcher(line);
      Matcher call = CALL.matcher(line);
      if (line.startsWith("```")) {
        inside = line.equals("```java");
        cpu = null;
      } else if (inside && made.matches()) {
        int[] given = numbers(made.group(1));
        cpu = new ScoreboardCpu(given[0], given[1], given[2], given[3]);
      } else if (inside && call.matches()) {
        answersAsTold(line, cpu, call);
        called.add(call.group(1));
      } else if (inside) {
        Check.due("an example has nothing but calls: " + line, false, true);
      }
    }
    Check.due("methods in the examples " + called, called.size(), 16);
  }

  private static void answersAsTold(String line, ScoreboardCpu cpu, Matcher call)
      throws ReflectiveOperationException {
    int[] numbers = numbers(call.group(2));
    Object[] given = new Object[numbers.length];
    Class<?>[] types = new Class<?>[numbers.length];
    for (int i = 0; i < numbers.length; i++) {
      given[i] = numbers[i];
      types[i] = int.class;
    }
    Method method = ScoreboardCpu.class.getMethod(call.group(1), types);
    Object answer = method.invoke(cpu, given);
    String told = call.group(3);
    if (answer == null || told == null) {
      Check.due("an answer and its comment: " + line, answer == null && told == null, true);
    } else if (answer instanceof Boolean) {
      Check.due(line, (Boolean) answer, told.equals("true"));
      Check.due("true or false: " + line, told.matches("true|false"), true);
    } else {
      Check.due(line, (Integer) answer, number(told));
    }
  }

  private static int[] numbers(String list) throws ReflectiveOperationException {
    if (list.isEmpty()) {
      return new int[0];
    }
    String[] parts = list.split(", ");
    int[] numbers = new int[parts.length];
    for (int i = 0; i < parts.length; i++) {
      numbers[i] = number(parts[i].replace("ScoreboardCpu.", ""));
    }
    return numbers;
  }

  private static int number(String word) throws ReflectiveOperationException {
    boolean digits = word.matches("-?\\d+");
    return digits ? Integer.parseInt(word) : ScoreboardCpu.class.getField(word).getInt(null);
  }

  private static void theTableOfFieldsIsTrue(List<String> lines)
      throws ReflectiveOperationException {
    int rows = 0;
    for (String line : lines) {
      Matcher row = FIELDS.matcher(line);
      if (row.matches()) {
        Check.due("rows are in the order of the opcodes: " + line, number(row.group(1)), rows);
        for (int field = 0; field < 3; field++) {
          fieldIsTrue(line, rows, field, row.group(field + 2));
        }
        rows++;
      }
    }
    Check.due("opcodes in the table", rows, 13);
  }

  private static void fieldIsTrue(String line, int op, int field, String range) {
    if (range.equals("any int")) {
      accepted(line, op, field, Integer.MIN_VALUE, true);
      accepted(line, op, field, Integer.MAX_VALUE, true);
      return;
    }
    Check.due("a range: " + line, range.matches("0\\.\\.\\d+"), true);
    int last = Integer.parseInt(range.substring(3));
    accepted(line, op, field, -1, false);
    accepted(line, op, field, 0, true);
    accepted(line, op, field, last, true);
    accepted(line, op, field, last + 1, false);
  }

  private static void accepted(String line, int op, int field, int value, boolean due) {
    int[] fields = new int[3];
    fields[field] = value;
    ScoreboardCpu cpu = new ScoreboardCpu(1, 1, 1, 1);
    boolean got = cpu.emit(op, fields[0], fields[1], fields[2]) == 0;
    Check.due("field " + "dab".charAt(field) + " may be " + value + ": " + line, got, due);
  }

  private static void everyTestIsNamed(List<String> lines) throws IOException {
    Set<String> named = new TreeSet<>();
    for (String line : lines) {
      Matcher test = TEST.matcher(line);
      while (test.find()) {
        named.add(test.group(1));
      }
    }
    Set<String> there = new TreeSet<>();
    try (Stream<Path> files = Files.list(Path.of("src/test/java"))) {
      files.map(file -> file.getFileName().toString()).filter(name -> name.endsWith("Test.java"))
          .forEach(name -> there.add(name.replace(".java", "")));
    }
    Check.due("tests named " + named + ", and there " + there, named.equals(there), true);
  }
}
