import java.lang.reflect.Method;
import java.lang.reflect.Modifier;
import java.nio.charset.StandardCharsets;
import java.nio.file.Files;
import java.nio.file.Path;
import java.util.HashSet;
import java.util.List;
import java.util.Set;
import java.util.regex.Matcher;
import java.util.regex.Pattern;

/** README.md's examples answer as it says, and it tells each call with its refusals. */
public final class ReadmeTest extends Check {
  private static final Pattern CALL = Pattern.compile("x\\.(\\w+)\\(([-0-9, ]*)\\); +// (-?\\d+)(: .+)?");
  private static final Pattern FED =
      Pattern.compile("for \\(char c : \"([^\"\\\\]*)\"\\.toCharArray\\(\\)\\) \\{ x\\.feed\\(c\\); \\}");
  private static final String NEW = "SandwichesSpeak x = new SandwichesSpeak();";
  private static final String[] GROUPS = {"Layers, people: set person told", "Texts: feed text force",
      "Sandwiches, Sundays: sandwich sunday run again all", "What would be best: best leaveOut spare add",
      "Moods that were told: tells film drawn chance image back count", "The host: sheet cell copy people taken"};

  private static final Set<String> run = new HashSet<>();
  private static int calls;
  private static SandwichesSpeak x;

  public static void main(String[] args) throws Exception {
    List<String> lines = Files.readAllLines(Path.of("README.md"), StandardCharsets.US_ASCII);
    examples(lines);
    everyCall(lines);
    tests(lines);
    end("ReadmeTest");
  }

  private static void need(boolean holds, String what) {
    due(what, holds ? 1 : 0, 1);
  }

  private static void examples(List<String> lines) {
    boolean inside = false;
    for (String line : lines) {
      if (line.startsWith("```")) {
        need(inside ? line.equals("```") : line.equals("```java"), "an example's border: " + line);
        inside = !inside;
      } else if (inside) {
        example(line);
      }
    }
    need(!inside, "the last example ends");
  }

  private static void example(String line) {
    Matcher call = CALL.matcher(line);
    Matcher fed = FED.matcher(line);
    if (line.equals(NEW)) {
      need(calls <= 512, "few enough calls of one object");
      x = new SandwichesSpeak();
      calls = 0;
    } else if (x == null) {
      need(false, "an object ahead of: " + line);
    } else if (call.matches()) {
      String numbers = call.group(2).replace(",", "");
      due(line, ask(x, (call.group(1) + " " + numbers).trim()), Long.parseLong(call.group(3)));
      run.add(call.group(1));
      calls++;
    } else if (fed.matches()) {
      fed(x, fed.group(1));
      run.add("feed");
      calls += fed.group(1).length();
    } else {
      need(false, "an example that can be run: " + line);
    }
  }

  /** Each method of the class stands in the table of its group and in that of refusals, and is run. */
  private static void everyCall(List<String> lines) {
    int grouped = 0;
    String refusals = part(lines, "## What a refused call answers");
    for (String group : GROUPS) {
      String[] halves = group.split(": ");
      String part = part(lines, "### " + halves[0]);
      for (String name : halves[1].split(" ")) {
        grouped++;
        need(part.contains("\n| `" + name + "("), name + " in the table of " + halves[0]);
        need(Pattern.compile("\n\\|[^|]*`" + name + "`[^|]*\\|").matcher(refusals).find(), name + " and its refusals");
        need(run.contains(name), name + " in an example");
      }
    }
    int methods = 0;
    for (Method m : SandwichesSpeak.class.getDeclaredMethods()) {
      if (Modifier.isPublic(m.getModifiers())) {
        methods++;
        need(String.join("\n", lines).matches("(?s).*\n\\| `" + m.getName() + "\\(" + names(m) + "\\)` .*"),
            m.getName() + " with its numbers");
      }
    }
    due("methods in groups", grouped, methods);
  }

  /** So many names as a method takes. */
  private static String names(Method m) {
    String one = "\\w+";
    return m.getParameterCount() == 0 ? "" : one + (", " + one).repeat(m.getParameterCount() - 1);
  }

  /** What stands behind a heading, till the next one. */
  private static String part(List<String> lines, String heading) {
    int at = lines.indexOf(heading);
    need(at >= 0, "there is: " + heading);
    StringBuilder part = new StringBuilder("\n");
    for (int i = at + 1; i < lines.size() && !lines.get(i).startsWith("#"); i++) {
      part.append(lines.get(i)).append('\n');
    }
    return part.toString();
  }

  /** How to run the tests, and each of them by its name. */
  private static void tests(List<String> lines) throws Exception {
    String part = part(lines, "## Tests");
    need(part.contains("`bash .ci/run`"), "how to run the tests");
    need(part.contains("`../shared/tests`"), "the tests that are shared");
    need(Files.isExecutable(Path.of(".ci/run")), ".ci/run can be run");
    try (var files = Files.list(Path.of("src/test/java"))) {
      for (Path file : files.toList()) {
        String name = file.getFileName().toString().replace(".java", "");
        need(part.contains("`" + name + "`"), name + " is told");
      }
    }
  }
}
