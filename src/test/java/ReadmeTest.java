import java.io.IOException;
import java.lang.reflect.Method;
import java.lang.reflect.Modifier;
import java.nio.charset.StandardCharsets;
import java.nio.file.DirectoryStream;
import java.nio.file.Files;
import java.nio.file.Path;
import java.util.ArrayList;
import java.util.List;
import java.util.Set;
import java.util.TreeSet;
import java.util.regex.Matcher;
import java.util.regex.Pattern;

/** README.md says what is so: its examples answer as it tells, and no call, answer below 0 or test is left out. */
public final class ReadmeTest {
  private static final Pattern BLOCK = Pattern.compile("(?s)```java\n(.*?)```");
  private static final Pattern TEXT = Pattern.compile("\"([^\"]*)\"");

  /** What a line of an example may be: an object made, a text told over several lines, or a call. */
  private static final Pattern MADE = Pattern.compile("MarchFolk x = new MarchFolk\\(\\);\\s*");
  private static final Pattern TOLD =
      Pattern.compile("(tell)\\(x, (\"[^\"]*\"(?:\\s*\\+\\s*\"[^\"]*\")*)\\);\\s*// (-?\\d+)(?:: [^\n]*)?\\s*");
  private static final Pattern CALLED =
      Pattern.compile("x\\.(\\w+)\\(([-\\d, ]*)\\);\\s*// (-?\\d+)(?:: [^\n]*)?\\s*");

  private static int wrong = 0;
  private static int examples = 0;
  private static MarchFolk x = new MarchFolk();
  private static final Set<Long> answersBelow = new TreeSet<>();

  private static void wrong(String what) {
    wrong++;
    System.out.println(what);
  }

  /** Feeds a text of at most 800 signs and has it read: how many LINES it has, or -4. */
  static int tell(MarchFolk x, String text) {
    x.end(0);
    for (int at = 0; at < text.length(); at += 20) {
      int[] fours = new int[5];
      for (int i = 0; i < 20; i++) {
        int sign = at + i < text.length() ? text.charAt(at + i) : ' ';
        fours[i / 4] = fours[i / 4] << 8 | sign & 255;
      }
      x.feed(fours[0], fours[1], fours[2], fours[3], fours[4]);
    }
    x.end(text.length());
    return x.march();
  }

  private static String withoutIndents(String code) {
    return code.replaceAll("\\s+", " ");
  }

  private static String read(String file) throws IOException {
    return new String(Files.readAllBytes(Path.of(file)), StandardCharsets.UTF_8);
  }

  private static void due(String example, long got, String want) {
    examples++;
    long wanted = Long.parseLong(want);
    if (wanted < 0) answersBelow.add(wanted);
    if (got != wanted) wrong(example + " answered " + got + ", README.md says " + want);
  }

  private static void example(String block) throws ReflectiveOperationException {
    int at = 0;
    while (at < block.length()) {
      Matcher made = MADE.matcher(block).region(at, block.length());
      Matcher told = TOLD.matcher(block).region(at, block.length());
      Matcher called = CALLED.matcher(block).region(at, block.length());
      if (made.lookingAt()) {
        x = new MarchFolk();
        at = made.end();
      } else if (told.lookingAt()) {
        String text = texts(told.group(2));
        due("tell(x, \"" + text + "\")", tell(x, text), told.group(3));
        at = told.end();
      } else if (called.lookingAt()) {
        due(called.group(1) + "(" + called.group(2) + ")", call(called.group(1), called.group(2)), called.group(3));
        at = called.end();
      } else {
        wrong("this is no example that can be run: " + block.substring(at));
        return;
      }
    }
  }

  private static String texts(String joined) {
    StringBuilder all = new StringBuilder();
    Matcher text = TEXT.matcher(joined);
    while (text.find()) all.append(text.group(1));
    return all.toString();
  }

  private static long call(String name, String args) throws ReflectiveOperationException {
    String[] told = args.isEmpty() ? new String[0] : args.split(", *");
    for (Method m : MarchFolk.class.getDeclaredMethods()) {
      if (!m.getName().equals(name) || !Modifier.isPublic(m.getModifiers()) || m.getParameterCount() != told.length) continue;
      Object[] with = new Object[told.length];
      for (int i = 0; i < told.length; i++) {
        boolean isLong = m.getParameterTypes()[i] == long.class;
        with[i] = isLong ? (Object) Long.valueOf(told[i]) : (Object) Integer.valueOf(told[i]);
      }
      return ((Number) m.invoke(x, with)).longValue();
    }
    wrong("there is no call " + name + "(" + args + ")");
    return Long.MIN_VALUE;
  }

  private static void examples(String readme) throws IOException, ReflectiveOperationException {
    String own = withoutIndents(read("src/test/java/ReadmeTest.java"));
    int helpers = 0;
    Matcher block = BLOCK.matcher(readme);
    while (block.find()) {
      if (block.group(1).contains("static int tell(")) {
        helpers++;
        if (!own.contains(withoutIndents(block.group(1)))) wrong("the helper of README.md is another one than this test's");
      } else {
        example(block.group(1));
      }
    }
    if (helpers != 1) wrong(helpers + " helpers in README.md, one is due");
  }

  private static void namesAll(String readme) throws IOException {
    String calls = between(readme, "### All calls\n", "\n### ");
    for (Method m : MarchFolk.class.getDeclaredMethods()) {
      boolean isNamed = calls.contains("`" + m.getName() + "`");
      if (Modifier.isPublic(m.getModifiers()) && !isNamed) wrong("README.md doesn't name " + m.getName() + "()");
    }
    String answers = between(readme, "### What the answers below 0 tell\n", "\n## ");
    for (long below = -1; below >= -8; below--) {
      if (!answers.contains("\n| " + below + " ")) wrong("README.md doesn't say what " + below + " tells");
      if (!answersBelow.contains(below)) wrong("README.md has no example that answers " + below);
    }
    String tests = between(readme, "\n## Tests\n", "");
    for (String name : testNames()) {
      if (!tests.contains("`" + name + "`")) wrong("README.md doesn't name the test " + name);
    }
  }

  private static String between(String readme, String from, String to) {
    int begin = readme.indexOf(from);
    if (begin < 0) {
      wrong("README.md lacks:" + from);
      return "";
    }
    int end = to.isEmpty() ? readme.length() : readme.indexOf(to, begin + from.length());
    return readme.substring(begin, end < 0 ? readme.length() : end);
  }

  private static List<String> testNames() throws IOException {
    List<String> names = new ArrayList<>();
    try (DirectoryStream<Path> files = Files.newDirectoryStream(Path.of("src/test/java"), "*.java")) {
      for (Path file : files) names.add(file.getFileName().toString().replace(".java", ""));
    }
    return names;
  }

  public static void main(String[] args) throws Exception {
    String readme = read("README.md");
    examples(readme);
    namesAll(readme);
    System.out.println(examples + " examples, " + wrong + " things not as README.md says");
    if (wrong != 0 || examples == 0) System.exit(1);
  }
}
