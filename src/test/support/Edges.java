import java.io.IOException;
import java.nio.charset.StandardCharsets;
import java.nio.file.Files;
import java.nio.file.Path;
import java.util.ArrayList;
import java.util.List;
import java.util.Map;
import java.util.TreeMap;
import java.util.function.IntToLongFunction;
import java.util.function.Supplier;
import java.util.function.ToLongFunction;
import java.util.regex.Matcher;
import java.util.regex.Pattern;

/**
 * What the tests of edges share: which sentence of ../shared/DOC.md is tested (it must stand there, and must have
 * answers of its own), the answers that are due, and how an object looks from outside.
 */
final class Edges {
  static final int NONE = -1;

  /** Where a sentence names an edge: a refusal, NONE, nothing, a span, a bound. */
  private static final Pattern EDGE =
      Pattern.compile("NONE|-\\d|likewise|\\.\\. [0-9P]|nothing|none come|at most|more than|lowest|, cut|modulo|1[01]th|9th");

  private static final Map<String, String> SECTIONS = sections();
  private static final Map<String, boolean[]> QUOTED = new TreeMap<>();
  private static String section = "";
  private static String sentence = "";
  private static int answersOfIt = 1;
  private static int sentences = 0;
  private static int answers = 0;
  private static int wrong = 0;

  private Edges() {}

  // ---- The document ----

  /** By their keys: "WHAT" it is, the Terms "I" to "VII", "TOKENS", "FAULTS", "SLOTS", the promises "1" to "71". */
  private static Map<String, String> sections() {
    Map<String, String> all = new TreeMap<>();
    String key = "";
    for (String line : document()) {
      Matcher promise = Pattern.compile("## Promise (\\d+): .*").matcher(line);
      Matcher term = Pattern.compile("([IV]+)\\. .*").matcher(line);
      Matcher block = Pattern.compile("  (TOKENS|FAULTS|SLOTS)\\b.*").matcher(line);
      if (promise.matches()) {
        key = promise.group(1);
      } else if (line.startsWith("## ")) {
        key = line.equals("## What it is") ? "WHAT" : "";
      } else if (term.matches()) {
        key = term.group(1);
      } else if (block.matches()) {
        key = block.group(1);
      }
      if (!key.isEmpty()) all.merge(key, line, (a, b) -> a + "\n" + b);
    }
    return all;
  }

  private static List<String> document() {
    try {
      return Files.readAllLines(Path.of("../shared/DOC.md"), StandardCharsets.UTF_8);
    } catch (IOException e) {
      System.out.println("../shared/DOC.md can't be read: " + e);
      System.exit(1);
      return new ArrayList<>();
    }
  }

  /** The answers that follow are due by these words of the document. */
  static void says(String key, String words) {
    said();
    section = key;
    sentence = words;
    answersOfIt = 0;
    sentences++;
    String text = SECTIONS.getOrDefault(key, "");
    int at = text.indexOf(words);
    if (at < 0) {
      wrong("the document doesn't say so");
      return;
    }
    boolean[] quoted = QUOTED.computeIfAbsent(key, k -> new boolean[text.length()]);
    for (int i = at; i < at + words.length(); i++) quoted[i] = true;
  }

  private static void said() {
    if (answersOfIt == 0) wrong("no answer is due by it");
  }

  /** Tells of these sections each edge that no sentence named, and ends with exit code 1 if anything was wrong. */
  static void end(String... keys) {
    said();
    for (String key : keys) {
      String text = SECTIONS.getOrDefault(key, "");
      boolean[] quoted = QUOTED.getOrDefault(key, new boolean[text.length()]);
      Matcher edge = EDGE.matcher(text.substring(text.indexOf('\n') + 1));
      int from = text.indexOf('\n') + 1;
      section = key;
      if (!QUOTED.containsKey(key)) {
        sentence = "";
        wrong("no sentence of it is tested");
      }
      while (edge.find()) {
        sentence = text.substring(from + edge.start(), Math.min(text.length(), from + edge.start() + 40));
        if (!quoted[from + edge.start()]) wrong("this edge is not tested");
      }
    }
    System.out.println(sentences + " sentences, " + answers + " answers, " + wrong + " not as due");
    if (wrong != 0) System.exit(1);
  }

  /** The keys of the promises from one to another, and others. */
  static String[] promises(int from, int to, String... others) {
    List<String> keys = new ArrayList<>(List.of(others));
    for (int promise = from; promise <= to; promise++) keys.add("" + promise);
    return keys.toArray(new String[0]);
  }

  // ---- Answers ----

  private static void wrong(String what) {
    wrong++;
    if (wrong <= 40) System.out.println(section + ", \"" + sentence + "\": " + what);
  }

  static void due(String call, long got, long want) {
    answers++;
    answersOfIt++;
    if (got != want) wrong(call + " answered " + got + ", due is " + want);
  }

  /** The least and the greatest number have their answers; the next ones beyond, and wild ones, are refused. */
  static void bounds(String call, IntToLongFunction f, int least, long ofLeast, int greatest, long ofGreatest, long refused) {
    due(call + " of the least, " + least, f.applyAsLong(least), ofLeast);
    due(call + " of the greatest, " + greatest, f.applyAsLong(greatest), ofGreatest);
    for (int n : new int[] {least - 1, greatest + 1, -1000, 1000000, Integer.MIN_VALUE, Integer.MAX_VALUE}) {
      if (n < least || n > greatest) due(call + " of " + n, f.applyAsLong(n), refused);
    }
  }

  /** Two objects are made alike; the call is refused by one, which looks like the other behind it. */
  static void leavesAlone(String call, Supplier<MarchFolk> made, ToLongFunction<MarchFolk> refused, long want) {
    MarchFolk x = made.get();
    due(call, refused.applyAsLong(x), want);
    answers++;
    String is = look(x);
    String was = look(made.get());
    if (!is.equals(was)) wrong(call + " was refused, but changed something:\n  " + was + "\n  " + is);
  }

  /** All that can be seen of an object, in some 350 calls; it isn't to be used behind it. */
  static String look(MarchFolk x) {
    StringBuilder seen = new StringBuilder();
    for (int what = 0; what < 10; what++) seen.append(x.count(what)).append(' ');
    seen.append("fault ").append(x.fault(0)).append(' ').append(x.fault(1));
    for (int r = 0; r < x.count(4); r++) for (int what = 0; what < 3; what++) seen.append(' ').append(x.road(r, what));
    for (int p = 0; p < x.count(5); p++) for (int what = 0; what < 5; what++) seen.append(' ').append(x.person(p, what));
    for (int n = 0; n < 10; n++) seen.append(' ').append(x.at(n)).append(' ').append(x.crowd(n));
    seen.append(" over ").append(x.over()).append(" reach ").append(x.reach(0)).append(" costs ").append(x.costs());
    for (int n = 0; n <= 300; n += 100) seen.append(' ').append(x.buys(n));
    rows(x, seen);
    seen.append("\n  acts");
    for (int i = 0; i <= 40; i++) {
      seen.append(' ').append(x.answered()).append('/').append(x.barred());
      if (x.undo() < 0) break;
    }
    seen.append("\n  images");
    for (int k = 0; k < 3; k++) {
      seen.append(' ').append(x.back(k)).append(' ').append(x.count(0)).append(' ').append(x.count(6)).append(' ')
          .append(x.answered()).append(' ').append(x.barred()).append(' ').append(x.person(0, 3));
    }
    seen.append("\n  tape ").append(x.march()).append(' ').append(x.fault(0)).append(' ').append(x.fault(1));
    return seen.toString();
  }

  private static void rows(MarchFolk x, StringBuilder seen) {
    seen.append("\n  rows");
    for (int slot = 0; slot < 4; slot++) {
      seen.append(' ').append(x.starts(slot)).append(' ').append(x.ask(slot)).append(' ').append(x.rules(slot));
    }
    for (int slot = 0; slot < 2; slot++) {
      for (int i = 0; i < 4; i++) seen.append(' ').append(number(x, slot, i));
    }
  }

  /** What can be seen of a number: what rules() answers to it as a PLACE at STEP 0, by a row in SLOT 3. */
  static long number(MarchFolk x, int slot, int i) {
    for (int width = 0; width < 4; width++) {
      x.row(3, width, 2);
      if (x.paste(slot, i, 3, 1, 1) == 0) return 100 * width + x.rules(3);
    }
    return -1000;
  }

  // ---- Marches ----

  static void feed(MarchFolk x, String text) {
    for (int i = 0; i < text.length(); i += 20) {
      int[] four = new int[5];
      for (int j = 0; j < 20; j++) four[j / 4] = four[j / 4] << 8 | (i + j < text.length() ? text.charAt(i + j) & 255 : 0);
      x.feed(four[0], four[1], four[2], four[3], four[4]);
    }
    x.end(text.length());
  }

  static MarchFolk told(String text) {
    MarchFolk x = new MarchFolk();
    feed(x, text);
    x.march();
    return x;
  }

  static void put(MarchFolk x, int slot, int width, long... numbers) {
    x.row(slot, width, numbers.length);
    for (int i = 0; i < numbers.length; i++) x.write(slot, i, numbers[i]);
  }

  static String times(int n, String text) {
    StringBuilder all = new StringBuilder();
    for (int i = 0; i < n; i++) all.append(text);
    return all.toString();
  }

  static String person(int home, int wants, int reason, int needs, int board) {
    return "person at " + home + " wants " + wants + " reason " + reason + " needs " + needs + " board " + board + ";";
  }

  /** Nobody, no ROADS: over at STEP 0, at 1. */
  static final String BARE = "march places 2 start 1 rule 0 odds 0;";

  /**
   * As much as there can be. PERSON 7 alone falls in, at 6 at STEP 0, and leads over 5 and 4 to 0 (7 long, the
   * direct ROAD 9 is 99), where he leaves at STEP 3: over. Rain for ever.
   */
  static String full() {
    StringBuilder text = new StringBuilder("march places 7 start 6 rule 3 odds 10;");
    text.append("road 0 to 1 long 99;");
    for (int i = 1; i < 6; i++) text.append("road " + i + " to " + (i + 1) + " long 1;");
    for (int i = 2; i < 5; i++) text.append("road 0 to " + i + " long 5;");
    text.append("road 6 to 0 long 99;");
    text.append(person(0, 6, 0, 9, 1));
    for (int i = 1; i < 7; i++) text.append(person(1, 0, i % 5, 9, 1));
    text.append(person(6, 0, 5, 0, 99));
    for (int i = 0; i < 6; i++) text.append("grant" + i + "costs99;");
    return text.toString();
  }

  /**
   * For ever: PERSON 0 wants 1 (over 0 and 3: 2 long; from 0 itself: 9), PERSON 1 wants 4 (over 0 and 2). From 0 they
   * vote for 3 and 2, from 2 for 0 and 4: of such ties the least is taken. By start 0: at 0 at even STEPS, at 2 at odd
   * ones. By start 3 (3 votes: 1 and 0): at 0 at odd STEPS, at 2 at even ones from 2 on.
   */
  static String tied(int start, int odds, String others) {
    return "march places 5 start " + start + " rule 0 odds " + odds + ";"
        + "road 0 to 1 long 9; road 0 to 3 long 1; road 3 to 1 long 1; road 0 to 2 long 1; road 2 to 4 long 1;"
        + person(start, 1, 0, 0, 1) + person(start, 4, 1, 0, 1) + others;
  }

  /**
   * Rule 0 leads over 0, 1, 2, 3 to 0: there fall in 0 and 1 at STEP 0, 2 at STEP 1, 3 at STEP 2;
   * there leave 0 at STEP 2, 1 and 3 at STEP 3, 2 at STEP 4; then nobody is in it. PLACE 4 has no ROAD.
   */
  static String hills(int rule, int odds) {
    return "march places 5 start 0 rule " + rule + " odds " + odds + ";"
        + "road 0 to 1 long 3; road 1 to 2 long 2; road 2 to 3 long 4; road 0 to 3 long 9; road 1 to 2 long 7;"
        + person(0, 2, 0, 0, 5) + person(0, 3, 1, 1, 9) + person(1, 0, 2, 2, 1) + person(2, 3, 0, 1, 2)
        + person(4, 0, 3, 0, 4) + "grant 0 costs 7; grant 1 costs 4; grant 0 costs 5;";
  }

  /** A march with acts, images, rows and a TAPE, all unlike a new object's. */
  static MarchFolk busy() {
    MarchFolk x = told(hills(0, 5));
    x.need(0, 1);
    x.image(2);
    x.need(0, 0);
    x.answer(3, 1);
    x.bar(1, 1);
    x.image(0);
    x.answer(3, 0);
    x.answer(1, 1);
    put(x, 0, 0, 1, 0, 2, 1);
    put(x, 1, 1, 2, 1, 0, 0);
    feed(x, "march places 3 x");
    return x;
  }
}
