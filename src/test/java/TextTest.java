import java.util.ArrayList;
import java.util.List;
import java.util.Random;
import java.util.regex.Matcher;
import java.util.regex.Pattern;

/** Compares march() and fault() with a reader by patterns, on many texts spoilt by chance. */
public final class TextTest {
  private static int wrong = 0;
  private static long checked = 0;

  private static void due(String call, String text, long got, long want) {
    checked++;
    if (got != want) {
      wrong++;
      if (wrong < 40) System.out.println(call + " answered " + got + ", due is " + want + ": " + text.replace('\n', '|'));
    }
  }

  static final class Token {
    int place;
    String text;
  }

  static List<Token> tokens(String text) {
    List<Token> all = new ArrayList<>();
    Matcher m = Pattern.compile("[a-z]+|[0-9]+|;|[^ \n]").matcher(text);
    while (m.find()) {
      Token t = new Token();
      t.place = m.start();
      t.text = m.group();
      all.add(t);
    }
    Token end = new Token();
    end.place = text.length();
    end.text = "";
    all.add(end);
    return all;
  }

  // What a line wants behind its first word: N for a number (its bounds in a row of their own), else the word.
  static final String[] FORMS = {
    "march places N start N rule N odds N ;",
    "road N to N long N ;",
    "person at N wants N reason N needs N board N ;",
    "grant N costs N ;",
  };

  /** {lines or -4, fault, place} */
  static int[] read(String text) {
    List<Token> all = tokens(text);
    int i = 0;
    int lines = 0;
    int places = 0;
    int[] counts = new int[4];
    while (!all.get(i).text.isEmpty()) {
      int form = -1;
      for (int f = 0; f < 4; f++) if (FORMS[f].startsWith(all.get(i).text + " ")) form = f;
      if (form < 0 || (lines == 0) != (form == 0)) return new int[] {-4, 1, all.get(i).place};
      counts[form]++;
      if (counts[1] > 10 || counts[2] > 8) return new int[] {-4, 3, all.get(i).place};
      int[][] bounds = {
        {2, 7, 0, -1, 0, 3, 0, 10}, {0, -1, 0, -1, 1, 99}, {0, -1, 0, -1, 0, 5, 0, 9, 1, 99}, {0, 5, 0, 99}};
      int number = 0;
      long ahead = -1;
      for (String want : FORMS[form].split(" ")) {
        Token t = all.get(i);
        if (!want.equals("N")) {
          if (!t.text.equals(want)) return new int[] {-4, 1, t.place};
        } else {
          if (!t.text.matches("[0-9]+")) return new int[] {-4, 1, t.place};
          java.math.BigInteger v = new java.math.BigInteger(t.text);
          long most = bounds[form][2 * number + 1];
          if (most < 0) most = places - 1;
          long value = v.min(java.math.BigInteger.valueOf(5000)).longValue();
          if (value < bounds[form][2 * number] || value > most) return new int[] {-4, 2, t.place};
          if (form == 1 && number == 1 && value == ahead) return new int[] {-4, 2, t.place};
          if (form == 0 && number == 0) places = (int) value;
          ahead = value;
          number++;
        }
        i++;
      }
      lines++;
    }
    return new int[] {lines, 0, -1};
  }

  static String drawText(Random random) {
    StringBuilder b = new StringBuilder("march places " + (2 + random.nextInt(6)) + " start 1 rule 2 odds 10;");
    int lines = random.nextInt(random.nextInt(5) == 0 ? 30 : 6);
    boolean many = random.nextBoolean();
    int kind = random.nextInt(3);
    for (int i = 0; i < lines && b.length() < 740; i++) {
      int which = many ? kind : random.nextInt(3);
      String sep = random.nextInt(4) == 0 ? "\n" : "";
      if (which == 0) b.append(sep + "road 0 to 1 long " + random.nextInt(102) + ";");
      if (which == 1) b.append(sep + "person at 1 wants 0 reason " + random.nextInt(7) + " needs 9 board 99;");
      if (which == 2) b.append(sep + "grant " + random.nextInt(7) + " costs " + random.nextInt(101) + ";");
    }
    int spoils = random.nextInt(4);
    String signs = " \n;azmr09517-A\t\r{`/:\u00ff\u0000\u0080";
    for (int i = 0; i < spoils && b.length() > 0; i++) {
      int at = random.nextInt(b.length());
      int how = random.nextInt(4);
      char sign = signs.charAt(random.nextInt(signs.length()));
      if (how == 0) b.deleteCharAt(at);
      if (how == 1) b.insert(at, sign);
      if (how == 2) b.setCharAt(at, sign);
      if (how == 3) b.setLength(at + 1);
    }
    return b.toString();
  }

  static void feed(MarchFolk x, String text) {
    for (int i = 0; i < text.length(); i += 20) {
      int[] words = new int[5];
      for (int j = 0; j < 20; j++) words[j / 4] = words[j / 4] << 8 | (i + j < text.length() ? text.charAt(i + j) : 'x');
      x.feed(words[0], words[1], words[2], words[3], words[4]);
    }
    x.end(text.length());
  }

  public static void main(String[] args) {
    int texts = args.length > 0 ? Integer.parseInt(args[0]) : 20000;
    MarchFolk x = new MarchFolk();
    int lines = 0;
    int acts = 0;
    Random random = new Random(7);
    for (int i = 0; i < texts; i++) {
      String text = drawText(random);
      if (text.length() > 800) continue;
      feed(x, text);
      int[] want = read(text);
      due("march", text, x.march(), want[0]);
      due("fault(0)", text, x.fault(0), want[1]);
      due("fault(1)", text, x.fault(1), want[2]);
      due("count(8)", text, x.count(8), 0);
      if (want[0] >= 0) {
        lines = want[0];
        acts = 0;
      }
      due("count(7)", text, x.count(7), lines);
      due("count(6)", text, x.count(6), acts);
      if (lines > 0 && acts < 40) {
        x.answer(i % 6, i % 2);
        acts++;
      }
    }
    System.out.println(checked + " answers compared with the patterns', " + wrong + " not as due");
    if (wrong != 0) System.exit(1);
  }
}
