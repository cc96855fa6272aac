import java.lang.reflect.Constructor;
import java.lang.reflect.Field;
import java.lang.reflect.Method;
import java.lang.reflect.Modifier;
import java.nio.charset.StandardCharsets;
import java.nio.file.Files;
import java.nio.file.Path;
import java.util.HashSet;
import java.util.Set;
import java.util.regex.Matcher;
import java.util.regex.Pattern;

/** What of ../shared/LANGUAGE.md can be seen by reading the source and by looking at its classes. */
public final class LanguageTest {
  private static int wrong = 0;

  private static void wrong(String what) {
    wrong++;
    System.out.println(what);
  }

  private static String withoutCommentsAndTexts(String source) {
    return source.replaceAll("(?s)/\\*.*?\\*/", "").replaceAll("//[^\n]*", "")
        .replaceAll("\"[^\"\n]*\"", "\"\"").replaceAll("'(\\\\.|[^'\\\\])'", "' '");
  }

  private static void forbid(String code, String pattern, String rule) {
    Matcher m = Pattern.compile(pattern).matcher(code);
    while (m.find()) {
      int line = 1;
      for (int i = 0; i < m.start(); i++) if (code.charAt(i) == '\n') line++;
      wrong("rule " + rule + ": '" + m.group() + "' in line " + line);
    }
  }

  private static void face() {
    Class<?> folk = MarchFolk.class;
    if (!Modifier.isFinal(folk.getModifiers())) wrong("rule 1: the class is not final");
    Set<String> names = new HashSet<>();
    for (Method m : folk.getDeclaredMethods()) if (Modifier.isPublic(m.getModifiers())) names.add(m.getName());
    for (Method m : folk.getDeclaredMethods()) {
      if (Modifier.isPublic(m.getModifiers())) continue;
      if (!Modifier.isPrivate(m.getModifiers())) wrong("rule 1: " + m.getName() + " is neither public nor private");
      if (names.contains(m.getName())) wrong("rule 1: a private method bears the name " + m.getName());
    }
    for (Field f : folk.getDeclaredFields()) {
      boolean isNone = f.getName().equals("NONE");
      if (isNone != Modifier.isPublic(f.getModifiers())) wrong("rule 1: " + f.getName());
      if (!isNone && !Modifier.isPrivate(f.getModifiers())) wrong("rule 1: " + f.getName());
    }
    for (Constructor<?> c : folk.getDeclaredConstructors()) {
      if (!Modifier.isPublic(c.getModifiers())) wrong("rule 1: a constructor that is not public");
    }
    int classes = 1;
    for (Class<?> inside : folk.getDeclaredClasses()) {
      classes++;
      if (!Modifier.isStatic(inside.getModifiers())) wrong("rule 2: " + inside.getName() + " is not static");
      for (Method m : inside.getDeclaredMethods()) {
        if (names.contains(m.getName())) wrong("rule 1: " + inside.getName() + " bears the name " + m.getName());
      }
      fields(inside);
    }
    fields(folk);
    if (classes > 12) wrong("rule 11: " + classes + " classes");
  }

  private static void fields(Class<?> of) {
    int fields = 0;
    for (Field f : of.getDeclaredFields()) {
      if (!Modifier.isStatic(f.getModifiers())) fields++;
      if (Modifier.isStatic(f.getModifiers()) && !Modifier.isFinal(f.getModifiers())) wrong("rule 5: " + f.getName());
    }
    if (fields > 20) wrong("rule 11: " + of.getName() + " has " + fields + " fields");
    for (Method m : of.getDeclaredMethods()) {
      if (m.getParameterCount() > 7) wrong("rule 11: " + m.getName() + " takes too many parameters");
    }
  }

  private static void lengths(String code) {
    String[] lines = code.split("\n");
    int begun = -1;
    String indent = "";
    for (int i = 0; i < lines.length; i++) {
      Matcher m = Pattern.compile("^( {4}| {8})[A-Za-z].*\\) \\{$").matcher(lines[i]);
      if (m.find()) {
        begun = i;
        indent = m.group(1);
      }
      if (begun >= 0 && lines[i].equals(indent + "}")) {
        if (i - begun > 60) wrong("rule 11: a method of " + (i - begun) + " lines at line " + (begun + 1));
        begun = -1;
      }
    }
  }

  public static void main(String[] args) throws Exception {
    String source = new String(Files.readAllBytes(Path.of("src/main/java/MarchFolk.java")), StandardCharsets.ISO_8859_1);
    for (int i = 0; i < source.length(); i++) if (source.charAt(i) > 126) wrong("rule 4: a sign above 126 at " + i);
    String code = withoutCommentsAndTexts(source);
    forbid(code, "\\b(throw|throws|try|catch|finally|synchronized|assert|package|native|volatile|transient|System\\.out)\\b", "6");
    forbid(code, "->|::", "2");
    forbid(code, "import (?!java\\.util\\.(Arrays|ArrayList|List|Iterator);)[^\n]*", "4");
    forbid(code, "\\b(Random|Thread|Clock|Instant|Date|HashMap|HashSet|Map|Set|Collections|Object|Exception|Error|String\\.format)\\b", "4");
    forbid(code, "\\w+Exact\\b", "4");
    forbid(code, "System\\.(?!arraycopy)\\w+", "4");
    forbid(code, "\\b(equals|hashCode|toString)\\b", "6");
    forbid(code, "while \\(true\\)|for \\(;;\\)", "9");
    forbid(code, "\\+ ?\"|\" ?\\+", "10");
    forbid(code, "static \\{", "5");
    face();
    lengths(code);
    System.out.println(wrong == 0 ? "the source keeps to the rules that are looked at" : wrong + " breaches");
    if (wrong != 0) System.exit(1);
  }
}
