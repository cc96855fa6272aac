import java.lang.reflect.Method;
import java.lang.reflect.Modifier;
import java.util.ArrayList;
import java.util.Comparator;
import java.util.List;
import java.util.Random;

/** No call may ever throw, for any arguments in any state: many drawn calls, with wild numbers among them. */
public final class AnyCallTest {
  private static final int[] WILD = {
    Integer.MIN_VALUE, Integer.MAX_VALUE, -1, -2, 7, 8, 10, 20, 40, 59, 60, 61, 62, 63, 64, 600, 800, 801, 2000000000};

  private static int number(Random random) {
    switch (random.nextInt(6)) {
      case 0: return WILD[random.nextInt(WILD.length)];
      case 1: return random.nextInt();
      case 2: return random.nextInt(62);
      default: return random.nextInt(7);
    }
  }

  private static void feedMarch(MarchFolk x, Random random) {
    StringBuilder text = new StringBuilder("march places 7 start 3 rule " + random.nextInt(4) + " odds " + random.nextInt(11) + ";");
    for (int i = random.nextInt(12); i > 0; i--) {
      text.append("road " + random.nextInt(7) + " to " + random.nextInt(7) + " long 5;");
    }
    for (int i = random.nextInt(10); i > 0 && text.length() < 740; i--) {
      text.append("person at " + (random.nextBoolean() ? 3 : 2) + " wants " + random.nextInt(7) + " reason 1 needs 0 board 7;");
    }
    while (text.length() % 20 != 0) text.append(' ');
    x.end(0);
    for (int i = 0; i < text.length(); i += 20) {
      int[] four = new int[5];
      for (int j = 0; j < 20; j++) four[j / 4] = four[j / 4] << 8 | text.charAt(i + j);
      x.feed(four[0], four[1], four[2], four[3], four[4]);
    }
    x.march();
  }

  public static void main(String[] args) throws Exception {
    List<Method> calls = new ArrayList<>();
    for (Method m : MarchFolk.class.getDeclaredMethods()) {
      if (Modifier.isPublic(m.getModifiers())) calls.add(m);
    }
    calls.sort(Comparator.comparing(Method::getName));
    Random random = new Random(11);
    int made = 0;
    for (int run = 0; run < 400; run++) {
      MarchFolk x = new MarchFolk();
      for (int k = 0; k < 512; k++) {
        if (random.nextInt(100) == 0) feedMarch(x, random);
        Method m = calls.get(random.nextInt(calls.size()));
        Object[] with = new Object[m.getParameterCount()];
        StringBuilder told = new StringBuilder(m.getName());
        for (int i = 0; i < with.length; i++) {
          boolean isLong = m.getParameterTypes()[i] == long.class;
          with[i] = isLong ? (Object) random.nextLong() : (Object) number(random);
          told.append(' ').append(with[i]);
        }
        try {
          m.invoke(x, with);
        } catch (ReflectiveOperationException e) {
          System.out.println("run " + run + ", call " + k + ": " + told + " threw " + e.getCause());
          System.exit(1);
        }
        made++;
      }
    }
    System.out.println(made + " calls of " + calls.size() + " methods, none threw");
    if (calls.size() != 70) {
      System.out.println("70 methods are due");
      System.exit(1);
    }
  }
}
