import java.util.ArrayList;
import java.util.List;

/**
 * The edges that the document names: SLOTS, Promises 56 (answer) to 62 (anew), 65 (need) to 71 (paste).
 */
public final class EdgesOfActsTest {
  private static final int NONE = Edges.NONE;
  private static final int MIN = Integer.MIN_VALUE;
  private static final int MAX = Integer.MAX_VALUE;

  private static void says(String key, String words) {
    Edges.says(key, words);
  }

  private static void due(String call, long got, long want) {
    Edges.due(call, got, want);
  }

  private static MarchFolk full() {
    return Edges.told(Edges.full());
  }

  private static MarchFolk bare() {
    return Edges.told(Edges.BARE);
  }

  private static MarchFolk none() {
    return new MarchFolk();
  }

  /** So many acts, answers and bars by turns, each of which changes something. */
  private static MarchFolk acted(int acts) {
    MarchFolk x = full();
    for (int i = 0; i < acts; i++) {
      if (i % 2 == 0) x.answer(i / 2 % 6, i / 12 % 2 == 0 ? 1 : 0);
      else x.bar(i / 2 % 10, i / 20 % 2 == 0 ? 1 : 0);
    }
    return x;
  }

  // ---- Acts ----

  private static void answers() {
    says("56", "A REASON is answered (or no more: on 0) from now on, from STEP 0: what was (1, 0).");
    MarchFolk x = full();
    due("answer(5, 0)", x.answer(5, 0), 0);
    due("over()", x.over(), 3);
    due("answer(5, 1)", x.answer(5, 1), 0);
    due("over(), from STEP 0", x.over(), 0);
    due("joins(7)", x.joins(7), NONE);
    due("answer(5, 1)", x.answer(5, 1), 1);
    due("answer(5, 0)", x.answer(5, 0), 1);
    due("over(), no more", x.over(), 3);
    due("answer(5, 0)", x.answer(5, 0), 0);
    wouldBe();

    says("56", "-5: there are 40 acts (not taken back)");
    due("answer as a 40th act", acted(39).answer(0, 1) + acted(39).answer(0, 0), 0);
    Edges.leavesAlone("answer as a 41st act", () -> acted(40), y -> y.answer(0, 1), -5);
    Edges.leavesAlone("answer, no more, as a 41st act", () -> acted(40), y -> y.answer(4, 0), -5);
    MarchFolk again = acted(40);
    again.undo();
    due("answer, one taken back", again.answer(5, 0), 1);
    due("answer, full again", again.answer(5, 1), -5);
    again.anew();
    for (int i = 0; i < 40; i++) due("answer " + i + " anew", again.answer(3, i % 2), i == 0 ? 0 : 1 - i % 2);
    due("answer, full again", again.answer(3, 0), -5);

    says("56", "-2: there are none such, no MARCH.");
    Edges.bounds("answer(.., 1)", r -> full().answer(r, 1), 0, 0, 5, 0, -2);
    Edges.bounds("answer(5, ..)", on -> full().answer(5, on), 0, 0, 1, 0, -2);
    due("answer(0, 1), no MARCH", none().answer(0, 1), -2);
    due("answer(0, 0), no MARCH", none().answer(0, 0), -2);
    for (int r : new int[] {-1, 6, 32, -1000, MIN, MAX}) {
      Edges.leavesAlone("answer(" + r + ", 1)", Edges::busy, y -> y.answer(r, 1), -2);
    }
    for (int on : new int[] {-1, 2, 256, -1000, MIN, MAX}) {
      Edges.leavesAlone("answer(5, " + on + ")", Edges::busy, y -> y.answer(5, on), -2);
    }
  }

  /** What is answered and shut counts in all that would be, but for the sets in its own place. */
  private static void wouldBe() {
    String text = Edges.hills(0, 0);
    MarchFolk x = Edges.told(text);
    x.row(0, 0, 2);
    x.row(1, 0, 2);
    x.write(1, 0, 1);
    due("starts of 0 0", x.starts(0), 1);
    due("rules of 1 0", x.rules(1), 0);
    due("chance(1, 1, 0)", x.chance(1, 1, 0), 1);
    due("mean(0, 0)", x.mean(0, 0), 2);
    due("drawn(0, 1)", x.drawn(0, 1), 15);
    due("luck(0, 20, 1)", x.luck(0, 20, 1), 20);
    due("shut(2)", x.shut(2), 1);
    due("trap(0, 2)", x.trap(0, 2), 2);
    x.answer(0, 1);
    x.write(1, 1, -1);
    due("starts of 0 0, answered", x.starts(0), 0);
    due("rules of 1 NONE, answered", x.rules(1), 15);
    due("chance(1, 1, 0), answered", x.chance(1, 1, 0), 0);
    due("mean(0, 0), answered", x.mean(0, 0), 0);
    due("drawn(0, 1), answered", x.drawn(0, 1), 0);
    due("luck(0, 20, 1), answered", x.luck(0, 20, 1), 0);
    due("shut(2), answered", x.shut(2), 0);
    due("trap(0, 2), answered", x.trap(0, 2), 0);
    MarchFolk shut = Edges.told(text);
    shut.bar(0, 1);
    shut.bar(3, 1);
    shut.row(1, 0, 2);
    shut.write(1, 0, 1);
    shut.write(1, 1, -1);
    due("rules of 1 NONE, shut", shut.rules(1), 15);
    due("chance(1, 8, 0), shut", shut.chance(1, 8, 0), 0);
    due("drawn(0, 0), shut", shut.drawn(0, 0), 0);
    due("luck(0, 20, 1), shut", shut.luck(0, 20, 1), 0);
    due("stop(1), shut", shut.stop(1), 0);
    due("shams(0, 0), shut", shut.shams(0, 0), 0);
    due("soonest(), shut", shut.soonest(), 0);
    due("ends(), shut", shut.ends(), 0);
  }

  private static void bars() {
    says("57", "A ROAD is shut (or open: on 0) from now on: what was.");
    MarchFolk x = full();
    due("bar(4, 0)", x.bar(4, 0), 0);
    due("bar(4, 1)", x.bar(4, 1), 0);
    due("at(1), by ROAD 9 then", x.at(1), 0);
    due("way(6, 0)", x.way(6, 0), 99);
    due("bar(4, 1)", x.bar(4, 1), 1);
    due("bar(4, 0)", x.bar(4, 0), 1);
    due("at(1), open", x.at(1), 5);
    due("bar(4, 0)", x.bar(4, 0), 0);

    says("57", "-5, -2 likewise.");
    due("bar as a 40th act", acted(39).bar(9, 1) + acted(39).bar(9, 0), 2);
    Edges.leavesAlone("bar as a 41st act", () -> acted(40), y -> y.bar(1, 1), -5);
    Edges.leavesAlone("bar, open, as a 41st act", () -> acted(40), y -> y.bar(9, 0), -5);
    MarchFolk again = acted(40);
    again.undo();
    due("bar, one taken back", again.bar(0, 0), 0);
    due("bar, full again", again.bar(0, 0), -5);
    Edges.bounds("bar(.., 1)", r -> full().bar(r, 1), 0, 0, 9, 0, -2);
    Edges.bounds("bar(9, ..)", on -> full().bar(9, on), 0, 0, 1, 0, -2);
    Edges.bounds("bar(.., 1) of five", r -> Edges.told(Edges.hills(0, 0)).bar(r, 1), 0, 0, 4, 0, -2);
    due("bar(0, 1) without ROADS", bare().bar(0, 1), -2);
    due("bar(0, 1), no MARCH", none().bar(0, 1), -2);
    for (int r : new int[] {-1, 5, 32, -1000, MIN, MAX}) {
      Edges.leavesAlone("bar(" + r + ", 1)", Edges::busy, y -> y.bar(r, 1), -2);
    }
    for (int on : new int[] {-1, 2, 256, -1000, MIN, MAX}) {
      Edges.leavesAlone("bar(0, " + on + ")", Edges::busy, y -> y.bar(0, on), -2);
    }
  }

  private static void told() {
    says("58", "REASONS answered now, as bits.");
    MarchFolk x = full();
    due("answered() of none", x.answered(), 0);
    int bits = 0;
    for (int r = 5; r >= 0; r--) {
      x.answer(r, 1);
      bits |= 1 << r;
      due("answered() from " + r + " on", x.answered(), bits);
    }
    x.answer(0, 0);
    due("answered(), 0 no more", x.answered(), 62);
    says("58", "-2: there is no MARCH.");
    due("answered(), no MARCH", none().answered(), -2);

    says("59", "ROADS shut now, as bits.");
    due("barred() of none", x.barred(), 0);
    bits = 0;
    for (int r = 9; r >= 0; r--) {
      x.bar(r, 1);
      bits |= 1 << r;
      due("barred() from " + r + " on", x.barred(), bits);
    }
    x.bar(9, 0);
    due("barred(), 9 open", x.barred(), 511);
    due("answered(), as before", x.answered(), 62);
    says("59", "-2 likewise.");
    due("barred(), no MARCH", none().barred(), -2);

    says("60", "What the REASONS answered cost.");
    due("costs() of five", x.costs(), 495);
    x.answer(0, 1);
    due("costs() of all", x.costs(), 594);
    x.anew();
    due("costs() of none", x.costs(), 0);
    MarchFolk cheap = bare();
    cheap.answer(5, 1);
    due("costs() without a grant", cheap.costs(), 0);
    says("60", "-2 likewise.");
    due("costs(), no MARCH", none().costs(), -2);
  }

  private static void takingBack() {
    says("61", "The latest act is taken back: how many there are.");
    MarchFolk x = full();
    List<Integer> answered = new ArrayList<>();
    List<Integer> barred = new ArrayList<>();
    for (int i = 0; i < 40; i++) {
      answered.add(x.answered());
      barred.add(x.barred());
      if (i % 3 != 0) x.answer(i % 6, i % 4 == 0 ? 0 : 1);
      else x.bar(i % 10, i % 4 == 0 ? 0 : 1);
      due("acts", x.count(6), i + 1);
    }
    for (int i = 39; i >= 0; i--) {
      due("undo() to " + i, x.undo(), i);
      due("acts", x.count(6), i);
      due("answered(), taken back to " + i, x.answered(), answered.get(i));
      due("barred(), taken back to " + i, x.barred(), barred.get(i));
    }
    due("over(), all taken back", x.over(), 3);
    x.answer(5, 1);
    due("over()", x.over(), 0);
    x.undo();
    due("over(), taken back", x.over(), 3);
    x.bar(4, 1);
    due("at(1)", x.at(1), 0);
    x.undo();
    due("at(1), taken back", x.at(1), 5);
    says("61", "-5: there is none");
    Edges.leavesAlone("undo() of none", EdgesOfActsTest::full, y -> y.undo(), -5);
    Edges.leavesAlone("undo() of all taken back", () -> acted(0), y -> y.undo(), -5);
    due("undo() behind all", x.undo(), -5);
    says("61", "-2 likewise.");
    due("undo(), no MARCH", none().undo(), -2);

    says("62", "All are: how many there were.");
    due("anew() of none", full().anew(), 0);
    due("anew() of one", acted(1).anew(), 1);
    MarchFolk all = acted(40);
    due("anew() of 40", all.anew(), 40);
    due("acts", all.count(6), 0);
    due("answered()", all.answered(), 0);
    due("barred()", all.barred(), 0);
    due("over()", all.over(), 3);
    due("undo()", all.undo(), -5);
    due("anew() again", all.anew(), 0);
    says("62", "-2 likewise.");
    due("anew(), no MARCH", none().anew(), -2);
  }

  private static void needs() {
    says("65", "needs of a PERSON are n (0 .. 9) from now on: what they were.");
    MarchFolk x = full();
    due("need(7, 9)", x.need(7, 9), 0);
    due("person(7, 3)", x.person(7, 3), 9);
    due("over(), nobody falls in", x.over(), 0);
    due("need(7, 0)", x.need(7, 0), 9);
    due("person(7, 3)", x.person(7, 3), 0);
    due("over(), as before", x.over(), 3);
    due("need(0, 0)", x.need(0, 0), 9);
    due("joins(0)", x.joins(0), 3);
    due("need(7, 1)", x.need(7, 1), 0);
    due("joins(7), needs one", x.joins(7), NONE);
    due("acts, it is none", x.count(6), 0);

    says("65", "-5: there are acts (not taken back)");
    for (int acts : new int[] {1, 2, 40}) {
      Edges.leavesAlone("need(7, 1) behind " + acts + " acts", () -> acted(acts), y -> y.need(7, 1), -5);
      Edges.leavesAlone("need(0, 9), as they are, behind " + acts + " acts", () -> acted(acts), y -> y.need(0, 9), -5);
    }
    MarchFolk acted = acted(1);
    acted.undo();
    due("need(7, 1), taken back", acted.need(7, 1), 0);
    acted.answer(0, 0);
    due("need(7, 2), an act that changed nothing", acted.need(7, 2), -5);
    acted.anew();
    due("need(7, 2), anew", acted.need(7, 2), 1);

    says("65", "-2: there are none such.");
    Edges.bounds("need(.., 9)", p -> full().need(p, 9), 0, 9, 7, 0, -2);
    Edges.bounds("need(7, ..)", n -> full().need(7, n), 0, 0, 9, 0, -2);
    due("need(0, 0) without PERSONS", bare().need(0, 0), -2);
    due("need(0, 0), no MARCH", none().need(0, 0), -2);
    for (int n : new int[] {-1, 10, -1000, MIN, MAX}) {
      Edges.leavesAlone("need(7, " + n + ")", EdgesOfActsTest::full, y -> y.need(7, n), -2);
      Edges.leavesAlone("need(" + (n == 10 ? 8 : n) + ", 0)", EdgesOfActsTest::full, y -> y.need(n == 10 ? 8 : n, 0), -2);
    }
  }

  private static void counts() {
    says("66", "0 PLACES, 1 start, 2 RULE, 3 odds, 4 ROADS, 5 PERSONS, 6 acts, 7 LINES, 8 bytes of the TAPE, 9 SLOTS that have a row.");
    MarchFolk x = acted(40);
    int[] most = {7, 6, 3, 10, 10, 8, 40, 25, 0, 0};
    for (int what = 0; what < 10; what++) due("count(" + what + ")", x.count(what), most[what]);
    int[] least = {2, 1, 0, 0, 0, 0, 0, 1, 0, 0};
    for (int what = 0; what < 10; what++) due("count(" + what + ")", bare().count(what), least[what]);
    for (int i = 1; i <= 40; i++) {
      x.feed(0, 0, 0, 0, 0);
      due("bytes of the TAPE", x.count(8), 20 * i);
    }
    for (int slot = 0; slot < 4; slot++) {
      x.row(slot, slot, slot);
      due("SLOTS that have a row", x.count(9), slot + 1);
    }
    x.row(2, 0, 0);
    due("SLOTS that have a row, in place of another one", x.count(9), 4);
    x.row(2, 0, 61);
    x.row(2, 0, -1);
    due("SLOTS that have a row, refused", x.count(9), 4);
    says("66", "NONE for others.");
    Edges.bounds("count", bare()::count, 0, 2, 9, 0, NONE);
    Edges.bounds("count, no MARCH,", none()::count, 0, 0, 9, 0, NONE);
  }

  // ---- Images ----

  private static void images() {
    says("67", "IMAGE k (0 .. 2) keeps the MARCH, and acts: 0.");
    MarchFolk x = acted(40);
    due("image(0)", x.image(0), 0);
    x.anew();
    x.need(0, 3);
    due("image(1)", x.image(1), 0);
    Edges.feed(x, Edges.BARE);
    x.march();
    due("image(2)", x.image(2), 0);
    due("as before", x.count(0), 2);
    x.answer(0, 1);
    due("back(0)", x.back(0), 0);
    due("acts", x.count(6), 40);
    due("answer, 40 acts", x.answer(0, 1), -5);
    due("person(0, 3)", x.person(0, 3), 9);
    due("undo()", x.undo(), 39);
    due("back(1)", x.back(1), 0);
    due("acts", x.count(6), 0);
    due("undo()", x.undo(), -5);
    due("person(0, 3)", x.person(0, 3), 3);
    due("back(2)", x.back(2), 0);
    due("PLACES", x.count(0), 2);
    due("ROADS", x.count(4), 0);
    due("answered(), not yet then", x.answered(), 0);
    due("back(0) again", x.back(0), 0);
    due("acts, none taken back", x.count(6), 40);
    x.anew();
    due("image(0) in place of another", x.image(0), 0);
    x.answer(1, 1);
    due("back(0)", x.back(0), 0);
    due("acts", x.count(6), 0);
    actsKept();
    needsKept();
    rowsStay();

    says("67", "-2: no such k.");
    Edges.bounds("image", k -> full().image(k), 0, 0, 2, 0, -2);
    for (int k : new int[] {-1, 3, -1000, MIN, MAX}) {
      Edges.leavesAlone("image(" + k + ")", Edges::busy, y -> y.image(k), -2);
    }
  }

  /** What each act of an image took the place of is the image's own too. */
  private static void actsKept() {
    MarchFolk x = full();
    x.answer(1, 1);
    x.answer(2, 1);
    x.bar(3, 1);
    x.image(2);
    x.anew();
    x.bar(4, 1);
    x.bar(5, 1);
    x.answer(0, 1);
    for (int round = 0; round < 2; round++) {
      due("back(2)", x.back(2), 0);
      due("answered()", x.answered(), 6);
      due("barred()", x.barred(), 8);
      due("undo()", x.undo(), 2);
      due("barred()", x.barred(), 0);
      due("undo()", x.undo(), 1);
      due("answered()", x.answered(), 2);
      due("undo()", x.undo(), 0);
      due("answered()", x.answered(), 0);
      x.answer(5, 1);
      x.answer(4, 1);
      x.bar(9, 1);
    }
  }

  /** needs of a PERSON are the image's own. */
  private static void needsKept() {
    MarchFolk x = full();
    x.need(0, 3);
    x.image(1);
    x.need(0, 4);
    due("person(0, 3)", x.person(0, 3), 4);
    for (int round = 0; round < 2; round++) {
      due("back(1)", x.back(1), 0);
      due("person(0, 3), back", x.person(0, 3), 3);
      due("need(0, 5)", x.need(0, 5), 3);
      Edges.feed(x, Edges.hills(1, 1));
      x.march();
    }
  }

  /** The rows are neither the MARCH's nor the image's. */
  private static void rowsStay() {
    MarchFolk x = rowed(0, 1, 4, 5, 6);
    x.image(0);
    x.answer(0, 1);
    x.undo();
    x.anew();
    x.write(0, 1, 6);
    Edges.feed(x, Edges.full());
    x.march();
    Edges.feed(x, "?");
    x.march();
    x.back(0);
    due("SLOTS that have a row", x.count(9), 1);
    numbers("a row behind march() and back()", x, 0, 4, 6, 6);
  }

  private static MarchFolk imaged() {
    MarchFolk x = full();
    for (int k = 0; k < 3; k++) x.image(k);
    return x;
  }

  private static void backs() {
    says("68", "It is as IMAGE k has it: 0.");
    MarchFolk x = full();
    x.bar(4, 1);
    x.image(1);
    x.bar(4, 0);
    x.row(0, 0, 2);
    x.feed(0, 0, 0, 0, 0);
    x.march();
    x.feed(0, 0, 0, 0, 0);
    due("at(1), open", x.at(1), 5);
    due("back(1)", x.back(1), 0);
    due("at(1), shut", x.at(1), 0);
    due("way(6, 0), shut", x.way(6, 0), 99);
    due("undo()", x.undo(), 0);
    due("at(1), taken back", x.at(1), 5);
    due("bytes of the TAPE, as they were", x.count(8), 20);
    due("SLOTS that have a row, as they were", x.count(9), 1);
    due("fault(0), as it was", x.fault(0), 1);
    due("back(1) again", x.back(1), 0);
    due("barred()", x.barred(), 16);
    says("68", "-2: no such k");
    Edges.bounds("back", k -> imaged().back(k), 0, 0, 2, 0, -2);
    for (int k : new int[] {-1, 3, -1000, MIN, MAX}) {
      Edges.leavesAlone("back(" + k + ")", Edges::busy, y -> y.back(k), -2);
    }
    says("68", "-6: it has nothing.");
    Edges.leavesAlone("back(1), 0 and 2 have something", Edges::busy, y -> y.back(1), -6);
    for (int k = 0; k < 3; k++) {
      int one = k;
      Edges.leavesAlone("back(" + k + "), nothing", EdgesOfActsTest::full, y -> y.back(one), -6);
      MarchFolk others = full();
      others.image((k + 1) % 3);
      others.image((k + 2) % 3);
      due("back(" + k + "), the others have something", others.back(k), -6);
      others.image(k);
      due("back(" + k + "), it has something", others.back(k), 0);
    }
    due("back(0), no MARCH", none().back(0), -6);
  }

  // ---- Rows ----

  /** Where it is at STEPS 0 to 4 of the full march: the numbers that can be told by it. */
  private static final int[] AT = {6, 5, 4, 0, NONE};
  private static final int OTHER = -100;
  private static final int NONE_SUCH = -200;
  private static final int NO_NUMBER = -300;

  /** A number as it can be seen of the full march, by rows in SLOT 3: one of AT, another PLACE, or none such. */
  private static int number(MarchFolk x, int slot, int i) {
    for (int width = 0; width < 4; width++) {
      x.row(3, width, 2);
      if (x.paste(slot, i, 3, 1, 1) != 0) continue;
      for (int n = 0; n < 5; n++) {
        x.write(3, 0, n);
        int rules = x.rules(3);
        if (rules == 15) return AT[n];
        if (rules == -2) return NONE_SUCH;
      }
      return OTHER;
    }
    return NO_NUMBER;
  }

  private static void numbers(String of, MarchFolk x, int slot, int... want) {
    for (int i = 0; i < want.length; i++) due(of + ", number " + i, number(x, slot, i), want[i]);
    due(of + ", number " + want.length, number(x, slot, want.length), NO_NUMBER);
  }

  private static MarchFolk rowed(int slot, int width, int... numbers) {
    MarchFolk x = full();
    x.row(slot, width, numbers.length);
    for (int i = 0; i < numbers.length; i++) x.write(slot, i, numbers[i]);
    return x;
  }

  private static void rows() {
    says("SLOTS", "SLOTS 0 .. 3 have rows of numbers of 1, 2, 4 or 8 bytes (WIDTH 0 .. 3), at most 60, or nothing.");
    for (int slot = 0; slot < 4; slot++) {
      for (int width = 0; width < 4; width++) {
        MarchFolk x = full();
        due("write to nothing", x.write(slot, 0, 1), -6);
        due("row(" + slot + ", " + width + ", 60)", x.row(slot, width, 60), 0);
        due("write(.., 59, ..)", x.write(slot, 59, 4), 0);
        due("write(.., 60, ..)", x.write(slot, 60, 4), -7);
        due("SLOTS that have a row", x.count(9), 1);
        long bits = 8L << width;
        due("write of the least", x.write(slot, 0, -1L << bits - 1), 0);
        due("write of the greatest", x.write(slot, 1, (1L << bits - 1) - 1), 0);
      }
    }

    says("69", "A SLOT (0 .. 3) has a row of n numbers of a WIDTH, all 0 (in place of another one): 0.");
    MarchFolk x = rowed(1, 0, 4, 5, 6);
    numbers("three", x, 1, 4, 5, 6);
    due("row(1, 3, 4)", x.row(1, 3, 4), 0);
    numbers("four in place of three", x, 1, 0, 0, 0, 0);
    due("row(1, 0, 0)", x.row(1, 0, 0), 0);
    numbers("none in place of four", x, 1);
    due("write(1, 0, 0), a row of none", x.write(1, 0, 0), -7);
    due("row(1, 2, 1)", x.row(1, 2, 1), 0);
    numbers("one in place of none", x, 1, 0);
    due("row(1, 2, 60)", x.row(1, 2, 60), 0);
    for (int i : new int[] {0, 1, 2, 3, 30, 58, 59}) due("number " + i + " of 60", number(x, 1, i), 0);
    due("number 60 of 60", number(x, 1, 60), NO_NUMBER);

    says("69", "-2: there is no such SLOT or WIDTH (0 .. 3), or n is above 60");
    Edges.bounds("row(.., 0, 1)", slot -> full().row(slot, 0, 1), 0, 0, 3, 0, -2);
    Edges.bounds("row(0, .., 1)", width -> full().row(0, width, 1), 0, 0, 3, 0, -2);
    due("row(0, 0, 60)", full().row(0, 0, 60), 0);
    for (int n : new int[] {61, 64, 1000, MAX}) {
      Edges.leavesAlone("row(0, 0, " + n + ")", Edges::busy, y -> y.row(0, 0, n), -2);
      due("row(0, 0, " + n + ") of a SLOT with nothing", full().row(0, 0, n), -2);
    }
    for (int other : new int[] {-1, 4, -1000, MIN, MAX}) {
      Edges.leavesAlone("row(" + other + ", 0, 1)", Edges::busy, y -> y.row(other, 0, 1), -2);
      Edges.leavesAlone("row(0, " + other + ", 1)", Edges::busy, y -> y.row(0, other, 1), -2);
      due("row(" + other + ", 0, -1), -2 ahead of -3", full().row(other, 0, -1), -2);
      due("row(0, " + other + ", -1), -2 ahead of -3", full().row(0, other, -1), -2);
    }

    says("69", "-3, and the SLOT stays: n is below 0.");
    for (int n : new int[] {-1, -60, -1000, MIN}) {
      MarchFolk stays = rowed(0, 1, 4, 5, 6);
      due("row(0, 3, " + n + ")", stays.row(0, 3, n), -3);
      numbers("the SLOT stays", stays, 0, 4, 5, 6);
      Edges.leavesAlone("row(0, 3, " + n + ")", Edges::busy, y -> y.row(0, 3, n), -3);
      due("row(3, 0, " + n + ") of a SLOT with nothing", full().row(3, 0, n), -3);
      MarchFolk nothing = full();
      nothing.row(3, 0, n);
      due("write to the SLOT that has nothing still", nothing.write(3, 0, 0), -6);
      due("SLOTS that have a row", nothing.count(9), 0);
    }
    due("row(0, 0, 0)", full().row(0, 0, 0), 0);
  }

  private static void writes() {
    says("70", "Number i of the SLOT's row is v, cut to its WIDTH: 0.");
    for (int width = 0; width < 4; width++) {
      int bits = 8 << width;
      MarchFolk x = rowed(0, width, 0, 0, 0, 0, 0, 0);
      long around = width == 3 ? 0 : 1L << bits;
      due("write of 5 around", x.write(0, 0, around + 5), 0);
      due("write of 4 around, below", x.write(0, 1, 4 - around), 0);
      due("write of all bits", x.write(0, 2, around - 1), 0);
      due("write of the least", x.write(0, 3, 1L << bits - 1), 0);
      due("write of the greatest", x.write(0, 4, (1L << bits - 1) - 1), 0);
      due("write of MIN", x.write(0, 5, Long.MIN_VALUE), 0);
      int min = width == 3 ? NONE_SUCH : 0;
      numbers("WIDTH " + width, x, 0, 5, 4, NONE, NONE_SUCH, NONE_SUCH, min);
      x.write(0, 0, Long.MAX_VALUE);
      x.write(0, 1, (1L << bits / 2) + 6);
      x.write(0, 2, -1);
      x.write(0, 3, 7);
      x.write(0, 4, 3);
      x.write(0, 5, -2);
      numbers("WIDTH " + width, x, 0, width == 3 ? NONE_SUCH : NONE, NONE_SUCH, NONE, NONE_SUCH, OTHER, NONE_SUCH);
    }
    says("70", "-2: there is no such SLOT");
    Edges.bounds("write(.., 0, 0)", slot -> {
      MarchFolk x = full();
      for (int s = 0; s < 4; s++) x.row(s, s, 1);
      return x.write(slot, 0, 0);
    }, 0, 0, 3, 0, -2);
    for (int slot : new int[] {-1, 4, -1000, MIN, MAX}) {
      Edges.leavesAlone("write(" + slot + ", 0, 5)", Edges::busy, y -> y.write(slot, 0, 5), -2);
      due("write(" + slot + ", -1, 5)", full().write(slot, -1, 5), -2);
    }
    says("70", "-6: it has nothing");
    for (int slot = 0; slot < 4; slot++) {
      for (int i : new int[] {0, 1, 60, -1, -1000}) {
        due("write(" + slot + ", " + i + ", 0), nothing", rowed((slot + 1) % 4, 0, 1, 2).write(slot, i, 0), -6);
      }
    }
    Edges.leavesAlone("write(2, 0, 5)", Edges::busy, y -> y.write(2, 0, 5), -6);
    says("70", "-7: there is no such number.");
    Edges.bounds("write(0, .., 5) of three", i -> rowed(0, 0, 1, 2, 3).write(0, i, 5), 0, 0, 2, 0, -7);
    Edges.bounds("write(0, .., 5) of 60", i -> rowed(0, 0, new int[60]).write(0, i, 5), 0, 0, 59, 0, -7);
    due("write(0, 0, 5) of none", rowed(0, 0).write(0, 0, 5), -7);
    for (int i : new int[] {3, 4, 59, 60, -1, -1000, MIN, MAX}) {
      MarchFolk x = rowed(0, 0, 4, 5, 6);
      due("write(0, " + i + ", 4)", x.write(0, i, 4), -7);
      numbers("behind it", x, 0, 4, 5, 6);
      Edges.leavesAlone("write(0, " + (i == 3 ? 4 : i) + ", 4)", Edges::busy, y -> y.write(0, i == 3 ? 4 : i, 4), -7);
    }
  }

  /** SLOT 0 has 4 5 6 0, SLOT 1 has 6 6 6, of the same WIDTH. */
  private static MarchFolk pair() {
    MarchFolk x = rowed(0, 1, 4, 5, 6, 0);
    x.row(1, 1, 3);
    for (int i = 0; i < 3; i++) x.write(1, i, 6);
    return x;
  }

  private static void pasted(int slot, int i, int to, int k, int n, int[] first, int[] second) {
    MarchFolk x = pair();
    String call = "paste(" + slot + ", " + i + ", " + to + ", " + k + ", " + n + ")";
    due(call, x.paste(slot, i, to, k, n), 0);
    numbers(call, x, 0, first);
    numbers(call, x, 1, second);
  }

  private static void refused(int slot, int i, int to, int k, int n) {
    MarchFolk x = pair();
    String call = "paste(" + slot + ", " + i + ", " + to + ", " + k + ", " + n + ")";
    due(call, x.paste(slot, i, to, k, n), -7);
    numbers(call, x, 0, 4, 5, 6, 0);
    numbers(call, x, 1, 6, 6, 6);
  }

  private static void pastes() {
    int[] first = {4, 5, 6, 0};
    int[] second = {6, 6, 6};
    says("71", "So many numbers of a SLOT's row, from one on, are put to another one's (or its own), from one on, as they were: 0.");
    pasted(0, 0, 1, 0, 3, first, new int[] {4, 5, 6});
    pasted(0, 1, 1, 0, 3, first, new int[] {5, 6, 0});
    pasted(0, 3, 1, 2, 1, first, new int[] {6, 6, 0});
    pasted(0, 0, 1, 1, 2, first, new int[] {6, 4, 5});
    pasted(1, 0, 0, 1, 3, new int[] {4, 6, 6, 6}, second);
    pasted(0, 0, 0, 1, 3, new int[] {4, 4, 5, 6}, second);
    pasted(0, 1, 0, 0, 3, new int[] {5, 6, 0, 0}, second);
    pasted(0, 0, 0, 0, 4, first, second);
    pasted(0, 4, 1, 3, 0, first, second);
    pasted(0, 0, 1, 0, 0, first, second);
    MarchFolk sixty = full();
    for (int slot = 0; slot < 2; slot++) sixty.row(slot, 3, 60);
    sixty.write(0, 59, 5);
    due("paste of 60", sixty.paste(0, 0, 1, 0, 60), 0);
    due("number 59 of 60", number(sixty, 1, 59), 5);
    due("paste of 59 of its own", sixty.paste(1, 1, 1, 0, 59), 0);
    due("number 58 of 60", number(sixty, 1, 58), 5);
    due("paste of 60 from 1", sixty.paste(0, 1, 1, 0, 60), -7);
    due("paste of 61", sixty.paste(0, 0, 1, 0, 61), -7);
    MarchFolk empty = rowed(0, 0);
    due("paste of a row of none", empty.paste(0, 0, 0, 0, 0), 0);
    due("paste of a row of none, from 1", empty.paste(0, 1, 0, 0, 0), -7);
    due("paste of a row of none, of 1", empty.paste(0, 0, 0, 0, 1), -7);

    says("71", "-2: there is no such SLOT");
    MarchFolk all = full();
    for (int s = 0; s < 4; s++) all.row(s, 0, 2);
    Edges.bounds("paste(.., 0, 0, 0, 1)", slot -> all.paste(slot, 0, 0, 0, 1), 0, 0, 3, 0, -2);
    Edges.bounds("paste(0, 0, .., 0, 1)", to -> all.paste(0, 0, to, 0, 1), 0, 0, 3, 0, -2);
    for (int slot : new int[] {-1, 4, -1000, MIN, MAX}) {
      Edges.leavesAlone("paste(" + slot + ", 0, 0, 0, 1)", Edges::busy, y -> y.paste(slot, 0, 0, 0, 1), -2);
      Edges.leavesAlone("paste(0, 0, " + slot + ", 0, 1)", Edges::busy, y -> y.paste(0, 0, slot, 0, 1), -2);
      due("paste from nothing to " + slot, full().paste(0, -1, slot, -1, -1), -2);
      due("paste to nothing from " + slot, full().paste(slot, -1, 0, -1, -1), -2);
    }

    says("71", "-6: one has nothing");
    Edges.leavesAlone("paste(0, 0, 2, 0, 1)", Edges::busy, y -> y.paste(0, 0, 2, 0, 1), -6);
    Edges.leavesAlone("paste(2, 0, 0, 0, 1)", Edges::busy, y -> y.paste(2, 0, 0, 0, 1), -6);
    due("paste, both have nothing", full().paste(0, 0, 1, 0, 0), -6);
    due("paste, its own, nothing", full().paste(2, 0, 2, 0, 0), -6);
    due("paste of none to nothing", pair().paste(0, 0, 2, 0, 0), -6);
    due("paste beyond to nothing", pair().paste(0, -1, 2, -1, -1), -6);
    due("paste beyond from nothing", pair().paste(2, 99, 0, 99, 99), -6);

    says("71", "-8: they are not of one WIDTH");
    for (int w = 0; w < 4; w++) {
      for (int v = 0; v < 4; v++) {
        MarchFolk x = rowed(0, w, 4, 5);
        x.row(1, v, 2);
        due("paste of WIDTH " + w + " to " + v, x.paste(0, 0, 1, 0, 2), w == v ? 0 : -8);
        numbers("behind it", x, 1, w == v ? 4 : 0, w == v ? 5 : 0);
        due("paste of none of WIDTH " + w + " to " + v, x.paste(0, 0, 1, 0, 0), w == v ? 0 : -8);
        due("paste beyond of WIDTH " + w + " to " + v, x.paste(0, 3, 1, 0, 0), w == v ? -7 : -8);
        due("paste of -1 of WIDTH " + w + " to " + v, x.paste(0, 0, 1, 0, -1), w == v ? -7 : -8);
      }
    }
    Edges.leavesAlone("paste(0, 0, 1, 0, 1)", Edges::busy, y -> y.paste(0, 0, 1, 0, 1), -8);

    says("71", "-7, and nothing happens: some are beyond their rows"
        + " (also where n is 0, a place above how many it has), or a place or n is below 0.");
    refused(0, 0, 1, 0, 4);
    refused(0, 2, 1, 0, 3);
    refused(0, 0, 1, 1, 3);
    refused(0, 0, 1, 2, 2);
    refused(0, 0, 1, 3, 1);
    refused(0, 4, 1, 0, 1);
    refused(1, 0, 0, 0, 4);
    refused(1, 1, 0, 0, 3);
    refused(0, 0, 0, 1, 4);
    refused(0, 1, 0, 0, 4);
    refused(0, 0, 0, 0, 5);
    refused(0, 5, 1, 0, 0);
    refused(0, 0, 1, 4, 0);
    refused(1, 4, 0, 0, 0);
    refused(1, 0, 0, 5, 0);
    refused(0, 60, 1, 0, 0);
    refused(0, 0, 1, 60, 0);
    refused(0, -1, 1, 0, 1);
    refused(0, -1, 1, 0, 0);
    refused(0, 0, 1, -1, 1);
    refused(0, 0, 1, -1, 0);
    refused(0, -1, 1, 0, 2);
    refused(0, 0, 1, 0, -1);
    refused(0, 2, 1, 2, -1);
    refused(0, 3, 1, 3, -1000);
    for (int wild : new int[] {-1000, 1000, MIN, MAX}) {
      refused(0, wild, 1, 0, 1);
      refused(0, 0, 1, wild, 1);
      refused(0, 0, 1, 0, wild);
      refused(0, 1, 1, 1, wild);
      refused(0, wild, 1, wild, wild);
      refused(0, MAX, 1, MAX, wild);
      refused(0, 0, 0, wild, wild);
    }
  }

  private static void manyCalls() {
    says("WHAT", "at most 512 calls after it has been made");
    MarchFolk x = new MarchFolk();
    Edges.feed(x, Edges.full());
    x.march();
    int calls = (Edges.full().length() + 19) / 20 + 2;
    for (int k = 0; calls + 10 <= 509; k++) {
      x.answer(k % 6, 1);
      x.bar(k % 10, 1);
      x.image(k % 3);
      x.anew();
      x.row(k % 4, k % 4, 60);
      x.write(k % 4, 59, k);
      x.paste(k % 4, 0, k % 4, 1, 59);
      x.drawn(k, 1);
      x.shuts(k % 7);
      x.shammers(k % 61);
      calls += 10;
    }
    while (calls < 509) {
      x.at(0);
      calls++;
    }
    due("the 510th call, drawn(1, 1)", x.drawn(1, 1), 0);
    due("the 511th call, shuts(0)", x.shuts(0), 528);
    due("the 512th call, over()", x.over(), 3);
    MarchFolk y = new MarchFolk();
    for (int k = 1; k < 512; k++) due("call " + k + " of one kind, image", y.image(1), 0);
    due("the 512th call, count(0)", y.count(0), 0);
  }

  private static void ahead() {
    says("SLOTS", "-2 (-1,000 and the like) is asked ahead of -5, -6.");
    for (int wild : new int[] {-1000, -1, 10, MIN, MAX}) {
      due("answer(" + wild + ", 1) behind 40 acts", acted(40).answer(wild, 1), -2);
      due("answer(0, " + wild + ") behind 40 acts", acted(40).answer(0, wild), -2);
      due("bar(" + wild + ", 1) behind 40 acts", acted(40).bar(wild, 1), -2);
      due("bar(0, " + wild + ") behind 40 acts", acted(40).bar(0, wild), -2);
      due("need(" + wild + ", 0) behind an act", acted(1).need(wild, 0), -2);
      due("need(0, " + wild + ") behind an act", acted(1).need(0, wild), -2);
      due("back(" + wild + ")", none().back(wild), -2);
      due("starts(" + wild + ")", full().starts(wild), -2);
      due("ask(" + wild + ")", full().ask(wild), -2);
      due("rules(" + wild + ")", full().rules(wild), -2);
      due("write(" + wild + ", 0, 0)", none().write(wild, 0, 0), -2);
      due("paste(" + wild + ", 0, 0, 0, 0)", none().paste(wild, 0, 0, 0, 0), -2);
      due("paste(0, 0, " + wild + ", 0, 0)", none().paste(0, 0, wild, 0, 0), -2);
    }
    due("undo(), no MARCH and no act", none().undo(), -2);
    due("starts(0), no MARCH and nothing", none().starts(0), -2);
    due("ask(0), no MARCH and nothing", none().ask(0), -2);
    due("rules(0), no MARCH and nothing", none().rules(0), -2);
  }

  public static void main(String[] args) {
    answers();
    bars();
    told();
    takingBack();
    needs();
    counts();
    images();
    backs();
    rows();
    writes();
    pastes();
    ahead();
    manyCalls();
    List<String> keys = new ArrayList<>(List.of(Edges.promises(56, 62, "SLOTS")));
    keys.addAll(List.of(Edges.promises(65, 71)));
    Edges.end(keys.toArray(new String[0]));
  }
}
