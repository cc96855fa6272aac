import java.util.List;
import java.util.function.ToLongFunction;

/**
 * The edges that the document names of what would be: Terms IV to VII, Promises 38 (needed) to 55 (mean),
 * 63 (drawn) and 64 (luck).
 */
public final class EdgesOfWouldTest {
  private static final int NONE = Edges.NONE;

  private static void says(String key, String words) {
    Edges.says(key, words);
  }

  private static void due(String call, long got, long want) {
    Edges.due(call, got, want);
  }

  private static MarchFolk told(String text) {
    return Edges.told(text);
  }

  private static String person(int home, int wants, int reason, int needs, int board) {
    return Edges.person(home, wants, reason, needs, board);
  }

  private static String head(int places, int start, int rule) {
    return "march places " + places + " start " + start + " rule " + rule + " odds 0;";
  }

  private static MarchFolk full() {
    return told(Edges.full());
  }

  private static MarchFolk bare() {
    return told(Edges.BARE);
  }

  private static MarchFolk none() {
    return new MarchFolk();
  }

  private static MarchFolk tied(int start) {
    return told(Edges.tied(start, 0, ""));
  }

  /** PERSON 2 of REASON 2 joins at 2 at the first dry STEP and turns it to 4; then PERSON 0 leads it to 1. */
  private static MarchFolk rainy(int start, int odds) {
    return told(Edges.tied(start, odds, person(2, 4, 2, 0, 1)));
  }

  /** Six of six REASONS, each of whom would go from 0 to 1 alone. */
  private static MarchFolk six(String grants) {
    String text = head(2, 0, 0) + "road 0 to 1 long 1;";
    for (int reason = 0; reason < 6; reason++) text += person(0, 1, reason, 0, 1);
    return told(text + grants);
  }

  /** PERSON 0 of REASON 3 leaves at once, but PERSON 1 of REASON 1, who wants 1, needs him: each one's answer stops it. */
  private static MarchFolk either(String grants) {
    return told(head(2, 0, 0) + "road 0 to 1 long 1;" + person(0, 0, 3, 0, 1) + person(0, 1, 1, 1, 1) + grants);
  }

  /** Ten ROADS between the same two. */
  private static MarchFolk tenRoads() {
    return told(head(3, 0, 0) + Edges.times(10, "road 0 to 1 long 1;") + person(0, 1, 0, 0, 1));
  }

  private static void needed() {
    String rounds = head(2, 0, 0) + "road 0 to 1 long 1;";
    for (int i = 0; i < 8; i++) rounds += person(0, 1, 0, 7 - i, 1);
    says("38", "Other PERSONS without whom (each alone never falling in) a PERSON who falls in would not,"
        + " as bits (0, too, if he does not).");
    MarchFolk x = told(rounds);
    due("needed(0), who needs all seven", x.needed(0), 254);
    due("needed(6), who needs one", x.needed(6), 128);
    due("needed(7), who needs nobody", x.needed(7), 0);
    due("needed(1), who needs 0", either("").needed(1), 1);
    due("needed(2), one of two would do", told(head(2, 0, 0) + "road 0 to 1 long 1;"
        + Edges.times(2, person(0, 1, 0, 0, 1)) + person(0, 1, 0, 1, 1)).needed(2), 0);
    due("needed(0), who does not", full().needed(0), 0);
    // Nobody of the seven but 0 would miss a PERSON who is answered.
    MarchFolk answered = told(rounds.replace("reason 0 needs 7", "reason 1 needs 7"));
    answered.answer(1, 1);
    due("needed(0), answered", answered.needed(0), 0);
    due("needed(1), without 0", answered.needed(1), 252);
    says("38", "-2: there is none such.");
    Edges.bounds("needed", told(rounds)::needed, 0, 254, 7, 0, -2);
    due("needed(0) without PERSONS", bare().needed(0), -2);
    due("needed(0), no MARCH", none().needed(0), -2);
  }

  private static void traps() {
    MarchFolk x = full();
    says("39", "TRAP: the first ROAD by which, shut from STEP n on (ahead of its VOTES),"
        + " it is at a PLACE neither at STEP n nor behind it.");
    due("trap(0, 5), ahead of the VOTES of STEP 0", x.trap(0, 5), 4);
    due("trap(1, 4), ahead of the VOTES of STEP 1", x.trap(1, 4), 4);
    due("trap(0, 6), there at STEP 0", x.trap(0, 6), NONE);
    due("trap(1, 6), no more there", x.trap(1, 6), 0);
    due("trap(1, 5), there at STEP 1", x.trap(1, 5), NONE);
    due("trap(2, 5), no more there", x.trap(2, 5), 0);
    due("trap(0, 1), never there", x.trap(0, 1), 0);
    due("trap(3, 0), over and there", x.trap(3, 0), NONE);
    due("trap(4, 0), over", x.trap(4, 0), 0);
    MarchFolk endless = tied(0);
    due("trap(60, 0), there at STEP 60", endless.trap(60, 0), NONE);
    due("trap(60, 2), not there at STEP 60", endless.trap(60, 2), 0);
    due("trap(59, 0), kept from it at STEP 60", endless.trap(59, 0), 3);
    due("trap(59, 2), there at STEP 59", endless.trap(59, 2), NONE);
    due("trap(58, 2), at STEP 61 again", endless.trap(58, 2), 1);
    due("trap(56, 2), at STEP 59 by ROAD 1", endless.trap(56, 2), 3);
    MarchFolk two = tenRoads();
    due("trap(0, 1), one of ten ROADS is not enough", two.trap(0, 1), NONE);
    for (int r = 0; r < 9; r++) two.bar(r, 1);
    due("trap(0, 1), the last of ten", two.trap(0, 1), 9);
    says("39", "NONE: none (there are no ROADS)");
    due("trap(0, 0) without ROADS", bare().trap(0, 0), NONE);
    due("trap(0, 1) without ROADS", bare().trap(0, 1), NONE);
    due("trap(60, 0) without ROADS", bare().trap(60, 0), NONE);
    says("39", "-2: there are none such.");
    Edges.bounds("trap(.., 6)", n -> x.trap(n, 6), 0, NONE, 60, 0, -2);
    Edges.bounds("trap(0, ..)", p -> x.trap(0, p), 0, NONE, 6, NONE, -2);
    Edges.bounds("trap(.., 0) without ROADS", n -> bare().trap(n, 0), 0, NONE, 60, NONE, -2);
    due("trap(0, 0), no MARCH", none().trap(0, 0), -2);
  }

  private static void stops() {
    says("IV", "A set of REASONS answered from STEP 0 on in place of those answered, costs what they do together;"
        + " it contents PERSONS of these REASONS.");
    MarchFolk x = full();
    x.answer(5, 1);
    due("over(), answered", x.over(), 0);
    due("stop(0), in place of those answered", x.stop(0), 99);
    due("stops(0), in place of those answered", x.stops(0), 32);
    due("ends(), in place of those answered", x.ends(), 32);
    due("content(3), in place of those answered", x.content(3), 4);
    due("answered(), as before", x.answered(), 32);
    due("at(0), as before", x.at(0), 6);
    due("at(1), as before", x.at(1), NONE);
    MarchFolk shut = full();
    shut.bar(9, 1);
    shut.bar(4, 1);
    due("stop(0), both ROADS shut stay so", shut.stop(0), 0);
    due("stops(0), both ROADS shut stay so", shut.stops(0), 0);
    String all = "grant0costs1;grant1costs2;grant2costs4;grant3costs8;grant4costs16;grant5costs99;";

    says("40", "STOP: the least that a set of REASONS costs (IV) by whose answer it never comes to a PLACE (STEPS 0 .. 60).");
    due("stop(1), all six", six(all).stop(1), 130);
    due("stop(1), all six for nothing", six("").stop(1), 0);
    due("stop(1), the cheaper of two", either("grant1costs5;grant3costs4;").stop(1), 4);
    due("stop(1), it never comes there", full().stop(1), 0);
    due("stop(2), at STEP 1 and for ever", told(Edges.tied(0, 0, "grant1costs3;grant0costs4;")).stop(2), 3);
    says("40", "NONE: by none");
    due("stop(6), its start", full().stop(6), NONE);
    due("stop(1), its start, without PERSONS", bare().stop(1), NONE);
    says("40", "-2: there is none such.");
    MarchFolk y = full();
    Edges.bounds("stop", y::stop, 0, 99, 6, NONE, -2);
    due("stop(0), no MARCH", none().stop(0), -2);

    says("41", "Which, as bits: the least set of so little.");
    due("stops(1), all six", six(all).stops(1), 63);
    due("stops(1), all six for nothing", six("").stops(1), 63);
    due("stops(1), the cheaper of two", either("grant1costs5;grant3costs4;").stops(1), 8);
    due("stops(1), the least of two", either("grant1costs5;grant3costs5;").stops(1), 2);
    due("stops(1), the least of three for nothing", either("").stops(1), 2);
    due("stops(1), it never comes there", full().stops(1), 0);
    says("41", "NONE, -2 likewise.");
    due("stops(1), its start, without PERSONS", bare().stops(1), NONE);
    Edges.bounds("stops", y::stops, 0, 32, 6, NONE, -2);
    due("stops(0), no MARCH", none().stops(0), -2);
  }

  private static void ends() {
    String all = "grant0costs1;grant1costs2;grant2costs4;grant3costs8;grant4costs16;grant5costs99;";
    says("42", "The least STEP by which it can be over by answers of any set of REASONS.");
    due("soonest(), all six", six(all).soonest(), 0);
    due("soonest(), nobody", bare().soonest(), 0);
    says("42", "NONE: by none");
    due("soonest(), which all REASONS end at STEP 0", tied(0).soonest(), 0);
    says("42", "-2: there is no MARCH.");
    due("soonest(), no MARCH", none().soonest(), -2);

    says("43", "The set by which it is, the cheapest, of these the least, as bits.");
    due("ends(), all six", six(all).ends(), 63);
    due("ends(), all six for nothing", six("").ends(), 63);
    due("ends(), the cheaper of two", either("grant1costs5;grant3costs4;").ends(), 8);
    due("ends(), the least of two", either("grant1costs5;grant3costs5;").ends(), 2);
    due("ends(), nobody", bare().ends(), 0);
    // Without an answer it is over at STEP 1, by REASON 1 at STEP 0: the sooner counts, whatever it costs.
    due("ends(), sooner for more", told(head(2, 0, 0) + "road 0 to 1 long 1;" + person(0, 1, 1, 0, 1)
        + "grant 1 costs 99;").ends(), 2);
    says("43", "NONE, -2 likewise.");
    due("ends(), which some set always does", tied(0).ends(), 3);
    due("ends(), no MARCH", none().ends(), -2);
  }

  private static void contents() {
    MarchFolk x = full();
    says("44", "CONTENT: how many PERSONS a set of REASONS (bits) contents.");
    due("content(1)", x.content(1), 2);
    due("content(32)", x.content(32), 1);
    due("content(33)", x.content(33), 3);
    due("content(63) of nobody", bare().content(63), 0);
    says("44", "-2: there is no such set, no MARCH.");
    Edges.bounds("content", x::content, 0, 0, 63, 8, -2);
    due("content(0), no MARCH", none().content(0), -2);

    says("45", "The most PERSONS that can be contented for n (0 .. 600).");
    // REASONS 0 and 1 have two PERSONS each, the others one, for 99 each.
    int[][] paid = {{98, 0}, {99, 2}, {197, 2}, {198, 4}, {296, 4}, {297, 5}, {593, 7}, {594, 8}, {599, 8}};
    for (int[] pair : paid) due("buys(" + pair[0] + ")", x.buys(pair[0]), pair[1]);
    due("buys(0), all for nothing", six("").buys(0), 6);
    says("45", "-2: there is no such n, no MARCH.");
    Edges.bounds("buys", x::buys, 0, 0, 600, 8, -2);
    due("buys(0), no MARCH", none().buys(0), -2);
  }

  private static void shuts() {
    says("V", "ROADS shut from STEP 0 on in place of those shut.");
    MarchFolk x = full();
    x.bar(9, 1);
    x.bar(4, 1);
    due("comes(0), both ROADS shut", x.comes(0), NONE);
    due("shut(0), in place of those shut", x.shut(0), 2);
    due("shuts(0), in place of those shut", x.shuts(0), 528);
    due("barred(), as before", x.barred(), 528);
    due("way(6, 0), as before", x.way(6, 0), NONE);

    says("46", "SHUT: the fewest ROADS that, shut (V), keep it from ever coming to a PLACE.");
    due("shut(1), all ten", tenRoads().shut(1), 10);
    due("shut(2), it never comes there", tenRoads().shut(2), 0);
    due("shut(0) without ROADS", bare().shut(0), 0);
    MarchFolk answered = full();
    answered.answer(5, 1);
    due("shut(0), answered", answered.shut(0), 0);
    says("46", "NONE: all do not");
    due("shut(0), its start", tenRoads().shut(0), NONE);
    due("shut(1), its start, without ROADS", bare().shut(1), NONE);
    says("46", "-2: there is none such.");
    MarchFolk y = full();
    Edges.bounds("shut", y::shut, 0, 2, 6, NONE, -2);
    due("shut(0), no MARCH", none().shut(0), -2);

    says("47", "Which, as bits: the least set of so few.");
    due("shuts(1), all ten", tenRoads().shuts(1), 1023);
    due("shuts(2), it never comes there", tenRoads().shuts(2), 0);
    due("shuts(5), one of two", y.shuts(5), 16);
    due("shuts(2), one of a great number, not two of small ones", told(head(3, 0, 0)
        + "road 0 to 1 long 1; road 0 to 1 long 1; road 1 to 2 long 1;" + person(0, 2, 0, 0, 1)).shuts(2), 4);
    due("shuts(0), one pair of two", y.shuts(0), 528);
    says("47", "NONE, -2 likewise.");
    due("shuts(0), its start", tenRoads().shuts(0), NONE);
    Edges.bounds("shuts", y::shuts, 0, 528, 6, NONE, -2);
    due("shuts(0), no MARCH", none().shuts(0), -2);
  }

  private static void cuts() {
    MarchFolk x = full();
    says("48", "CUT: the fewest ROADS, of those not shut, without which there is no way from a PLACE to another one.");
    MarchFolk ten = tenRoads();
    due("cut(0, 1) of ten ROADS", ten.cut(0, 1), 10);
    for (int r = 0; r < 10; r++) {
      ten.bar(r, 1);
      due("cut(0, 1), shut up to " + r, ten.cut(0, 1), 9 - r);
    }
    due("cut(0, 2), no ROAD", tenRoads().cut(0, 2), 0);
    due("cut(0, 1) without ROADS", bare().cut(0, 1), 0);
    says("48", "NONE: it is the same one");
    due("cut(6, 6)", x.cut(6, 6), NONE);
    due("cut(0, 0) without ROADS", bare().cut(0, 0), NONE);
    says("48", "-2: there are none such.");
    Edges.bounds("cut(.., 0)", p -> x.cut(p, 0), 0, NONE, 6, 2, -2);
    Edges.bounds("cut(0, ..)", p -> x.cut(0, p), 0, NONE, 6, 2, -2);
    Edges.bounds("cut(p, p)", p -> x.cut(p, p), 0, NONE, 6, NONE, -2);
    due("cut(0, 0), no MARCH", none().cut(0, 0), -2);
  }

  // ---- What was seen ----

  /** Thirty pairs alike but for the last one, in a row of 60 numbers. */
  private static void thirty(MarchFolk x, int slot, int a, int b, int lastA, int lastB) {
    long[] numbers = new long[60];
    for (int i = 0; i < 60; i += 2) {
      numbers[i] = i < 58 ? a : lastA;
      numbers[i + 1] = i < 58 ? b : lastB;
    }
    Edges.put(x, slot, 0, numbers);
  }

  private static MarchFolk with(String text, int width, long... numbers) {
    MarchFolk x = told(text);
    Edges.put(x, 1, width, numbers);
    return x;
  }

  private static void starts() {
    String text = Edges.full();
    says("49", "STARTS: PLACES from which it can have set out, by a SLOT's row, two numbers each:"
        + " a PERSON, the STEP at which he falls in (joins(); NONE: at none), as bits.");
    due("starts of no numbers", with(text, 0).starts(1), 127);
    due("starts of 7 0", with(text, 0, 7, 0).starts(1), 64);
    due("starts of 7 NONE", with(text, 0, 7, -1).starts(1), 63);
    due("starts of 7 60", with(text, 0, 7, 60).starts(1), 0);
    due("starts of 0 NONE", with(text, 3, 0, -1).starts(1), 127);
    due("starts of 7 0 7 NONE", with(text, 0, 7, 0, 7, -1).starts(1), 0);
    due("starts of 7 NONE 0 NONE", with(text, 0, 7, -1, 0, -1).starts(1), 63);
    MarchFolk sixty = told(text);
    thirty(sixty, 2, 7, 0, 0, -1);
    due("starts of thirty pairs", sixty.starts(2), 64);
    thirty(sixty, 2, 7, 0, 7, 1);
    due("starts of thirty pairs, the last not so", sixty.starts(2), 0);

    says("49", "-2: there is no such SLOT, no MARCH, a number is none such (asked last), not two each");
    MarchFolk all = told(text);
    for (int slot = 0; slot < 4; slot++) Edges.put(all, slot, slot, 7, slot == 0 ? 0 : -1);
    Edges.bounds("starts", all::starts, 0, 64, 3, 63, -2);
    MarchFolk without = none();
    Edges.put(without, 0, 0, 0, 0);
    due("starts(0), no MARCH", without.starts(0), -2);
    Edges.bounds("starts of a PERSON", p -> with(text, 3, p, -1).starts(1), 0, 127, 7, 63, -2);
    Edges.bounds("starts of a STEP", n -> with(text, 3, 7, n).starts(1), -1, 63, 60, 0, -2);
    due("starts of 2^32 0", with(text, 3, 1L << 32, 0).starts(1), -2);
    due("starts of 7 2^32", with(text, 3, 7, 1L << 32).starts(1), -2);
    due("starts of 7 -2^32", with(text, 3, 7, -1L << 32).starts(1), -2);
    due("starts of 7 60 8 0", with(text, 0, 7, 60, 8, 0).starts(1), -2);
    due("starts of 7 60 0 61", with(text, 0, 7, 60, 0, 61).starts(1), -2);
    thirty(sixty, 2, 7, 60, 0, -2);
    due("starts of thirty pairs, the last none such", sixty.starts(2), -2);
    for (int n : new int[] {1, 3, 59}) due("starts of " + n + " numbers", with(text, 0, new long[n]).starts(1), -2);
    due("starts of a PERSON, there are none", with(Edges.BARE, 0, 0, 0).starts(1), -2);
    due("starts of no numbers, there are no PERSONS", with(Edges.BARE, 0).starts(1), 3);

    says("49", "-6: it has nothing.");
    due("starts(0) of nothing", with(text, 0).starts(0), -6);
    due("starts(3) of nothing", told(text).starts(3), -6);
    due("starts(0) of nothing, no MARCH", none().starts(0), -2);
    due("starts(-1000)", none().starts(-1000), -2);
  }

  private static void asks() {
    String text = Edges.full();
    says("50", "ASK: the PERSON of whom to know joins() leaves fewest of these at worst, if fewer than now, the first of several.");
    due("ask, six or one", with(text, 0).ask(1), 7);
    // Three PLACES, no ROADS: by each PERSON two are left at worst.
    due("ask, the first of two", with(head(3, 0, 0) + person(2, 0, 0, 0, 1) + person(1, 0, 0, 0, 1), 0).ask(1), 0);
    due("ask, the better one", with(head(4, 0, 0) + "road 0 to 1 long 1;" + person(2, 0, 0, 0, 1)
        + person(0, 1, 0, 0, 1) + person(1, 0, 0, 0, 1) + person(3, 0, 0, 0, 1), 0).ask(1), 1);
    // From 1 and 2 alone, PERSON 1 is known to fall in or not: that he wouldn't from 0 is no matter.
    due("ask, of these alone", with(head(3, 0, 0) + person(0, 1, 0, 0, 1) + person(1, 0, 0, 0, 1), 0, 0, -1).ask(1), 1);
    says("50", "NONE: none");
    due("ask, six alike", with(text, 0, 7, -1).ask(1), NONE);
    due("ask, one is left", with(text, 0, 7, 0).ask(1), NONE);
    due("ask, 0 is left", with(Edges.hills(0, 5), 0, 1, 0).ask(1), NONE);
    due("ask, none is left", with(text, 0, 7, 60).ask(1), NONE);
    due("ask, there are no PERSONS", with(Edges.BARE, 0).ask(1), NONE);
    says("50", "-2, -6 likewise.");
    MarchFolk all = told(text);
    for (int slot = 0; slot < 4; slot++) Edges.put(all, slot, slot);
    Edges.bounds("ask", all::ask, 0, 7, 3, 7, -2);
    MarchFolk without = none();
    Edges.put(without, 0, 0, 0, 0);
    due("ask(0), no MARCH", without.ask(0), -2);
    Edges.bounds("ask by a PERSON", p -> with(text, 3, p, -1).ask(1), 0, 7, 7, NONE, -2);
    Edges.bounds("ask by a STEP", n -> with(text, 3, 7, n).ask(1), -1, NONE, 60, NONE, -2);
    due("ask by 2^32 0", with(text, 3, 1L << 32, 0).ask(1), -2);
    due("ask by 7 60 8 0", with(text, 0, 7, 60, 8, 0).ask(1), -2);
    for (int n : new int[] {1, 3, 59}) due("ask by " + n + " numbers", with(text, 0, new long[n]).ask(1), -2);
    due("ask(0) of nothing", with(text, 0).ask(0), -6);
    due("ask(3) of nothing", told(text).ask(3), -6);
    due("ask(0) of nothing, no MARCH", none().ask(0), -2);
  }

  private static void rules() {
    String text = Edges.hills(0, 5);
    says("51", "RULES (III) by which it is where a SLOT's row tells, two numbers each: a STEP (0 .. 60), a PLACE (NONE: over), as bits.");
    due("rules of no numbers", with(text, 0).rules(1), 15);
    due("rules of 2 2", with(text, 0, 2, 2).rules(1), 7);
    due("rules of 2 0", with(text, 0, 2, 0).rules(1), 8);
    due("rules of 2 2 2 0", with(text, 0, 2, 2, 2, 0).rules(1), 0);
    due("rules of 4 0, over then", with(text, 0, 4, 0).rules(1), 7);
    due("rules of 4 NONE, over then", with(text, 0, 4, -1).rules(1) & 7, 0);
    due("rules of 5 NONE, over ahead of it", with(text, 0, 5, -1).rules(1), 7);
    due("rules of 60 0, for ever", with(Edges.tied(0, 0, ""), 0, 60, 0).rules(1) & 1, 1);
    due("rules of 60 NONE, for ever", with(Edges.tied(0, 0, ""), 0, 60, -1).rules(1) & 1, 0);
    MarchFolk sixty = told(text);
    thirty(sixty, 2, 2, 2, 5, -1);
    due("rules of thirty pairs", sixty.rules(2), 7);
    thirty(sixty, 2, 2, 2, 5, 0);
    due("rules of thirty pairs, the last not so", sixty.rules(2), 0);

    says("51", "-2: there is no such SLOT, no MARCH, a number is none such (asked last), not two each");
    MarchFolk all = told(text);
    for (int slot = 0; slot < 4; slot++) Edges.put(all, slot, slot, 2, slot == 0 ? 0 : 2);
    Edges.bounds("rules", all::rules, 0, 8, 3, 7, -2);
    MarchFolk without = none();
    Edges.put(without, 0, 0, 0, 0);
    due("rules(0), no MARCH", without.rules(0), -2);
    String full = Edges.full();
    Edges.bounds("rules of a STEP", n -> with(full, 3, n, 6).rules(1), 0, 15, 60, 0, -2);
    Edges.bounds("rules of a PLACE", p -> with(full, 3, 0, p).rules(1), -1, 0, 6, 15, -2);
    Edges.bounds("rules of a PLACE of two", p -> with(Edges.BARE, 3, 1, p).rules(1), -1, 15, 1, 0, -2);
    due("rules of 2^32 6", with(full, 3, 1L << 32, 6).rules(1), -2);
    due("rules of 0 2^32 + 6", with(full, 3, 0, (1L << 32) + 6).rules(1), -2);
    due("rules of 0 5 61 0", with(full, 0, 0, 5, 61, 0).rules(1), -2);
    due("rules of 0 5 0 7", with(full, 0, 0, 5, 0, 7).rules(1), -2);
    for (int n : new int[] {1, 3, 59}) due("rules of " + n + " numbers", with(full, 0, new long[n]).rules(1), -2);

    says("51", "-6: it has nothing.");
    due("rules(0) of nothing", with(text, 0).rules(0), -6);
    due("rules(3) of nothing", told(text).rules(3), -6);
    due("rules(0) of nothing, no MARCH", none().rules(0), -2);
    due("rules(-1000)", none().rules(-1000), -2);
  }

  // ---- False votes ----

  private static void shams() {
    says("VI", "SHAM of a PERSON in it at STEP n: a PLACE beside (by a ROAD that is not shut), not the one for which he votes");
    MarchFolk x = tied(0);
    due("shams(0, 58), by ROAD 0", x.shams(0, 58), 2);
    x.bar(0, 1);
    due("shams(0, 58), ROAD 0 shut", x.shams(0, 58), 0);
    x.undo();
    due("shams(7, 3), no more in it", full().shams(7, 3), 0);
    due("shams(0, 0), never in it", full().shams(0, 0), 0);
    due("shams(7, 0), by the long ROAD", full().shams(7, 0), 1);
    // PERSON 2 wants 1 as 0 does, and it is tied just so; but he is never in it.
    MarchFolk outside = told(Edges.tied(0, 0, person(4, 1, 2, 9, 1)));
    due("shams(2, 0), not in it", outside.shams(2, 0), 0);
    due("shammers(0), one is not in it", outside.shammers(0), 3);

    says("VI", "if he voted for it at that STEP, it would come to where he wants to be at an earlier STEP behind n"
        + " than it does (or at all, to 60).");
    String square = head(4, 0, 0) + "road 0 to 1 long 1; road 1 to 3 long 1; road 0 to 2 long 1; road 2 to 3 long 1;";
    due("shams(0, 0), another way is as good", told(square + person(0, 3, 0, 0, 1)).shams(0, 0), 0);
    due("shams(0, 0), the direct one is better", told(square + "road 0 to 3 long 9;" + person(0, 3, 0, 0, 1)).shams(0, 0), 8);
    // PERSON 1 falls in at 0 at STEP 1; it was at 2, where he wants to be, at STEP 0.
    MarchFolk again = told(head(4, 2, 0) + "road 0 to 2 long 2; road 0 to 1 long 1; road 1 to 2 long 1;"
        + "road 0 to 3 long 9;" + person(2, 0, 0, 0, 1) + person(0, 2, 0, 0, 1));
    due("shams(1, 1), behind STEP 1", again.shams(1, 1), 4);
    due("shams(0, 55), at STEP 60 at all", x.shams(0, 55), 16);
    due("shams(0, 57), at STEP 62", x.shams(0, 57), 0);
    due("shams(1, 54), at STEP 59 at all", x.shams(1, 54), 2);
    due("shams(1, 56), at STEP 61", x.shams(1, 56), 0);
    due("shams(0, 60), at STEP 61", x.shams(0, 60), 0);
    MarchFolk odd = tied(3);
    due("shams(0, 59), at STEP 60", odd.shams(0, 59), 2);
    due("shams(1, 55), at STEP 60 at all", odd.shams(1, 55), 2);
    due("shams(0, 54), at STEP 59 at all", odd.shams(0, 54), 16);
    due("shams(0, 56), at STEP 61", odd.shams(0, 56), 0);

    String fork = head(3, 0, 0) + "road 0 to 1 long 1; road 0 to 2 long 1;";
    due("shams(0, 0), later", told(fork + person(0, 1, 0, 0, 1)).shams(0, 0), 0);
    due("shams(0, 0), it is his VOTE alone", told(Edges.tied(0, 0, person(0, 4, 1, 0, 1))).shams(0, 0), 0);
    due("shams(0, 0), the others go there all the same",
        told(fork + Edges.times(3, person(0, 1, 0, 0, 1))).shams(0, 0), 0);

    says("52", "SHAM (VI): PLACES for which a PERSON would rather vote falsely at STEP n, as bits.");
    due("shams(0, 0), two PLACES", told(head(6, 0, 0) + "road 0 to 1 long 1; road 1 to 2 long 1; road 2 to 4 long 1;"
        + "road 4 to 3 long 1; road 0 to 3 long 99; road 0 to 5 long 50; road 5 to 3 long 50;"
        + person(0, 3, 0, 0, 1)).shams(0, 0), 40);
    due("shams(0, 0), by tie", x.shams(0, 0), 2);
    due("shams(0, 1), by two VOTES", x.shams(0, 1), 16);
    says("52", "-2: there are none such, no MARCH.");
    Edges.bounds("shams(.., 0)", p -> full().shams(p, 0), 0, 0, 7, 1, -2);
    Edges.bounds("shams(7, ..)", n -> full().shams(7, n), 0, 1, 60, 0, -2);
    due("shams(0, 0) without PERSONS", bare().shams(0, 0), -2);
    due("shams(0, 0), no MARCH", none().shams(0, 0), -2);

    says("53", "PERSONS who have one at STEP n, as bits.");
    due("shammers(54)", x.shammers(54), 3);
    due("shammers(55)", x.shammers(55), 1);
    due("shammers(57)", x.shammers(57), 0);
    due("shammers(58)", x.shammers(58), 1);
    due("shammers(0) of the eighth", full().shammers(0), 128);
    due("shammers(0), nobody", bare().shammers(0), 0);
    says("53", "-2 likewise.");
    Edges.bounds("shammers", full()::shammers, 0, 128, 60, 0, -2);
    due("shammers(0), no MARCH", none().shammers(0), -2);
  }

  // ---- Rain ----

  private static void fraction(MarchFolk x, int place, int n, long above, long below) {
    due("chance(" + place + ", " + n + ", 0)", x.chance(place, n, 0), above);
    due("chance(" + place + ", " + n + ", 1)", x.chance(place, n, 1), below);
  }

  private static void mean(MarchFolk x, int n, long above, long below) {
    due("mean(" + n + ", 0)", x.mean(n, 0), above);
    due("mean(" + n + ", 1)", x.mean(n, 1), below);
  }

  private static void rain() {
    says("VII", "RAIN: at each STEP with odds in ten, by itself: then nobody falls in.");
    // PERSONS 0 and 1 are in it if STEP 0 is dry, then 2 by the first dry one of STEPS 1, 3, 5, 7.
    MarchFolk x = rainy(0, 9);
    fraction(x, 2, 1, 1, 10);
    fraction(x, 4, 1, 0, 1);
    fraction(x, 4, 2, 1, 100);
    fraction(x, 4, 3, 1, 100);
    fraction(x, 4, 4, 19, 1000);
    fraction(rainy(0, 0), 4, 2, 1, 1);
    fraction(rainy(0, 10), 4, 8, 0, 1);
    fraction(rainy(0, 1), 4, 2, 81, 100);
    mean(rainy(0, 10), 8, 0, 1);
    mean(rainy(0, 0), 1, 3, 1);
    says("VII", "FRACTIONS are told in lowest terms (0 / 1).");
    fraction(told(Edges.hills(0, 5)), 1, 1, 1, 2);
    fraction(told(Edges.hills(0, 6)), 1, 1, 2, 5);
    fraction(x, 1, 5, 0, 1);
    mean(bare(), 8, 0, 1);
    mean(told(Edges.hills(0, 5)), 1, 5, 4);

    says("54", "RAIN (VII): the chance that it comes to a PLACE by STEP n (0 .. 8), above (what 0), below (1).");
    fraction(x, 0, 0, 1, 1);
    fraction(x, 0, 8, 1, 1);
    fraction(x, 2, 0, 0, 1);
    fraction(x, 1, 6, 1, 100);
    fraction(x, 1, 8, 19, 1000);
    fraction(x, 4, 7, 271, 10000);
    fraction(x, 4, 8, 3439, 100000);
    says("54", "-2: there are none such.");
    Edges.bounds("chance(.., 8, 0)", p -> x.chance(p, 8, 0), 0, 1, 4, 3439, -2);
    Edges.bounds("chance(4, .., 0)", n -> x.chance(4, n, 0), 0, 0, 8, 3439, -2);
    Edges.bounds("chance(4, 8, ..)", what -> x.chance(4, 8, what), 0, 3439, 1, 100000, -2);
    due("chance(0, 0, 0), no MARCH", none().chance(0, 0, 0), -2);
    due("chance(0, 0, 1), no MARCH", none().chance(0, 0, 1), -2);

    says("55", "The mean number of PERSONS who are in it at STEP n (0 .. 8), above, below.");
    mean(x, 0, 1, 5);
    mean(x, 7, 17019, 100000);
    mean(x, 8, 14661, 100000);
    says("55", "-2 likewise.");
    Edges.bounds("mean(.., 0)", n -> x.mean(n, 0), 0, 1, 8, 14661, -2);
    Edges.bounds("mean(8, ..)", what -> x.mean(8, what), 0, 14661, 1, 100000, -2);
    due("mean(0, 0), no MARCH", none().mean(0, 0), -2);
    due("mean(0, 1), no MARCH", none().mean(0, 1), -2);
  }

  private static void draws() {
    says("VII", "DRAWS: x becomes (1103515245 x + 12345) modulo 2,147,483,648 (at first it is the seed);"
        + " a draw: x / 65536, cut, modulo 10.");
    // From 0: 0 8 8 7. From 5: 5 7 6 7. From 1004: 9. From 2,000,000,000: 4 3 1 7 6.
    due("drawn(0, 0), a draw of 0 below 1", told(Edges.hills(0, 1)).drawn(0, 0), 0);
    due("drawn(1004, 2), a draw of 9", told(Edges.hills(0, 9)).drawn(1004, 2) & 2, 2);
    due("drawn(2000000000, 0), 3 and 1 rain", told(Edges.hills(0, 4)).drawn(2000000000, 0), 3);
    due("drawn(2000000000, 1), 3 and 1 rain", told(Edges.hills(0, 4)).drawn(2000000000, 1), 3);
    // By rain at STEP 2, PERSON 3 misses it: it turns about, and is at his home again at STEP 6.
    due("drawn(2000000000, 0), 1 rains", told(Edges.hills(0, 2)).drawn(2000000000, 0), 7);
    due("drawn(2000000000, 0), none rains", told(Edges.hills(0, 1)).drawn(2000000000, 0), 4);

    says("VII", "STEP by STEP, till it is over, a draw: below odds it rains.");
    due("drawn(0, 0), odds 0", told(Edges.hills(0, 0)).drawn(0, 0), 4);
    due("drawn(5, 0), a draw of 5 by odds 5", told(Edges.hills(0, 5)).drawn(5, 0), 4);
    due("drawn(5, 0), a draw of 5 by odds 6", told(Edges.hills(0, 6)).drawn(5, 0), 0);
    due("drawn(5, 1), a draw of 5 by odds 6", told(Edges.hills(0, 6)).drawn(5, 1), 0);
    due("drawn(1004, 0), a draw of 9 by odds 10", told(Edges.hills(0, 10)).drawn(1004, 0), 0);
    due("drawn(1008, 1), 6 0 9 9 by odds 5", told(Edges.hills(0, 5)).drawn(1008, 1), 11);

    says("63", "what 0: the first STEP at which it is over (NONE: by 60 it is not)");
    // The STEPS at which PERSON 2 falls in: 55, 57, 59 by start 0; 56, 58, 60 by start 3. It is over five STEPS on.
    due("drawn(1878, 0), over at 60", rainy(0, 9).drawn(1878, 0), 60);
    due("drawn(7507, 0), over at 62", rainy(0, 9).drawn(7507, 0), NONE);
    due("drawn(704, 0), over at 61", rainy(3, 9).drawn(704, 0), NONE);
    due("drawn(0, 0), at once", rainy(3, 9).drawn(0, 0), 0);
    says("63", "1: PERSONS who fall in, as bits, 2: PLACES it comes to, as bits.");
    due("drawn(840, 1), at STEP 59", rainy(0, 9).drawn(840, 1), 7);
    due("drawn(991, 1), at STEP 60", rainy(3, 9).drawn(991, 1), 7);
    due("drawn(0, 1), nobody", rainy(0, 9).drawn(0, 1), 0);
    due("drawn(1878, 2), at 1 at STEP 60", rainy(0, 9).drawn(1878, 2), 31);
    due("drawn(704, 2), at 1 at STEP 61", rainy(3, 9).drawn(704, 2), 29);
    due("drawn(840, 2), at 4 at STEP 60", rainy(0, 9).drawn(840, 2), 21);
    due("drawn(991, 2), at 4 at STEP 61", rainy(3, 9).drawn(991, 2), 13);
    due("drawn(2642, 2), at 4 at STEP 59", rainy(3, 9).drawn(2642, 2), 29);
    due("drawn(0, 2), its start alone", rainy(3, 9).drawn(0, 2), 8);
    says("63", "RAIN drawn (VII) from a seed (0 .. 2,000,000,000)");
    MarchFolk x = told(Edges.hills(0, 4));
    Edges.bounds("drawn(.., 0)", seed -> x.drawn(seed, 0), 0, 0, 2000000000, 3, -2);
    says("63", "-2: there are none such, no MARCH.");
    Edges.bounds("drawn(2000000000, ..)", what -> x.drawn(2000000000, what), 0, 3, 2, 15, -2);
    for (int what = 0; what < 3; what++) {
      due("drawn(-1, " + what + ")", x.drawn(-1, what), -2);
      due("drawn(2000000001, " + what + ")", x.drawn(2000000001, what), -2);
      due("drawn(0, " + what + "), no MARCH", none().drawn(0, what), -2);
    }
  }

  private static void luck() {
    says("64", "Of n (1 .. 20) such from seeds, the seed and 1, .., in how many it comes to a PLACE.");
    MarchFolk x = told(Edges.hills(0, 5));
    // The first draws from 1002, 1003, 1004 are 1, 1, 9.
    due("luck(1002, 2, 1)", x.luck(1002, 2, 1), 0);
    due("luck(1002, 3, 1)", x.luck(1002, 3, 1), 1);
    due("luck(1004, 1, 1)", x.luck(1004, 1, 1), 1);
    due("luck(1002, 20, 0), its start", x.luck(1002, 20, 0), 20);
    due("luck(1002, 20, 4), never there", x.luck(1002, 20, 4), 0);
    for (int seed = 0; seed < 3; seed++) {
      int one = 0;
      for (int n = 1; n <= 20; n++) {
        one += x.luck(seed + n - 1, 1, 1);
        due("luck(" + seed + ", " + n + ", 1), each by itself", x.luck(seed, n, 1), one);
      }
    }
    due("luck(1878, 1, 1), at STEP 60", rainy(0, 9).luck(1878, 1, 1), 1);
    due("luck(704, 1, 1), at STEP 61", rainy(3, 9).luck(704, 1, 1), 0);
    due("luck(840, 1, 4), at STEP 60", rainy(0, 9).luck(840, 1, 4), 1);
    due("luck(991, 1, 4), at STEP 61", rainy(3, 9).luck(991, 1, 4), 0);
    says("64", "-2: there are none such.");
    Edges.bounds("luck(.., 1, 0)", seed -> x.luck(seed, 1, 0), 0, 1, 2000000000, 1, -2);
    Edges.bounds("luck(0, .., 0)", n -> x.luck(0, n, 0), 1, 1, 20, 20, -2);
    Edges.bounds("luck(1004, 1, ..)", p -> x.luck(1004, 1, p), 0, 1, 4, 0, -2);
    due("luck(0, 1, 0), no MARCH", none().luck(0, 1, 0), -2);
  }

  /** Each call that tells of what would be leaves what others tell as it is, whichever comes first. */
  private static void eachByItself() {
    List<ToLongFunction<MarchFolk>> calls = List.of(
        x -> x.needed(2), x -> x.needed(1), x -> x.trap(1, 4), x -> x.stops(2), x -> x.ends(), x -> x.shuts(2),
        x -> x.cut(0, 4), x -> x.starts(0), x -> x.ask(1), x -> x.rules(2), x -> x.shams(0, 0), x -> x.shammers(0),
        x -> x.chance(4, 4, 0), x -> x.mean(3, 0), x -> x.drawn(1878, 2), x -> x.luck(7, 20, 2), x -> x.at(2), x -> x.way(3, 4), x -> x.joins(2));
    long[] want = {3, 0, 4, 2, 3, 8, 1, 1, 0, 11, 2, 1, 3, 7, 31, 6, 4, 3, 1};
    says("IV", "from STEP 0 on in place of those answered");
    for (int i = 0; i < calls.size(); i++) {
      for (int j = 0; j < calls.size(); j++) {
        MarchFolk x = asked();
        calls.get(i).applyAsLong(x);
        due("call " + j + " behind call " + i, calls.get(j).applyAsLong(x), want[j]);
      }
    }
  }

  private static MarchFolk asked() {
    MarchFolk x = told(Edges.tied(0, 5, person(2, 4, 2, 2, 1)));
    Edges.put(x, 0, 0, 2, 1);
    Edges.put(x, 1, 0);
    Edges.put(x, 2, 0, 1, 2);
    return x;
  }

  public static void main(String[] args) {
    eachByItself();
    needed();
    traps();
    stops();
    ends();
    contents();
    shuts();
    cuts();
    starts();
    asks();
    rules();
    shams();
    rain();
    draws();
    luck();
    Edges.end(Edges.promises(38, 55, "IV", "V", "VI", "VII", "63", "64"));
  }
}
