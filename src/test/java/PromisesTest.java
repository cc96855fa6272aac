/**
 * At least one case for each promise of the document, with answers worked out by hand:
 * ordinary inputs, the edges that the document names, and wrong inputs.
 */
public final class PromisesTest {
  private static final int NONE = -1;
  private static int wrong = 0;
  private static int checked = 0;

  private static void due(int promise, String call, long got, long want) {
    checked++;
    if (got != want) {
      wrong++;
      System.out.println("promise " + promise + ": " + call + " answered " + got + ", due is " + want);
    }
  }

  /**
   * Rule 0 leads over 0, 1, 2, 3 to 0: there fall in 0 and 1 at STEP 0, 2 at STEP 1, 3 at STEP 2;
   * there leave 0 at STEP 2, 1 and 3 at STEP 3, 2 at STEP 4; then nobody is in it. PLACE 4 has no ROAD.
   */
  private static String hills(int rule) {
    return "march places 5 start 0 rule " + rule + " odds 5;\n"
        + "road 0 to 1 long 3; road 1 to 2 long 2; road 2 to 3 long 4; road 0 to 3 long 9; road 1 to 2 long 7;\n"
        + "person at 0 wants 2 reason 0 needs 0 board 5;\n"
        + "person at 0 wants 3 reason 1 needs 1 board 9;\n"
        + "person at 1 wants 0 reason 2 needs 2 board 1;\n"
        + "person at 2 wants 3 reason 0 needs 1 board 2;\n"
        + "person at 4 wants 0 reason 3 needs 0 board 4;\n"
        + "grant 0 costs 7; grant 1 costs 4; grant 0 costs 5;";
  }

  private static final String BARE = "march places 2 start 1 rule 3 odds 10;";

  private static void feed(MarchFolk x, String text) {
    for (int i = 0; i < text.length(); i += 20) {
      int[] four = new int[5];
      for (int j = 0; j < 20; j++) {
        four[j / 4] = four[j / 4] << 8 | (i + j < text.length() ? text.charAt(i + j) & 255 : 'x');
      }
      x.feed(four[0], four[1], four[2], four[3], four[4]);
    }
    x.end(text.length());
  }

  private static MarchFolk told(String text) {
    MarchFolk x = new MarchFolk();
    feed(x, text);
    x.march();
    return x;
  }

  private static void put(MarchFolk x, int slot, int width, long... numbers) {
    x.row(slot, width, numbers.length);
    for (int i = 0; i < numbers.length; i++) {
      x.write(slot, i, numbers[i]);
    }
  }

  private static void fault(String text, int kind, int place) {
    MarchFolk x = new MarchFolk();
    feed(x, text);
    due(4, "march() of " + text, x.march(), -4);
    due(5, "fault(0) of " + text, x.fault(0), kind);
    due(5, "fault(1) of " + text, x.fault(1), place);
  }

  private static void text() {
    MarchFolk x = new MarchFolk();
    for (int what : new int[] {0, 4, 5, 6, 7, 8, 9}) {
      due(1, "count(" + what + ")", x.count(what), 0);
    }
    due(1, "at(0)", x.at(0), -2);
    due(16, "over() without a march", x.over(), -2);
    due(17, "why() without a march", x.why(), -2);
    due(21, "most() without a march", x.most(), -2);
    due(22, "peak() without a march", x.peak(), -2);
    due(32, "loop() without a march", x.loop(), -2);
    due(33, "farthest() without a march", x.farthest(), -2);
    due(37, "missed() without a march", x.missed(), -2);
    due(42, "soonest() without a march", x.soonest(), -2);
    due(43, "ends() without a march", x.ends(), -2);
    due(44, "content(0) without a march", x.content(0), -2);
    due(45, "buys(0) without a march", x.buys(0), -2);
    due(53, "shammers(0) without a march", x.shammers(0), -2);
    due(55, "mean(0, 0) without a march", x.mean(0, 0), -2);
    due(63, "drawn(0, 0) without a march", x.drawn(0, 0), -2);
    due(5, "fault(0) ahead of any", x.fault(0), 0);
    due(5, "fault(1) ahead of any", x.fault(1), NONE);
    due(5, "fault(2)", x.fault(2), NONE);
    due(5, "fault(-1)", x.fault(-1), NONE);
    for (int i = 1; i <= 40; i++) {
      due(2, "feed " + i, x.feed(0x20202020, 0x20202020, 0x0a0a0a0a, 0x20202020, 0x20202020), 20 * i);
    }
    due(2, "feed beyond 800", x.feed(0, 0, 0, 0, 0), NONE);
    due(66, "count(8)", x.count(8), 800);
    due(3, "end(801)", x.end(801), NONE);
    due(3, "end(-1)", x.end(-1), NONE);
    due(3, "end(781)", x.end(781), 781);
    due(2, "feed beyond 800 by one", x.feed(0, 0, 0, 0, 0), NONE);
    due(3, "end(782), cut away", x.end(782), NONE);
    due(3, "end(780)", x.end(780), 780);
    due(2, "feed to 800", x.feed(0x20202020, 0x20202020, 0x20202020, 0x20202020, 0x20202020), 800);
    due(4, "march() of blanks", x.march(), 0);
    due(4, "tape behind march()", x.count(8), 0);
    due(3, "end(0)", x.end(0), 0);
    due(2, "feed", x.feed(0x6d617263, 0x6820706c, 0x61636573, 0x20322073, 0x74617274), 20);
    due(2, "feed", x.feed(0x20302072, 0x756c6520, 0x30206f64, 0x64732030, 0x3b000000), 40);
    due(3, "end(37)", x.end(37), 37);
    due(4, "march()", x.march(), 1);
    due(66, "count(0)", x.count(0), 2);
    feed(x, "");
    due(4, "march() of nothing", x.march(), 0);
    due(4, "no march then", x.over(), -2);
    due(66, "count(0)", x.count(0), 0);
  }

  private static void faults() {
    String head = "march places 3 start 0 rule 0 odds 0;";
    fault("road", 1, 0);
    fault(" \n;", 1, 2);
    fault("march", 1, 5);
    fault("march places 3 start 0 rule 0 odds 0 ", 1, 37);
    fault("march places 8", 2, 13);
    fault("march places 1", 2, 13);
    fault("march places 3 start 3", 2, 21);
    fault("march places 3 start 0 rule 4", 2, 28);
    fault("march places 3 start 0 rule 0 odds 11", 2, 35);
    fault("march places 3 start 0 rule 0 odds 99999999999999999999", 2, 35);
    fault("marchplaces 3", 1, 0);
    fault("March", 1, 0);
    fault("march places x", 1, 13);
    fault("march places -3", 1, 13);
    fault("march\tplaces", 1, 5);
    fault(head + head, 1, 37);
    fault(head + ";", 1, 37);
    fault(head + "grants 0 costs 1;", 1, 37);
    fault(head + "road 1 to 1 long 100;", 2, 47);
    fault(head + "road 1 to 0 long 0;", 2, 54);
    fault(head + "road 1 to 0 long 100;", 2, 54);
    fault(head + "road 1 to 3 long 1;", 2, 47);
    fault(head + "road 3 to 3 long 1;", 2, 42);
    fault(head + "person at 3", 2, 47);
    fault(head + "person at 0 wants 3", 2, 55);
    fault(head + "roada", 1, 37);
    fault(head + "roadz", 1, 37);
    fault(head + "road 0 toa", 1, 44);
    fault(head + "road 0 toz", 1, 44);
    fault(head + "road 0 to`", 1, 46);
    fault(head + "road 0 to/", 1, 46);
    fault(head + "road 0 to:", 1, 46);
    fault(head + "person at 0 wants 0 reason 6", 2, 64);
    fault(head + "person at 0 wants 0 reason 5 needs 10", 2, 72);
    fault(head + "person at 0 wants 0 reason 5 needs 9 board 0", 2, 80);
    fault(head + "grant 6 costs 1;", 2, 43);
    fault(head + "grant 5 costs 100;", 2, 51);
    fault(head + "grant 5 costs 99 \u00ff", 1, 54);
    StringBuilder roads = new StringBuilder(head);
    StringBuilder folk = new StringBuilder(head);
    for (int i = 0; i < 10; i++) {
      roads.append("road 2to 1long 00099;");
    }
    for (int i = 0; i < 8; i++) {
      folk.append("person at 0 wants 0 reason 0 needs 0 board 1;");
    }
    due(4, "march() of ten roads", told(roads.toString()).count(4), 10);
    due(4, "march() of eight persons", told(folk.toString()).count(5), 8);
    fault(roads + "road", 3, roads.length());
    fault(folk + "person ;", 3, folk.length());
    fault(roads + "roads", 1, roads.length());

    MarchFolk x = told(hills(0));
    x.bar(1, 1);
    feed(x, "march");
    due(4, "march() of a FAULT", x.march(), -4);
    due(4, "all else stays", x.count(7), 14);
    due(4, "all else stays", x.barred(), 2);
    due(4, "the tape is empty", x.count(8), 0);
    due(11, "at(1), the march that stays", x.at(1), 1);
    feed(x, BARE);
    due(4, "march() in place of another", x.march(), 1);
    due(11, "at(0), the new march", x.at(0), 1);
    due(16, "over(), the new march", x.over(), 0);
    due(5, "fault(0) without", x.fault(0), 0);
    due(5, "fault(1) without", x.fault(1), NONE);
    due(4, "nothing done", x.barred(), 0);
    due(4, "nothing done", x.count(6), 0);
    due(4, "no grants of the other", x.buys(600), 0);
  }

  private static void roads() {
    MarchFolk x = told(hills(0));
    due(6, "road(4, 0)", x.road(4, 0), 1);
    due(6, "road(4, 1)", x.road(4, 1), 2);
    due(6, "road(4, 2)", x.road(4, 2), 7);
    due(6, "road(5, 0)", x.road(5, 0), -2);
    due(6, "road(0, 3)", x.road(0, 3), -2);
    due(6, "road(-1, -1)", x.road(-1, -1), -2);
    int[] second = {0, 3, 1, 1, 9};
    for (int what = 0; what < 5; what++) {
      due(7, "person(1, " + what + ")", x.person(1, what), second[what]);
    }
    due(7, "person(5, 0)", x.person(5, 0), -2);
    due(7, "person(0, 5)", x.person(0, 5), -2);
    due(8, "way(0, 3)", x.way(0, 3), 9);
    due(8, "way(2, 0)", x.way(2, 0), 5);
    due(8, "way(4, 4)", x.way(4, 4), 0);
    due(8, "way(0, 4)", x.way(0, 4), NONE);
    due(8, "way(0, 5)", x.way(0, 5), -2);
    due(8, "way(-1, 0)", x.way(-1, 0), -2);
    due(9, "next(0, 3), the least of two", x.next(0, 3), 1);
    due(9, "next(3, 0), the least of two", x.next(3, 0), 0);
    due(9, "next(1, 1)", x.next(1, 1), NONE);
    due(9, "next(4, 0)", x.next(4, 0), NONE);
    due(9, "next(5, 0)", x.next(5, 0), -2);
    due(10, "reach(2)", x.reach(2), 15);
    due(10, "reach(4)", x.reach(4), 16);
    due(10, "reach(5)", x.reach(5), -2);
    due(48, "cut(0, 2)", x.cut(0, 2), 2);
    due(48, "cut(1, 2)", x.cut(1, 2), 3);
    due(48, "cut(0, 4)", x.cut(0, 4), 0);
    due(48, "cut(4, 4)", x.cut(4, 4), NONE);
    due(48, "cut(0, 5)", x.cut(0, 5), -2);
    x.bar(1, 1);
    due(8, "way(2, 0), a ROAD shut", x.way(2, 0), 10);
    due(48, "cut(1, 2), a ROAD shut", x.cut(1, 2), 2);
    x.bar(4, 1);
    due(9, "next(1, 2), two ROADS shut", x.next(1, 2), 0);
    x.bar(0, 1);
    due(10, "reach(1), three ROADS shut", x.reach(1), 2);
  }

  private static void steps() {
    MarchFolk x = told(hills(0));
    int[] at = {0, 1, 2, 3, 0, NONE};
    int[] crowd = {3, 7, 14, 4, 0, 0};
    int[] paces = {0, 3, 5, 9, 18, 18};
    int[] boards = {3, 7, 7, 4, 0, 0};
    int[] cause = {0, 0, 0, 2, NONE, NONE};
    int[] weighs = {14, 15, 12, 1, 0, 0};
    int[] splits = {0, 2, 2, 0, 0, 0};
    int[] carries = {2, 2, 2, 1, NONE, NONE};
    int[] parties = {2, 3, 2, 1, 0, 0};
    int[] turned = {0, 4, 4, 0, 0, 0};
    int[] eldest = {0, 0, 1, 2, NONE, NONE};
    for (int n = 0; n <= 60; n++) {
      int k = Math.min(n, 5);
      due(11, "at(" + n + ")", x.at(n), at[k]);
      due(12, "crowd(" + n + ")", x.crowd(n), crowd[k]);
      due(20, "paces(" + n + ")", x.paces(n), paces[k]);
      due(23, "boards(" + n + ")", x.boards(n), boards[k]);
      due(24, "cause(" + n + ")", x.cause(n), cause[k]);
      due(25, "weighs(" + n + ")", x.weighs(n), weighs[k]);
      due(26, "splits(" + n + ")", x.splits(n), splits[k]);
      due(27, "carries(" + n + ")", x.carries(n), carries[k]);
      due(28, "parties(" + n + ")", x.parties(n), parties[k]);
      due(31, "turned(" + n + ")", x.turned(n), turned[k]);
      due(35, "eldest(" + n + ")", x.eldest(n), eldest[k]);
    }
    for (int n = -1; n <= 61; n += 62) {
      due(11, "at(" + n + ")", x.at(n), -2);
      due(12, "crowd(" + n + ")", x.crowd(n), -2);
      due(13, "votes(" + n + ", 0)", x.votes(n, 0), -2);
      due(20, "paces(" + n + ")", x.paces(n), -2);
      due(23, "boards(" + n + ")", x.boards(n), -2);
      due(24, "cause(" + n + ")", x.cause(n), -2);
      due(25, "weighs(" + n + ")", x.weighs(n), -2);
      due(26, "splits(" + n + ")", x.splits(n), -2);
      due(27, "carries(" + n + ")", x.carries(n), -2);
      due(28, "parties(" + n + ")", x.parties(n), -2);
      due(31, "turned(" + n + ")", x.turned(n), -2);
      due(35, "eldest(" + n + ")", x.eldest(n), -2);
    }
    due(13, "votes(1, 2)", x.votes(1, 2), 2);
    due(13, "votes(1, 0)", x.votes(1, 0), 1);
    due(13, "votes(1, 1)", x.votes(1, 1), 0);
    due(13, "votes(5, 0)", x.votes(5, 0), 0);
    due(13, "votes(0, 5)", x.votes(0, 5), -2);
    due(13, "votes(0, -1)", x.votes(0, -1), -2);
    due(16, "over()", x.over(), 4);
    due(17, "why()", x.why(), 0);
    due(21, "most()", x.most(), 3);
    due(22, "peak()", x.peak(), 1);
    due(32, "loop()", x.loop(), NONE);
    due(33, "farthest()", x.farthest(), 3);
    due(37, "missed()", x.missed(), 0);
  }

  private static void folk() {
    MarchFolk x = told(hills(0));
    int[] joins = {0, 0, 1, 2, NONE, -2};
    int[] leaves = {2, 3, 4, 3, NONE, -2};
    int[] walks = {5, 9, 15, 4, NONE, -2};
    int[] needed = {0, 1, 3, 1, 0, -2};
    int[] waits = {0, 0, 0, 0, 0, -2};
    int[] comes = {0, 1, 2, 3, NONE, -2};
    int[] often = {2, 1, 1, 1, 0, -2};
    int[] crew = {3, 4, 8, 0, 16, -2};
    for (int i = 0; i < 6; i++) {
      due(14, "joins(" + i + ")", x.joins(i), joins[i]);
      due(15, "leaves(" + i + ")", x.leaves(i), leaves[i]);
      due(18, "comes(" + i + ")", x.comes(i), comes[i]);
      due(19, "often(" + i + ")", x.often(i), often[i]);
      due(30, "walks(" + i + ")", x.walks(i), walks[i]);
      due(34, "crew(" + i + ")", x.crew(i), crew[i]);
      due(36, "waits(" + i + ")", x.waits(i), waits[i]);
      due(38, "needed(" + i + ")", x.needed(i), needed[i]);
    }
    due(29, "together(0, 1)", x.together(0, 1), 2);
    due(29, "together(1, 1)", x.together(1, 1), 3);
    due(29, "together(1, 3)", x.together(1, 3), 1);
    due(29, "together(3, 0)", x.together(3, 0), 0);
    due(29, "together(0, 5)", x.together(0, 5), -2);
    due(29, "together(-1, 0)", x.together(-1, 0), -2);
    due(39, "trap(2, 3)", x.trap(2, 3), NONE);
    due(39, "trap(1, 2)", x.trap(1, 2), 2);
    due(39, "trap(4, 3), over", x.trap(4, 3), 0);
    due(39, "trap(4, 0), there", x.trap(4, 0), NONE);
    due(39, "trap(60, 4)", x.trap(60, 4), 0);
    due(39, "trap(61, 4)", x.trap(61, 4), -2);
    due(39, "trap(0, 5)", x.trap(0, 5), -2);
    due(39, "trap(0, 0) without ROADS", told(BARE).trap(0, 0), NONE);
  }

  private static void endless() {
    // Without ROAD 2 the PERSONS 0 and 1 turn about between 0 and 1 for ever.
    MarchFolk x = told(hills(0));
    x.bar(2, 1);
    due(16, "over(), endless", x.over(), NONE);
    due(17, "why(), endless", x.why(), NONE);
    due(32, "loop(), endless", x.loop(), 2);
    due(15, "leaves(0), endless", x.leaves(0), NONE);
    due(30, "walks(0), to STEP 60", x.walks(0), 180);
    due(30, "walks(2)", x.walks(2), 3);
    due(20, "paces(60)", x.paces(60), 180);
    due(11, "at(60)", x.at(60), 0);
    due(27, "carries(60)", x.carries(60), 1);
    due(31, "turned(60)", x.turned(60), 2);
    x.answer(2, 1);
    due(14, "joins(2), answered", x.joins(2), NONE);
    due(36, "waits(2), answered", x.waits(2), 30);
    due(37, "missed(), answered", x.missed(), 4);
    due(32, "loop(), answered", x.loop(), 2);

    MarchFolk bare = told(BARE);
    due(16, "over(), nobody", bare.over(), 0);
    due(17, "why(), nobody", bare.why(), 0);
    due(11, "at(0), nobody", bare.at(0), 1);
    due(11, "at(1), nobody", bare.at(1), NONE);
    due(21, "most(), nobody", bare.most(), 0);
    due(22, "peak(), nobody", bare.peak(), NONE);
    due(33, "farthest(), nobody", bare.farthest(), 1);

    MarchFolk lost = told("march places 3 start 2 rule 0 odds 0; person at 2 wants 2 reason 0 needs 0 board 1;"
        + "person at 2 wants 1 reason 4 needs 2 board 1; person at 2 wants 0 reason 5 needs 1 board 99;");
    due(16, "over(), no VOTE", lost.over(), 0);
    due(17, "why(), no VOTE", lost.why(), 1);
    due(14, "joins(1), in a second round", lost.joins(1), 0);
    due(15, "leaves(0), at home", lost.leaves(0), 0);
    due(30, "walks(0), at home", lost.walks(0), 0);
    due(12, "crowd(0), no VOTE", lost.crowd(0), 6);
    due(35, "eldest(0), in rounds by numbers", lost.eldest(0), 2);
    due(12, "crowd(1), no VOTE", lost.crowd(1), 0);
    due(15, "leaves(1), no VOTE", lost.leaves(1), NONE);
    due(38, "needed(1)", lost.needed(1), 5);
    due(26, "splits(0), no VOTE", lost.splits(0), 0);
    due(31, "turned(0), no VOTE", lost.turned(0), 0);
  }

  private static void farAlike() {
    MarchFolk x = told("march places 3 start 0 rule 2 odds 0; road 0 to 2 long 5; road 0 to 1 long 5;"
        + "person at 0 wants 2 reason 0 needs 0 board 1; person at 0 wants 1 reason 0 needs 0 board 1;");
    due(11, "at(1), the first's VOTE", x.at(1), 2);
    due(11, "at(3)", x.at(3), 1);
    due(33, "farthest(), the first of two by number", x.farthest(), 1);
    // 0 and 4 are as far as one another, 4 is come to first; 2 is farther, but never come to.
    MarchFolk about = told("march places 5 start 3 rule 2 odds 0; road 3 to 4 long 7; road 3 to 0 long 7;"
        + "road 3 to 2 long 8; road 3 to 1 long 6; person at 3 wants 4 reason 0 needs 0 board 1;"
        + "person at 3 wants 0 reason 0 needs 0 board 1; person at 3 wants 1 reason 0 needs 0 board 1;");
    due(18, "comes(4)", about.comes(4), 1);
    due(18, "comes(0)", about.comes(0), 3);
    due(33, "farthest() of 4, 0 and 1", about.farthest(), 0);
    about.bar(1, 1);
    due(33, "farthest() of 4 alone", about.farthest(), 4);
    about.bar(0, 1);
    due(33, "farthest() of 1 alone", about.farthest(), 1);
    about.bar(3, 1);
    due(33, "farthest(), it goes nowhere", about.farthest(), 3);
  }

  /** Two with boards of 4 and 3 vote for 1, one with a board of more or less votes for 2. */
  private static String weighed(int rule, int board) {
    return "march places 3 start 0 rule " + rule + " odds 0; road 0 to 1 long 1; road 0 to 2 long 1;"
        + "person at 0 wants 1 reason 0 needs 0 board 4; person at 0 wants 1 reason 0 needs 0 board 3;"
        + "person at 0 wants 2 reason 0 needs 0 board " + board + ";";
  }

  private static void rulesOfTurning() {
    due(11, "at(1), RULE 0, the most VOTES", told(weighed(0, 99)).at(1), 1);
    due(11, "at(1), RULE 1, less weight", told(weighed(1, 6)).at(1), 1);
    due(11, "at(1), RULE 1, as much weight", told(weighed(1, 7)).at(1), 1);
    due(11, "at(1), RULE 1, more weight", told(weighed(1, 8)).at(1), 2);
    due(27, "carries(0), RULE 1, more weight", told(weighed(1, 8)).carries(0), 1);
    due(11, "at(1), RULE 2, who fell in first", told(weighed(2, 99)).at(1), 1);
    due(11, "at(1), RULE 3, who fell in last", told(weighed(3, 1)).at(1), 2);
  }

  /** PERSON 0 leaves at once, but PERSON 1 needs him: it is over by either one's REASON. */
  private static void cheapest() {
    String needy = "march places 2 start 0 rule 0 odds 0; road 0 to 1 long 1;"
        + "person at 0 wants 0 reason 0 needs 0 board 1; person at 0 wants 1 reason 1 needs 1 board 1;";
    MarchFolk x = told(needy + "grant 0 costs 9; grant 1 costs 2;");
    due(40, "stop(1), the cheaper one", x.stop(1), 2);
    due(41, "stops(1), the cheaper one", x.stops(1), 2);
    due(42, "soonest()", x.soonest(), 0);
    due(43, "ends(), the cheaper one", x.ends(), 2);
    MarchFolk alike = told(needy + "grant 0 costs 2; grant 1 costs 2;");
    due(41, "stops(1), the least of two", alike.stops(1), 1);
    due(43, "ends(), the least of two", alike.ends(), 1);
  }

  private static void stops() {
    MarchFolk x = told(hills(0));
    int[] stop = {NONE, 5, 5, 5, 0, -2};
    int[] stops = {NONE, 1, 1, 1, 0, -2};
    int[] shut = {NONE, 1, 1, 1, 0, -2};
    int[] shuts = {NONE, 1, 4, 4, 0, -2};
    for (int place = 0; place < 6; place++) {
      due(40, "stop(" + place + ")", x.stop(place), stop[place]);
      due(41, "stops(" + place + ")", x.stops(place), stops[place]);
      due(46, "shut(" + place + ")", x.shut(place), shut[place]);
      due(47, "shuts(" + place + ")", x.shuts(place), shuts[place]);
    }
    due(42, "soonest()", x.soonest(), 0);
    due(43, "ends()", x.ends(), 1);
    due(44, "content(1)", x.content(1), 2);
    due(44, "content(63)", x.content(63), 5);
    due(44, "content(0)", x.content(0), 0);
    due(44, "content(64)", x.content(64), -2);
    due(44, "content(-1)", x.content(-1), -2);
    int[][] buys = {{0, 2}, {3, 2}, {4, 3}, {5, 4}, {8, 4}, {9, 5}, {600, 5}, {601, -2}, {-1, -2}};
    for (int[] pair : buys) {
      due(45, "buys(" + pair[0] + ")", x.buys(pair[0]), pair[1]);
    }
    x.answer(1, 1);
    x.bar(2, 1);
    due(40, "stop(2), ROAD 2 shut", x.stop(2), 0);
    due(46, "shut(2), REASON 1 answered", x.shut(2), 2);
    due(47, "shuts(2), REASON 1 answered", x.shuts(2), 5);
    due(43, "ends(), in place of those answered", x.ends(), 1);
    due(43, "ends() of a bare march", told(BARE).ends(), 0);
    due(46, "shut(0) without ROADS", told(BARE).shut(0), 0);
  }

  private static void seen() {
    MarchFolk x = told(hills(0));
    due(49, "starts(0), nothing", x.starts(0), -6);
    due(50, "ask(0), nothing", x.ask(0), -6);
    due(51, "rules(0), nothing", x.rules(0), -6);
    due(49, "starts(4)", x.starts(4), -2);
    due(50, "ask(-1)", x.ask(-1), -2);
    due(51, "rules(4)", x.rules(4), -2);
    due(49, "starts without a march", new MarchFolk().starts(0), -2);
    due(50, "ask without a march", new MarchFolk().ask(0), -2);
    due(51, "rules without a march", new MarchFolk().rules(0), -2);
    put(x, 0, 3);
    due(49, "starts of no numbers", x.starts(0), 31);
    due(50, "ask of no numbers", x.ask(0), 0);
    due(51, "rules of no numbers", x.rules(0), 15);
    put(x, 0, 0, 1, -1);
    due(49, "starts of 1 NONE", x.starts(0), 30);
    due(50, "ask of 1 NONE", x.ask(0), 4);
    put(x, 1, 1, 1, 0);
    due(49, "starts of 1 0", x.starts(1), 1);
    due(50, "ask of 1 0", x.ask(1), NONE);
    put(x, 1, 2, 1, 0, 1, 1);
    due(49, "starts of 1 0 1 1", x.starts(1), 0);
    due(50, "ask of 1 0 1 1", x.ask(1), NONE);
    put(x, 2, 3, 2, 2);
    due(51, "rules of 2 2", x.rules(2), 7);
    put(x, 2, 0, 2, 0);
    due(51, "rules of 2 0", x.rules(2), 8);
    put(x, 2, 0, 4, 0, 5, -1);
    due(51, "rules of 4 0 5 NONE", x.rules(2), 7);
    put(x, 3, 3, 1, 0, 1);
    due(49, "starts, not two each", x.starts(3), -2);
    due(50, "ask, not two each", x.ask(3), -2);
    due(51, "rules, not two each", x.rules(3), -2);
    put(x, 3, 3, 0, 60, 4, -1);
    due(49, "starts of 0 60 4 NONE", x.starts(3), 0);
    put(x, 3, 3, 60, -1);
    due(51, "rules of 60 NONE", x.rules(3), 15);
    put(x, 3, 3, 60, 4);
    due(51, "rules of 60 4", x.rules(3), 0);
    long[][] noFalls = {{5, 0}, {-1, 0}, {0, 61}, {0, -2}, {1L << 32, 0}, {0, 1L << 32}};
    for (long[] pair : noFalls) {
      put(x, 3, 3, 0, 0, pair[0], pair[1]);
      due(49, "starts of " + pair[0] + " " + pair[1], x.starts(3), -2);
      due(50, "ask of " + pair[0] + " " + pair[1], x.ask(3), -2);
    }
    long[][] noPlaces = {{61, 0}, {-1, 0}, {0, 5}, {0, -2}, {1L << 32, 0}, {0, 1L << 32}};
    for (long[] pair : noPlaces) {
      put(x, 3, 3, 0, 0, pair[0], pair[1]);
      due(51, "rules of " + pair[0] + " " + pair[1], x.rules(3), -2);
    }
  }

  private static void shams() {
    // By rule 3 the last one's VOTE leads: PERSON 1 would have the direct ROAD to 3.
    MarchFolk x = told(hills(3));
    due(52, "shams(1, 0)", x.shams(1, 0), 8);
    due(52, "shams(0, 0)", x.shams(0, 0), 0);
    due(52, "shams(3, 0), not in it", x.shams(3, 0), 0);
    due(52, "shams(5, 0)", x.shams(5, 0), -2);
    due(52, "shams(0, 61)", x.shams(0, 61), -2);
    due(53, "shammers(0)", x.shammers(0), 2);
    due(53, "shammers(60)", x.shammers(60), 0);
    due(53, "shammers(61)", x.shammers(61), -2);
    x.bar(3, 1);
    due(52, "shams(1, 0), the ROAD shut", x.shams(1, 0), 0);
    due(53, "shammers(0) by rule 0", told(hills(0)).shammers(0), 0);
    // PERSON 1 falls in just behind a STEP at the PLACE he wants: what counts is when it comes there again.
    MarchFolk again = told("march places 3 start 2 rule 0 odds 0; road 0 to 2 long 2; road 0 to 1 long 1; road 1 to 2 long 1;"
        + "person at 2 wants 0 reason 0 needs 0 board 1; person at 0 wants 2 reason 0 needs 0 board 1;");
    due(11, "at(3), by the way around", again.at(3), 2);
    due(52, "shams(1, 1), the direct ROAD", again.shams(1, 1), 4);
  }

  private static void fraction(MarchFolk x, int place, int n, long above, long below) {
    due(54, "chance(" + place + ", " + n + ", 0)", x.chance(place, n, 0), above);
    due(54, "chance(" + place + ", " + n + ", 1)", x.chance(place, n, 1), below);
  }

  private static void rain() {
    MarchFolk x = told(hills(0));
    fraction(x, 0, 0, 1, 1);
    fraction(x, 1, 0, 0, 1);
    fraction(x, 1, 1, 1, 2);
    fraction(x, 2, 2, 1, 2);
    fraction(x, 3, 3, 3, 8);
    fraction(x, 4, 8, 0, 1);
    due(54, "chance(5, 0, 0)", x.chance(5, 0, 0), -2);
    due(54, "chance(0, 9, 0)", x.chance(0, 9, 0), -2);
    due(54, "chance(0, 0, 2)", x.chance(0, 0, 2), -2);
    long[][] mean = {{1, 1}, {5, 4}, {1, 1}};
    for (int n = 0; n < 3; n++) {
      due(55, "mean(" + n + ", 0)", x.mean(n, 0), mean[n][0]);
      due(55, "mean(" + n + ", 1)", x.mean(n, 1), mean[n][1]);
    }
    due(55, "mean(9, 0)", x.mean(9, 0), -2);
    due(55, "mean(-1, 0)", x.mean(-1, 0), -2);
    due(55, "mean(0, 2)", x.mean(0, 2), -2);
    due(55, "mean(8, 0), nobody", told(BARE).mean(8, 0), 0);
    due(55, "mean(8, 1), nobody", told(BARE).mean(8, 1), 1);
    // Seed 5 draws 5 7 6 7: by odds 5 it is dry. Seed 1008 draws 6 0 9 9: rain at STEP 1, so PERSON 2 misses it.
    due(63, "drawn(5, 0)", x.drawn(5, 0), 4);
    due(63, "drawn(5, 1)", x.drawn(5, 1), 15);
    due(63, "drawn(1008, 0)", x.drawn(1008, 0), 3);
    due(63, "drawn(1008, 1)", x.drawn(1008, 1), 11);
    due(63, "drawn(1008, 2)", x.drawn(1008, 2), 15);
    due(63, "drawn(5, 3)", x.drawn(5, 3), -2);
    due(63, "drawn(-1, 0)", x.drawn(-1, 0), -2);
    due(63, "drawn(2000000001, 0)", x.drawn(2000000001, 0), -2);
    due(63, "drawn, rain for ever", told(BARE).drawn(2000000000, 0), 0);
    // The first draws from 1002, 1003, 1004 are 1, 1, 9: it sets out from the last alone.
    due(64, "luck(5, 1, 1)", x.luck(5, 1, 1), 1);
    due(64, "luck(1002, 2, 1)", x.luck(1002, 2, 1), 0);
    due(64, "luck(1002, 3, 1)", x.luck(1002, 3, 1), 1);
    due(64, "luck(1002, 3, 0)", x.luck(1002, 3, 0), 3);
    due(64, "luck(2000000000, 1, 0)", x.luck(2000000000, 1, 0), 1);
    due(63, "drawn(0, 2)", told(BARE).drawn(0, 2), 2);
    due(64, "luck(0, 20, 1)", told(BARE).luck(0, 20, 1), 20);
    due(64, "luck(0, 0, 0)", x.luck(0, 0, 0), -2);
    due(64, "luck(0, 21, 0)", x.luck(0, 21, 0), -2);
    due(64, "luck(2000000001, 1, 0)", x.luck(2000000001, 1, 0), -2);
    due(64, "luck(0, 1, 5)", x.luck(0, 1, 5), -2);
  }

  private static void acts() {
    MarchFolk x = told(hills(0));
    due(61, "undo() of none", x.undo(), -5);
    due(62, "anew() of none", x.anew(), 0);
    due(56, "answer(0, 1)", x.answer(0, 1), 0);
    due(56, "answer(0, 1)", x.answer(0, 1), 1);
    due(60, "costs(), the later grant", x.costs(), 5);
    due(58, "answered()", x.answered(), 1);
    due(16, "over(), answered", x.over(), 0);
    due(56, "answer(0, 0)", x.answer(0, 0), 1);
    due(58, "answered()", x.answered(), 0);
    due(61, "undo()", x.undo(), 2);
    due(58, "answered(), taken back", x.answered(), 1);
    due(57, "bar(2, 1)", x.bar(2, 1), 0);
    due(57, "bar(2, 1)", x.bar(2, 1), 1);
    due(59, "barred()", x.barred(), 4);
    due(61, "undo()", x.undo(), 3);
    due(59, "barred()", x.barred(), 4);
    due(11, "at(3), barred", x.at(3), NONE);
    x.answer(0, 0);
    due(11, "at(3), barred, nothing answered", x.at(3), 1);
    x.undo();
    due(11, "at(3), taken back", x.at(3), NONE);
    due(57, "bar(2, 0)", x.bar(2, 0), 1);
    due(59, "barred()", x.barred(), 0);
    due(65, "need(1, 2), acts", x.need(1, 2), -5);
    due(65, "need(1, 10), acts", x.need(1, 10), -2);
    due(66, "count(6)", x.count(6), 4);
    due(16, "over() ahead of anew()", x.over(), 0);
    due(62, "anew()", x.anew(), 4);
    due(66, "count(6)", x.count(6), 0);
    due(16, "over(), anew", x.over(), 4);
    due(65, "need(1, 2)", x.need(1, 2), 1);
    due(65, "need(1, 0)", x.need(1, 0), 2);
    due(65, "need(1, 2)", x.need(1, 2), 0);
    due(65, "need(1, -1)", x.need(1, -1), -2);
    due(65, "need(5, 0)", x.need(5, 0), -2);
    due(7, "person(1, 3), need", x.person(1, 3), 2);
    due(14, "joins(1), need", x.joins(1), NONE);
    due(65, "need(1, 9)", x.need(1, 9), 2);
    due(56, "answer(6, 1)", x.answer(6, 1), -2);
    due(56, "answer(-1, 1)", x.answer(-1, 1), -2);
    due(57, "bar(5, 1)", x.bar(5, 1), -2);
    for (int on : new int[] {2, -1, 256, Integer.MIN_VALUE, Integer.MAX_VALUE}) {
      due(56, "answer(0, " + on + ")", x.answer(0, on), -2);
      due(57, "bar(0, " + on + ")", x.bar(0, on), -2);
      due(66, "count(6), no act more", x.count(6), 0);
      due(58, "answered(), nothing is done", x.answered(), 0);
      due(59, "barred(), nothing is done", x.barred(), 0);
    }
    for (int i = 0; i < 40; i++) {
      due(56, "answer " + i, x.answer(5, 1), i == 0 ? 0 : 1);
    }
    due(56, "a 41st act", x.answer(5, 0), -5);
    due(57, "a 41st act", x.bar(0, 1), -5);
    due(56, "a 41st act of no REASON", x.answer(6, 0), -2);
    due(57, "a 41st act of no ROAD", x.bar(5, 1), -2);
    due(56, "a 41st act, neither on nor off", x.answer(5, 2), -2);
    due(57, "a 41st act, neither on nor off", x.bar(0, 2), -2);
    due(61, "undo() of 40", x.undo(), 39);
    due(57, "a 40th act", x.bar(0, 1), 0);
    due(61, "undo()", x.undo(), 39);
    MarchFolk none = new MarchFolk();
    due(56, "answer without a march", none.answer(0, 1), -2);
    due(58, "answered() without a march", none.answered(), -2);
    due(59, "barred() without a march", none.barred(), -2);
    due(60, "costs() without a march", none.costs(), -2);
    due(61, "undo() without a march", none.undo(), -2);
    due(62, "anew() without a march", none.anew(), -2);
  }

  private static void images() {
    MarchFolk x = told(hills(0));
    due(67, "image(3)", x.image(3), -2);
    due(67, "image(-1)", x.image(-1), -2);
    due(68, "back(3)", x.back(3), -2);
    due(68, "back(0), nothing", x.back(0), -6);
    x.need(4, 7);
    x.bar(2, 1);
    x.answer(1, 1);
    due(67, "image(0)", x.image(0), 0);
    due(61, "undo()", x.undo(), 1);
    feed(x, BARE);
    x.march();
    due(67, "image(2)", x.image(2), 0);
    due(68, "back(0)", x.back(0), 0);
    due(66, "count(0), back", x.count(0), 5);
    due(59, "barred(), back", x.barred(), 4);
    due(58, "answered(), back", x.answered(), 2);
    due(60, "costs(), back", x.costs(), 4);
    due(7, "person(4, 3), back", x.person(4, 3), 7);
    due(61, "undo(), back", x.undo(), 1);
    due(58, "answered(), taken back", x.answered(), 0);
    due(11, "at(2), back", x.at(2), 0);
    due(68, "back(0) again", x.back(0), 0);
    due(58, "answered(), back again", x.answered(), 2);
    due(68, "back(2)", x.back(2), 0);
    due(66, "count(0), back", x.count(0), 2);
    due(16, "over(), back", x.over(), 0);
    due(68, "back(1), nothing", x.back(1), -6);
    due(67, "image(1) without a march", new MarchFolk().image(1), 0);
  }

  private static void counts() {
    MarchFolk x = told(hills(3));
    x.bar(0, 0);
    x.row(3, 0, 0);
    x.row(1, 0, 5);
    x.row(1, 3, 5);
    x.feed(0, 0, 0, 0, 0);
    int[] counts = {5, 0, 3, 5, 5, 5, 1, 14, 20, 2, NONE, NONE};
    for (int what = 0; what < counts.length; what++) {
      due(66, "count(" + what + ")", x.count(what), counts[what]);
    }
    due(66, "count(-1)", x.count(-1), NONE);
    due(66, "count(1) of a start", told(BARE).count(1), 1);
  }

  private static void rows() {
    MarchFolk x = told("march places 7 start 0 rule 0 odds 0; person at 0 wants 1 reason 0 needs 0 board 1;");
    due(69, "row(4, 0, 1)", x.row(4, 0, 1), -2);
    due(69, "row(0, 4, 1)", x.row(0, 4, 1), -2);
    due(69, "row(0, -1, 1)", x.row(0, -1, 1), -2);
    due(69, "row(0, 0, 61)", x.row(0, 0, 61), -2);
    due(69, "row(0, 4, -1)", x.row(0, 4, -1), -2);
    due(69, "row(3, 3, 60)", x.row(3, 3, 60), 0);
    due(70, "write(3, 59, 1)", x.write(3, 59, 1), 0);
    due(70, "write(3, 60, 1)", x.write(3, 60, 1), -7);
    due(71, "paste of 60", x.paste(3, 0, 3, 0, 60), 0);
    due(69, "row(0, 0, -1)", x.row(0, 0, -1), -3);
    due(70, "write(0, 0, 0), nothing", x.write(0, 0, 0), -6);
    due(70, "write(0, -1, 0), nothing", x.write(0, -1, 0), -6);
    due(70, "write(4, 0, 0)", x.write(4, 0, 0), -2);
    due(69, "row(0, 0, 2)", x.row(0, 0, 2), 0);
    due(70, "write(0, 2, 0)", x.write(0, 2, 0), -7);
    due(70, "write(0, -1, 0)", x.write(0, -1, 0), -7);
    due(69, "row of zeros: at 0 at STEP 0", x.rules(0), 15);
    due(69, "row of zeros: 0 falls in at 0", x.starts(0), 1);
    due(69, "row(0, 0, -1), the SLOT stays", x.row(0, 0, -1), -3);
    due(69, "the SLOT stays", x.rules(0), 15);
    for (int width = 0; width < 4; width++) {
      int bits = 8 << width;
      x.row(1, width, 2);
      due(70, "write, cut", x.write(1, 0, width == 3 ? 1 : (1L << bits) + 1), 0);
      due(70, "write, cut", x.write(1, 1, width == 3 ? -1 : (1L << bits) - 1), 0);
      due(70, "numbers cut to WIDTH " + width, x.rules(1), 15);
      x.write(1, 1, 1L << (bits - 2));
      due(70, "numbers of WIDTH " + width, x.rules(1), -2);
    }
    pastes();
  }

  private static void pastes() {
    MarchFolk x = told("march places 7 start 0 rule 0 odds 0;");
    due(71, "paste(0, 0, 4, 0, 0)", x.paste(0, 0, 4, 0, 0), -2);
    due(71, "paste(-1, 0, 0, 0, 0)", x.paste(-1, 0, 0, 0, 0), -2);
    put(x, 0, 1, 0, 0, 9, 9, 9, 9);
    due(71, "paste to nothing", x.paste(0, 0, 1, 0, 1), -6);
    due(71, "paste from nothing", x.paste(1, 0, 0, 0, 1), -6);
    put(x, 1, 2, 0);
    due(71, "paste of unlike WIDTHS", x.paste(0, -1, 1, 0, 1), -8);
    put(x, 2, 1, 1, NONE, 2, NONE);
    due(71, "paste beyond its row", x.paste(2, 3, 0, 0, 2), -7);
    due(71, "paste beyond the other's row", x.paste(2, 0, 0, 5, 2), -7);
    due(71, "paste of 0, a place above", x.paste(2, 5, 0, 0, 0), -7);
    due(71, "paste of 0, a place above", x.paste(2, 0, 0, 7, 0), -7);
    due(71, "paste of 0, behind the last", x.paste(2, 4, 0, 6, 0), 0);
    due(71, "paste of -1", x.paste(2, 1, 0, 1, -1), -7);
    due(71, "paste from -1", x.paste(2, -1, 0, 0, 1), -7);
    due(71, "paste to -1", x.paste(2, 0, 0, -1, 1), -7);
    due(71, "paste of many", x.paste(2, 1, 0, 1, 2147483647), -7);
    due(71, "nothing happened", x.rules(0), -2);
    due(71, "paste", x.paste(2, 0, 0, 2, 4), 0);
    due(71, "0 0 1 NONE 2 NONE", x.rules(0), 15);
    due(71, "paste onto itself", x.paste(0, 0, 0, 2, 4), 0);
    due(71, "0 0 0 0 1 NONE", x.rules(0), 15);
    x.write(0, 0, 5);
    due(71, "paste onto itself, down", x.paste(0, 2, 0, 0, 4), 0);
    due(71, "0 0 1 NONE 1 NONE", x.rules(0), 15);
  }

  public static void main(String[] args) {
    text();
    faults();
    roads();
    steps();
    folk();
    endless();
    farAlike();
    rulesOfTurning();
    cheapest();
    stops();
    seen();
    shams();
    rain();
    acts();
    images();
    counts();
    rows();
    System.out.println(checked + " answers, " + wrong + " not as due");
    if (wrong != 0) {
      System.exit(1);
    }
  }
}
