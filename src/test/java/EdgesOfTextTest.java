/** The edges that the document names: Terms I, TOKENS and FAULTS, Promises 1 (a new object) to 10 (reach). */
public final class EdgesOfTextTest {
  private static final int NONE = Edges.NONE;
  private static final String HEAD = "march places 7 start 0 rule 0 odds 0;";
  private static final String PERSON = "person at 0 wants 0 reason 0 needs 0 board 1;";

  private static void says(String key, String words) {
    Edges.says(key, words);
  }

  private static void due(String call, long got, long want) {
    Edges.due(call, got, want);
  }

  private static void fault(String text, int kind, int place) {
    MarchFolk x = new MarchFolk();
    Edges.feed(x, text);
    due("march() of " + text, x.march(), -4);
    due("fault(0) of " + text, x.fault(0), kind);
    due("fault(1) of " + text, x.fault(1), place);
  }

  private static void reads(String text, int lines) {
    MarchFolk x = new MarchFolk();
    Edges.feed(x, text);
    due("march() of " + text, x.march(), lines);
    due("fault(0) of " + text, x.fault(0), 0);
    due("fault(1) of " + text, x.fault(1), NONE);
  }

  /** A number between two pieces of a text of so many LINES: its bounds, and what is beyond them by far. */
  private static void number(String ahead, int least, int greatest, String behind, int lines) {
    reads(ahead + least + behind, lines);
    reads(ahead + greatest + behind, lines);
    reads(ahead + "000000000000000000000" + least + behind, lines);
    if (least > 0) fault(ahead + (least - 1) + behind, 2, ahead.length());
    fault(ahead + (greatest + 1) + behind, 2, ahead.length());
    // As they would be if they wrapped around at 8, 16, 32 and 64 bits.
    fault(ahead + (256 + least) + behind, 2, ahead.length());
    fault(ahead + (65536 + least) + behind, 2, ahead.length());
    fault(ahead + (4294967296L + least) + behind, 2, ahead.length());
    fault(ahead + "1844674407370955161" + (6 + least) + behind, 2, ahead.length());
    fault(ahead + "-1" + behind, 1, ahead.length());
  }

  // ---- Terms I ----

  private static void lines() {
    says("I", "MARCH: {LINE ;}.");
    reads("", 0);
    reads(" \n ", 0);
    reads(HEAD, 1);
    reads(HEAD + PERSON, 2);
    fault(";", 1, 0);
    fault(HEAD + ";", 1, HEAD.length());
    fault(HEAD.substring(0, 36), 1, 36);
    fault(HEAD.substring(0, 36) + PERSON, 1, 36);

    says("I", "LINE: march places N start N rule N odds N | road P to P long N"
        + " | person at P wants P reason N needs N board N | grant N costs N");
    words("", HEAD);
    words(HEAD, "road 0 to 1 long 1;");
    words(HEAD, PERSON);
    words(HEAD, "grant 0 costs 1;");
    fault(HEAD + "grand 0 costs 1;", 1, 37);

    bareMarch();

    says("I", "march is the first LINE and no other");
    fault("road 0 to 1 long 1;", 1, 0);
    fault(PERSON + HEAD, 1, 0);
    fault(" grant 0 costs 1;", 1, 1);
    fault(HEAD + HEAD, 1, 37);
    fault(HEAD + PERSON + "\nmarch", 1, 37 + PERSON.length() + 1);
  }

  /** Each TOKEN of a LINE left out, cut short, made longer, or twice: at its place it is another one than is due. */
  private static void words(String ahead, String line) {
    String[] tokens = line.replace(";", " ;").split(" ");
    StringBuilder begun = new StringBuilder(ahead);
    for (int i = 0; i < tokens.length; i++) {
      String rest = " ";
      for (int j = i + 1; j < tokens.length; j++) rest += tokens[j] + " ";
      int place = begun.length();
      boolean last = i == tokens.length - 1;
      boolean isWord = Character.isLetter(tokens[i].charAt(0));
      fault(begun + (isWord ? "7" : "march") + rest, 1, place);
      if (!last) fault(begun + rest.trim(), 1, place);
      if (isWord) fault(begun + tokens[i].substring(1) + rest, 1, place);
      if (isWord) fault(begun + tokens[i] + "s" + rest, 1, place);
      if (!last) fault(begun + tokens[i] + " " + tokens[i] + rest, 1, place + tokens[i].length() + 1);
      begun.append(tokens[i]).append(' ');
    }
    reads(begun.toString(), ahead.isEmpty() ? 1 : 2);
  }

  private static void numbers() {
    says("I", "places 2 .. 7");
    number("march places ", 2, 7, " start 0 rule 0 odds 0;", 1);
    fault("march places 0 start 0 rule 0 odds 0;", 2, 13);
    says("I", "its start a PLACE");
    number("march places 2 start ", 0, 1, " rule 0 odds 0;", 1);
    number("march places 7 start ", 0, 6, " rule 0 odds 0;", 1);
    says("I", "rule 0 .. 3");
    number("march places 2 start 0 rule ", 0, 3, " odds 0;", 1);
    says("I", "odds 0 .. 10");
    number("march places 2 start 0 rule 0 odds ", 0, 10, ";", 1);
    says("I", "P a PLACE");
    number(HEAD + "road ", 0, 6, " to 3 long 1;", 2);
    number(HEAD + "road 3 to ", 0, 6, " long 1;", 2);
    says("I", "road: two unlike PLACES");
    fault(HEAD + "road 0 to 0 long 1;", 2, 47);
    fault(HEAD + "road 6 to 6 long 1;", 2, 47);
    says("I", "long 1 .. 99");
    number(HEAD + "road 0 to 1 long ", 1, 99, ";", 2);
    says("I", "goes both ways");
    MarchFolk x = Edges.told(HEAD + "road 6 to 0 long 99;");
    due("way(6, 0)", x.way(6, 0), 99);
    due("way(0, 6)", x.way(0, 6), 99);
    says("I", "person: home, wants (PLACES)");
    number(HEAD + "person at ", 0, 6, " wants 0 reason 0 needs 0 board 1;", 2);
    number(HEAD + "person at 0 wants ", 0, 6, " reason 0 needs 0 board 1;", 2);
    says("I", "reason 0 .. 5");
    number(HEAD + "person at 0 wants 0 reason ", 0, 5, " needs 0 board 1;", 2);
    says("I", "needs 0 .. 9");
    number(HEAD + "person at 0 wants 0 reason 0 needs ", 0, 9, " board 1;", 2);
    says("I", "board 1 .. 99");
    number(HEAD + "person at 0 wants 0 reason 0 needs 0 board ", 1, 99, ";", 2);
    says("I", "grant: what a REASON 0 .. 5 costs, 0 .. 99 (a later one strikes; 0 without)");
    number(HEAD + "grant ", 0, 5, " costs 0;", 2);
    number(HEAD + "grant 0 costs ", 0, 99, ";", 2);
    grants();
    says("I", "PLACES 0 .. places less 1");
    MarchFolk two = Edges.told("march places 2 start 0 rule 0 odds 0;");
    MarchFolk seven = Edges.told(HEAD);
    Edges.bounds("crew, two PLACES,", two::crew, 0, 0, 1, 0, -2);
    Edges.bounds("crew, seven PLACES,", seven::crew, 0, 0, 6, 0, -2);
    says("I", "ROADS 0 .. 9, PERSONS 0 .. 7 are numbered as they stand.");
    MarchFolk mixed = Edges.told(HEAD + "road 0 to 1 long 5;" + Edges.person(0, 0, 0, 0, 6) + "grant 0 costs 1;"
        + "road 1 to 2 long 7;" + Edges.person(1, 1, 0, 0, 8));
    due("road(0, 2)", mixed.road(0, 2), 5);
    due("road(1, 2)", mixed.road(1, 2), 7);
    due("person(0, 4)", mixed.person(0, 4), 6);
    due("person(1, 4)", mixed.person(1, 4), 8);
  }

  private static void grants() {
    MarchFolk x = Edges.told(HEAD + "grant 5 costs 99; grant 0 costs 0; grant 2 costs 4; grant 2 costs 3;"
        + "grant 3 costs 1; grant 3 costs 8;");
    int[] costs = {0, 0, 3, 8, 0, 99};
    for (int reason = 0; reason < 6; reason++) {
      x.answer(reason, 1);
      due("costs() of REASON " + reason, x.costs(), costs[reason]);
      x.answer(reason, 0);
    }
  }

  // ---- TOKENS ----

  private static void tokens() {
    says("TOKENS", "TOKENS, blanks (32, 10) aside, the longest: words (a .. z), numbers (digits), the sign ; .");
    reads("march\nplaces 7\n \nstart 0rule0 odds0;\n", 1);
    reads("\n march places 7 start 0 rule 0 odds 0\n;", 1);
    for (int sign = 0; sign < 256; sign++) {
      char c = (char) sign;
      boolean blank = sign == 32 || sign == 10;
      boolean letter = c >= 'a' && c <= 'z';
      boolean digit = c >= '0' && c <= '9';
      String inWord = "march" + c + " places 7 start 0 rule 0 odds 0;";
      String inNumber = "march places 7" + c + " start 0 rule 0 odds 0;";
      String last = HEAD + c;
      if (blank) {
        reads(inWord, 1);
        reads(inNumber, 1);
        reads(last, 1);
      } else {
        fault(inWord, 1, letter ? 0 : 5);
        fault(inNumber, digit ? 2 : 1, digit ? 13 : 14);
        fault(last, 1, 37);
        fault(HEAD + PERSON + c + PERSON, 1, 37 + PERSON.length());
      }
    }
  }

  // ---- FAULTS ----

  private static void faults() {
    says("FAULTS", "the first by its place (a TOKEN's first byte; the end's), of one place the least");
    fault("march places 8 start 8 rule x", 2, 13);
    fault("march places 7 start x rule 9", 1, 21);
    fault(HEAD + "road 7 to 7 long 100 ?", 2, 42);
    fault(HEAD + "road 1 to 1 long 0;", 2, 47);
    fault(HEAD + "road 1 to 2 long 100", 2, 54);
    fault(HEAD + "road 1 to 2 long 99", 1, 56);
    fault(HEAD + "   person \n\n  placed", 1, 51);
    String whole = HEAD + PERSON;
    for (int end = 1; end < whole.length(); end++) {
      if (whole.charAt(end) == ' ') {
        fault(whole.substring(0, end), 1, end);
        fault(whole.substring(0, end + 1), 1, end + 1);
      }
    }
    fault(whole.substring(0, whole.length() - 1), 1, whole.length() - 1);
    fault(whole + "gra", 1, whole.length());

    says("FAULTS", "1 a TOKEN that is none, or can't stand there (march behind the first LINE, another word ahead of it)");
    fault("?", 1, 0);
    fault("March places 7", 1, 0);
    fault("7", 1, 0);
    fault("places 7", 1, 0);
    fault("person at 0", 1, 0);
    fault(HEAD + "march", 1, 37);
    fault(HEAD + "rule 0;", 1, 37);
    fault(HEAD + "0;", 1, 37);
    fault("march places 7 start 0 rule 0 odds 10.5;", 1, 37);
    fault("march places +7", 1, 13);

    says("FAULTS", "2 a number out of its bounds, not as said");
    fault("march places 1 start", 2, 13);
    fault("march places 3 start 3 rule", 2, 21);
    fault(HEAD + "grant 6 costs", 2, 43);
    fault(HEAD + "road 3 to 3 long", 2, 47);

    says("FAULTS", "3 an 11th road, 9th person, at its word.");
    String ten = HEAD + Edges.times(10, "road 0 to 1 long 1;");
    String eight = HEAD + Edges.times(8, PERSON);
    reads(ten, 11);
    reads(eight, 9);
    reads(ten + Edges.times(8, PERSON), 19);
    reads(ten + PERSON + "grant 0 costs 0;", 13);
    reads(eight + "road 0 to 1 long 1;", 10);
    fault(ten + "road 0 to 1 long 1;", 3, ten.length());
    fault(ten + PERSON + " road 9 to", 3, ten.length() + PERSON.length() + 1);
    fault(ten + "road", 3, ten.length());
    fault(ten + "roads", 1, ten.length());
    fault(eight + PERSON, 3, eight.length());
    fault(eight + "grant 0 costs 0;\nperson ?", 3, eight.length() + 17);
    fault(ten + Edges.times(8, PERSON) + "person", 3, ten.length() + 8 * PERSON.length());
  }

  // ---- Promises 1 to 5 ----

  private static void newObject() {
    says("1", "No MARCH.");
    MarchFolk x = new MarchFolk();
    due("bytes of the TAPE", x.count(8), 0);
    due("SLOTS that have a row", x.count(9), 0);
    due("end(1)", x.end(1), NONE);
    due("fault(0)", x.fault(0), 0);
    for (int k = 0; k < 3; k++) due("back(" + k + ")", x.back(k), -6);
    for (int slot = 0; slot < 4; slot++) due("write(" + slot + ", 0, 0)", x.write(slot, 0, 0), -6);
    noMarch("a new object", x);
  }

  /** All calls that ask of a MARCH, without one, with numbers that would be right for any. */
  private static void noMarch(String of, MarchFolk x) {
    for (int what : new int[] {0, 4, 5, 6, 7}) due(of + ", count(" + what + ")", x.count(what), 0);
    x.row(0, 0, 0);
    long[] answers = {
      x.road(0, 0), x.person(0, 0), x.way(0, 0), x.next(0, 0), x.reach(0), x.at(0), x.crowd(0), x.votes(0, 0),
      x.joins(0), x.leaves(0), x.over(), x.why(), x.comes(0), x.often(0), x.paces(0), x.most(), x.peak(),
      x.boards(0), x.cause(0), x.weighs(0), x.splits(0), x.carries(0), x.parties(0), x.together(0, 0), x.walks(0),
      x.turned(0), x.loop(), x.farthest(), x.crew(0), x.eldest(0), x.waits(0), x.missed(), x.needed(0),
      x.trap(0, 0), x.stop(0), x.stops(0), x.soonest(), x.ends(), x.content(0), x.buys(0), x.shut(0), x.shuts(0),
      x.cut(0, 0), x.starts(0), x.ask(0), x.rules(0), x.shams(0, 0), x.shammers(0), x.chance(0, 0, 0), x.mean(0, 0),
      x.answer(0, 1), x.bar(0, 1), x.answered(), x.barred(), x.costs(), x.undo(), x.anew(), x.drawn(0, 0),
      x.luck(0, 1, 0), x.need(0, 0)};
    for (int i = 0; i < answers.length; i++) due(of + ", call " + i + " of a MARCH", answers[i], -2);
    due(of + ", acts", x.count(6), 0);
  }

  /** All calls that ask of a MARCH, of one without LINES behind its first: nobody is in it, over at STEP 0. */
  private static void bareMarch() {
    MarchFolk x = Edges.told(Edges.BARE);
    x.row(0, 0, 0);
    long[] two = {
      x.road(0, 0), x.person(0, 0), x.joins(0), x.leaves(0), x.together(0, 0), x.walks(0), x.waits(0), x.needed(0),
      x.shams(0, 0), x.bar(0, 1), x.need(0, 0)};
    for (int i = 0; i < two.length; i++) due("call " + i + " of a ROAD or a PERSON", two[i], -2);
    long[] none = {
      x.way(0, 1), x.next(0, 1), x.next(1, 1), x.at(1), x.comes(0), x.peak(), x.cause(0), x.carries(0), x.loop(),
      x.eldest(0), x.trap(0, 0), x.trap(0, 1), x.stop(1), x.stops(1), x.shut(1), x.shuts(1), x.cut(1, 1), x.ask(0)};
    for (int i = 0; i < none.length; i++) due("call " + i + " that answers NONE", none[i], NONE);
    long[] zero = {
      x.way(1, 1), x.crowd(0), x.votes(0, 0), x.over(), x.why(), x.often(0), x.paces(60), x.most(), x.boards(0),
      x.weighs(0), x.splits(0), x.parties(0), x.turned(0), x.crew(1), x.missed(), x.stop(0), x.stops(0),
      x.soonest(), x.ends(), x.content(63), x.buys(600), x.shut(0), x.shuts(0), x.cut(0, 1), x.shammers(0),
      x.chance(0, 8, 0), x.mean(8, 0), x.answered(), x.barred(), x.costs(), x.anew(), x.drawn(0, 0), x.drawn(0, 1),
      x.luck(0, 20, 0), x.answer(5, 1)};
    for (int i = 0; i < zero.length; i++) due("call " + i + " that answers 0", zero[i], 0);
    long[] one = {
      x.at(0), x.often(1), x.farthest(), x.chance(0, 8, 1), x.chance(1, 0, 0), x.chance(1, 0, 1), x.mean(8, 1),
      x.luck(0, 1, 1), x.count(6), x.count(7)};
    for (int i = 0; i < one.length; i++) due("call " + i + " that answers 1", one[i], 1);
    due("reach(1)", x.reach(1), 2);
    due("drawn(0, 2)", x.drawn(0, 2), 2);
    due("starts of no numbers", x.starts(0), 3);
    due("rules of no numbers", x.rules(0), 15);
    due("costs() without grants", x.costs(), 0);
    due("undo()", x.undo(), 0);
  }

  private static final int BLANKS = 0x20202020;

  private static int feedBlanks(MarchFolk x) {
    return x.feed(BLANKS, BLANKS, BLANKS, BLANKS, BLANKS);
  }

  private static MarchFolk blanks(int bytes) {
    MarchFolk x = new MarchFolk();
    for (int i = 0; i < 40; i++) feedBlanks(x);
    x.end(bytes);
    return x;
  }

  private static void feeds() {
    says("2", "Twenty bytes come behind the TAPE, four of each number, the highest first: how many it has");
    MarchFolk x = new MarchFolk();
    for (int i = 1; i <= 40; i++) due("feed " + i, feedBlanks(x), 20 * i);
    MarchFolk high = new MarchFolk();
    due("feed of a text", high.feed(0x6d617263, 0x6820706c, 0x61636573, 0x20322073, 0x74617274), 20);
    due("feed behind it", high.feed(0x20302072, 0x756c6520, 0x30206f64, 0x64732030, 0x3b202020), 40);
    due("march()", high.march(), 1);
    // Twenty bytes, each other than a blank by turns: it is a TOKEN that is none, above 127 too.
    for (int i = 0; i < 20; i++) {
      for (int sign : new int[] {0, 127, 128, 255}) {
        int[] four = {BLANKS, BLANKS, BLANKS, BLANKS, BLANKS};
        int shift = 24 - 8 * (i % 4);
        four[i / 4] = four[i / 4] & ~(255 << shift) | sign << shift;
        MarchFolk y = blanks(7);
        due("feed", y.feed(four[0], four[1], four[2], four[3], four[4]), 27);
        due("march()", y.march(), -4);
        due("fault(1)", y.fault(1), 7 + i);
      }
    }

    says("2", "NONE, and none come, if it would have more than 800.");
    due("feed to 800", feedBlanks(blanks(780)), 800);
    for (int bytes : new int[] {781, 790, 799, 800}) {
      MarchFolk y = blanks(bytes);
      due("feed behind " + bytes, y.feed(0, 0, 0, 0, 0), NONE);
      due("bytes of the TAPE", y.count(8), bytes);
      due("end beyond", y.end(bytes + 1), NONE);
      due("march() of blanks alone", y.march(), 0);
      int all = bytes;
      Edges.leavesAlone("feed behind " + bytes, () -> blanks(all), z -> z.feed(-1, -1, -1, -1, -1), NONE);
    }
    due("feed behind an emptied TAPE", feedBlanks(blanks(0)), 20);
  }

  private static void ends() {
    says("3", "The TAPE has its first n bytes alone: n");
    MarchFolk x = blanks(800);
    due("end of all", x.end(800), 800);
    due("end(799)", x.end(799), 799);
    due("bytes of the TAPE", x.count(8), 799);
    due("end(1)", x.end(1), 1);
    due("end(0)", x.end(0), 0);
    due("end(0) of an empty TAPE", x.end(0), 0);
    MarchFolk cut = new MarchFolk();
    Edges.feed(cut, "march places 7??????");
    due("end(14)", cut.end(14), 14);
    Edges.feed(cut, "");
    due("bytes of the TAPE", cut.count(8), 0);
    Edges.feed(cut, HEAD + "???");
    due("end(37)", cut.end(37), 37);
    due("feed behind what is left", feedBlanks(cut), 57);
    due("march() of the first bytes and the new ones", cut.march(), 1);

    cutAnywhere();

    says("3", "NONE, and nothing happens, if it has not so many, or n is below 0.");
    Edges.bounds("end, an empty TAPE,", n -> new MarchFolk().end(n), 0, 0, 0, 0, NONE);
    Edges.bounds("end, 27 bytes,", n -> blanks(27).end(n), 0, 0, 27, 27, NONE);
    Edges.bounds("end, 800 bytes,", n -> blanks(800).end(n), 0, 0, 800, 800, NONE);
    for (int n : new int[] {17, 21, 800, -1, -1000, Integer.MIN_VALUE}) {
      Edges.leavesAlone("end(" + n + ") of 16 bytes", Edges::busy, x1 -> x1.end(n), NONE);
    }
    // What was cut away is no more there: a number of bytes between is as much too many.
    MarchFolk less = blanks(800);
    less.end(20);
    due("end(21) of what was cut away", less.end(21), NONE);
    due("end(800) of what was cut away", less.end(800), NONE);
  }

  /** What was fed behind the first n bytes, and cut away, is read no more, though it would go on well. */
  private static void cutAnywhere() {
    String text = HEAD + PERSON;
    for (int n = 0; n <= text.length(); n++) {
      MarchFolk x = new MarchFolk();
      Edges.feed(x, text);
      due("end(" + n + ")", x.end(n), n);
      boolean whole = n == 0 || n == HEAD.length() || n == text.length();
      int place = n;
      boolean inWord = !whole && Character.isLetter(text.charAt(n - 1)) && Character.isLetter(text.charAt(n));
      while (inWord && place > 0 && Character.isLetter(text.charAt(place - 1))) place--;
      due("march() of " + n + " bytes", x.march(), !whole ? -4 : n == 0 ? 0 : n == text.length() ? 2 : 1);
      due("fault(0) of " + n + " bytes", x.fault(0), whole ? 0 : 1);
      due("fault(1) of " + n + " bytes", x.fault(1), whole ? NONE : place);
    }
    MarchFolk digits = new MarchFolk();
    Edges.feed(digits, "march places 777");
    digits.end(14);
    due("march() of one digit of three", digits.march(), -4);
    due("fault(0)", digits.fault(0), 1);
    due("fault(1)", digits.fault(1), 14);
  }

  private static void marches() {
    says("4", "The TAPE (empty then) is the MARCH (in place of another), nothing done: how many LINES (0: there is none then).");
    MarchFolk x = Edges.busy();
    due("at(0) ahead of it", x.at(0), 0);
    due("way(0, 1) ahead of it", x.way(0, 1), 3);
    x.march();
    due("at(0) behind a FAULT", x.at(0), 0);
    Edges.feed(x, Edges.BARE);
    due("march()", x.march(), 1);
    due("at(0) of the new one", x.at(0), 1);
    due("way(0, 1) of the new one", x.way(0, 1), NONE);
    due("bytes of the TAPE", x.count(8), 0);
    due("end(1)", x.end(1), NONE);
    due("PLACES", x.count(0), 2);
    due("ROADS of the other", x.count(4), 0);
    due("PERSONS of the other", x.count(5), 0);
    due("road(0, 0) of the other", x.road(0, 0), -2);
    due("person(0, 0) of the other", x.person(0, 0), -2);
    due("acts", x.count(6), 0);
    due("undo()", x.undo(), -5);
    due("answered()", x.answered(), 0);
    due("barred()", x.barred(), 0);
    due("over()", x.over(), 0);
    x.answer(0, 1);
    due("grants of the other", x.costs(), 0);
    x.answer(1, 1);
    due("grants of the other", x.costs(), 0);
    due("march() of no LINES", x.march(), 0);
    noMarch("behind a march of one LINE", x);
    Edges.feed(x, Edges.full());
    x.march();
    x.bar(9, 1);
    x.at(60);
    feedBlanks(x);
    due("march() of blanks", x.march(), 0);
    noMarch("behind a full march", x);
    Edges.feed(x, Edges.BARE);
    due("march() again", x.march(), 1);
    fullTape();

    says("4", "-4: a FAULT (the TAPE is empty, all else stays).");
    for (String text : new String[] {"m", "march places 2 start 0 rule 0 odds 0", HEAD + "road 0 to 0", HEAD + "?"}) {
      MarchFolk y = Edges.busy();
      y.end(0);
      Edges.feed(y, text);
      due("march() of " + text, y.march(), -4);
      due("bytes of the TAPE", y.count(8), 0);
      due("end(1)", y.end(1), NONE);
      due("march() of no bytes", y.march(), 0);
    }
    MarchFolk without = new MarchFolk();
    Edges.feed(without, HEAD + HEAD);
    due("march() of a FAULT", without.march(), -4);
    due("there is none as before", without.over(), -2);
    due("PLACES", without.count(0), 0);
    stays(HEAD + PERSON + "grant 0 costs 99; grant 1 costs 99; road 0 to 1 long 99; march");
    stays(HEAD + Edges.times(11, "road 0 to 1 long 1;"));
    stays("march places 8");
  }

  /** The FAULT itself is other, and the TAPE is empty; all else looks as if the text had never been fed. */
  private static void stays(String text) {
    MarchFolk x = Edges.busy();
    x.end(0);
    Edges.feed(x, text);
    due("march() of " + text, x.march(), -4);
    MarchFolk y = Edges.busy();
    y.end(0);
    Edges.feed(y, "?");
    y.march();
    String is = Edges.look(x);
    String was = Edges.look(y);
    due("all else stays", withoutFault(is).equals(withoutFault(was)) ? 1 : 0, 1);
    MarchFolk z = Edges.busy();
    z.end(0);
    due("all else stays", withoutFault(is).equals(withoutFault(Edges.look(z))) ? 1 : 0, 1);
  }

  private static String withoutFault(String look) {
    return look.replaceAll("fault -?\\d+ -?\\d+", "");
  }

  private static void fullTape() {
    String grants = "march places2start0rule0odds0;";
    int lines = 1;
    while (grants.length() + 13 <= 800) {
      grants += "grant5costs" + lines % 10 + ";";
      lines++;
    }
    while (grants.length() < 800) grants = grants.replaceFirst("march ", "march  ");
    reads(grants, lines);
    MarchFolk x = Edges.told(grants);
    due("LINES of a full TAPE", x.count(7), lines);
    x.answer(5, 1);
    due("costs(), the last grant of a full TAPE", x.costs(), (lines - 1) % 10);
    fault(grants.substring(0, 799), 1, 799);
    fault(grants.substring(0, 799) + " ", 1, 800);
    fault(grants.substring(0, 799) + "?", 1, 799);
    fault(Edges.times(799, " ") + "?", 1, 799);
    reads(Edges.times(800, "\n"), 0);
    reads(Edges.times(763, " ") + HEAD, 1);
  }

  private static void faultOf() {
    says("5", "Of the latest march(), what 0: its FAULT, 0 without, 1: its place (NONE without).");
    MarchFolk x = new MarchFolk();
    Edges.feed(x, HEAD + "road 1 to 1");
    x.march();
    due("fault(0)", x.fault(0), 2);
    due("fault(1)", x.fault(1), 47);
    Edges.feed(x, "?");
    due("fault(0), the TAPE is no march()", x.fault(0), 2);
    x.march();
    due("fault(0) of the latest", x.fault(0), 1);
    due("fault(1) of the latest, at 0", x.fault(1), 0);
    Edges.feed(x, HEAD);
    x.march();
    due("fault(0) without", x.fault(0), 0);
    due("fault(1) without", x.fault(1), NONE);
    Edges.feed(x, "?");
    x.march();
    x.march();
    due("fault(0) of no LINES", x.fault(0), 0);
    due("fault(1) of no LINES", x.fault(1), NONE);

    says("5", "NONE for another what, and ahead of any (what 1).");
    MarchFolk y = new MarchFolk();
    due("fault(0) ahead of any", y.fault(0), 0);
    due("fault(1) ahead of any", y.fault(1), NONE);
    Edges.bounds("fault, ahead of any,", y::fault, 0, 0, 1, NONE, NONE);
    Edges.feed(y, HEAD + "?");
    y.march();
    Edges.bounds("fault, a FAULT,", y::fault, 0, 1, 1, 37, NONE);
  }

  // ---- Promises 6 to 10 ----

  private static void roadsAndPersons() {
    MarchFolk x = Edges.told(Edges.full());
    MarchFolk bare = Edges.told(Edges.BARE);
    MarchFolk none = new MarchFolk();
    says("6", "Of a ROAD, what 0, 1: its PLACES, 2: long.");
    due("road(0, 0)", x.road(0, 0), 0);
    due("road(0, 1)", x.road(0, 1), 1);
    due("road(0, 2)", x.road(0, 2), 99);
    due("road(9, 0)", x.road(9, 0), 6);
    due("road(9, 1)", x.road(9, 1), 0);
    says("6", "-2: there are none such.");
    Edges.bounds("road(.., 2)", r -> x.road(r, 2), 0, 99, 9, 99, -2);
    Edges.bounds("road(9, ..)", what -> x.road(9, what), 0, 6, 2, 99, -2);
    due("road(0, 0) without ROADS", bare.road(0, 0), -2);
    due("road(0, 0), no MARCH", none.road(0, 0), -2);
    MarchFolk one = Edges.told(HEAD + "road 0 to 1 long 1;");
    due("road(1, 0) of one", one.road(1, 0), -2);

    says("7", "Of a PERSON, what 0: home, 1: wants, 2: reason, 3: needs, 4: board.");
    int[] last = {6, 0, 5, 0, 99};
    for (int what = 0; what < 5; what++) due("person(7, " + what + ")", x.person(7, what), last[what]);
    says("7", "-2: there are none such.");
    Edges.bounds("person(.., 4)", p -> x.person(p, 4), 0, 1, 7, 99, -2);
    Edges.bounds("person(7, ..)", what -> x.person(7, what), 0, 6, 4, 99, -2);
    due("person(0, 0) without PERSONS", bare.person(0, 0), -2);
    due("person(0, 0), no MARCH", none.person(0, 0), -2);
    due("person(1, 0) of one", Edges.told(HEAD + PERSON).person(1, 0), -2);
  }

  private static void ways() {
    MarchFolk x = Edges.told(Edges.full());
    MarchFolk bare = Edges.told(Edges.BARE);
    MarchFolk none = new MarchFolk();
    says("8", "How long the shortest way from a PLACE to another one (or itself, 0) is, over ROADS that are not shut.");
    due("way(6, 0)", x.way(6, 0), 7);
    due("way(6, 6)", x.way(6, 6), 0);
    due("way(1, 1) without ROADS", bare.way(1, 1), 0);
    x.bar(4, 1);
    due("way(6, 0), a ROAD shut", x.way(6, 0), 99);
    x.undo();
    // The longest there is: six ROADS of 99 behind one another.
    String row = HEAD;
    for (int i = 0; i < 6; i++) row += "road " + i + " to " + (i + 1) + " long 99;";
    due("way(0, 6) of six ROADS", Edges.told(row).way(0, 6), 594);
    says("8", "NONE: there is no way");
    due("way(0, 1) without ROADS", bare.way(0, 1), NONE);
    x.bar(5, 1);
    x.bar(9, 1);
    due("way(6, 0), both ROADS of 6 shut", x.way(6, 0), NONE);
    due("way(6, 6), both ROADS of 6 shut", x.way(6, 6), 0);
    x.anew();
    says("8", "-2: there are none such.");
    Edges.bounds("way(.., 0)", p -> x.way(p, 0), 0, 0, 6, 7, -2);
    Edges.bounds("way(0, ..)", p -> x.way(0, p), 0, 0, 6, 7, -2);
    Edges.bounds("way(p, p)", p -> x.way(p, p), 0, 0, 6, 0, -2);
    due("way(0, 0), no MARCH", none.way(0, 0), -2);

    says("9", "The PLACE beside a PLACE that comes next on a shortest way to another one, the least of several.");
    due("next(6, 0)", x.next(6, 0), 5);
    MarchFolk alike = Edges.told(HEAD + "road 5 to 6 long 2; road 0 to 6 long 4; road 0 to 5 long 2; road 4 to 0 long 1;"
        + "road 4 to 6 long 3;");
    due("next(0, 6) of three", alike.next(0, 6), 4);
    due("next(6, 0) of three", alike.next(6, 0), 0);
    says("9", "NONE: there is no way, it is there");
    due("next(0, 1) without ROADS", bare.next(0, 1), NONE);
    due("next(1, 1) without ROADS", bare.next(1, 1), NONE);
    due("next(6, 6)", x.next(6, 6), NONE);
    says("9", "-2 likewise.");
    Edges.bounds("next(.., 0)", p -> x.next(p, 0), 0, NONE, 6, 5, -2);
    Edges.bounds("next(0, ..)", p -> x.next(0, p), 0, NONE, 6, 4, -2);
    Edges.bounds("next(p, p)", p -> x.next(p, p), 0, NONE, 6, NONE, -2);
    due("next(0, 0), no MARCH", none.next(0, 0), -2);

    says("10", "PLACES that can be reached so from a PLACE (it, too), as bits.");
    due("reach(1) without ROADS", bare.reach(1), 2);
    due("reach(6)", x.reach(6), 127);
    x.bar(5, 1);
    x.bar(9, 1);
    due("reach(6), its ROADS shut", x.reach(6), 64);
    due("reach(0), the ROADS of 6 shut", x.reach(0), 63);
    x.anew();
    says("10", "-2: there is none such.");
    Edges.bounds("reach", x::reach, 0, 127, 6, 127, -2);
    due("reach(0), no MARCH", none.reach(0), -2);
  }

  public static void main(String[] args) {
    lines();
    numbers();
    tokens();
    faults();
    newObject();
    feeds();
    ends();
    marches();
    faultOf();
    roadsAndPersons();
    ways();
    Edges.end(Edges.promises(1, 10, "I", "TOKENS", "FAULTS"));
  }
}
