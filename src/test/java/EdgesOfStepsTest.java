/** The edges that the document names: Terms II and III, Promises 11 (at) to 37 (missed). */
public final class EdgesOfStepsTest {
  private static final int NONE = Edges.NONE;

  private static void says(String key, String words) {
    Edges.says(key, words);
  }

  private static void due(String call, long got, long want) {
    Edges.due(call, got, want);
  }

  private static MarchFolk told(String text) {
    return Edges.told(text);
  }

  private static String person(int home, int wants, int reason, int needs, int board) {
    return Edges.person(home, wants, reason, needs, board);
  }

  private static String head(int places, int start, int rule) {
    return "march places " + places + " start " + start + " rule " + rule + " odds 0;";
  }

  /** From 0 one ROAD leads to 1 and one to 2; 3 has none. */
  private static String fork(int rule) {
    return head(4, 0, rule) + "road 0 to 1 long 1; road 0 to 2 long 1;";
  }

  /** Eight fall in at once at 0; four go to 1 first, four to 2 behind them: over at STEP 3. Boards of 99. */
  private static String crowd() {
    String text = head(3, 0, 0) + "road 0 to 1 long 99; road 0 to 2 long 1;";
    for (int i = 0; i < 8; i++) text += person(0, 1 + i / 4, i % 6, 0, 99);
    return text;
  }

  private static MarchFolk full() {
    return told(Edges.full());
  }

  private static MarchFolk bare() {
    return told(Edges.BARE);
  }

  private static MarchFolk none() {
    return new MarchFolk();
  }

  private static MarchFolk endless() {
    return told(Edges.tied(0, 0, ""));
  }

  private static MarchFolk hills() {
    return told(Edges.hills(0, 5));
  }

  // ---- Terms II ----

  private static void fallingIn() {
    says("II", "first, round and round by numbers till nobody does");
    String eightRounds = head(2, 0, 0) + "road 0 to 1 long 1;";
    for (int i = 0; i < 8; i++) eightRounds += person(0, 1, 0, 7 - i, 1);
    MarchFolk rounds = told(eightRounds);
    due("crowd(0), one in each of eight rounds", rounds.crowd(0), 255);
    due("eldest(0), the one of the first round", rounds.eldest(0), 7);
    String oneRound = head(2, 0, 0) + "road 0 to 1 long 1;";
    for (int i = 0; i < 8; i++) oneRound += person(0, 1, 0, i, 1);
    due("crowd(0), eight in one round", told(oneRound).crowd(0), 255);
    // In the first round 1 and 2 fall in, 0 in the second one: he is the last.
    String second = "road 0 to 1 long 1; road 0 to 2 long 1;"
        + person(0, 1, 0, 1, 1) + person(0, 2, 0, 0, 1) + person(0, 2, 0, 1, 1);
    due("at(1), the last one's VOTE", told(head(3, 0, 3) + second).at(1), 1);
    due("at(1), the first one's VOTE", told(head(3, 0, 2) + second).at(1), 2);

    says("II", "each PERSON falls in who is at home there, was never in it");
    MarchFolk x = hills();
    due("at(4), the home of two who left", x.at(4), 0);
    due("crowd(4)", x.crowd(4), 0);
    due("joins(0)", x.joins(0), 0);
    due("leaves(0)", x.leaves(0), 2);
    // PERSON 1 falls in and leaves at 1 at STEP 1; when it is back at STEP 3 he was in it already.
    MarchFolk twice = told(head(4, 0, 2) + "road 0 to 1 long 1; road 1 to 2 long 1; road 1 to 3 long 1;"
        + person(0, 2, 0, 0, 1) + person(1, 1, 0, 0, 1) + person(2, 3, 0, 1, 1));
    due("at(3)", twice.at(3), 1);
    due("joins(1)", twice.joins(1), 1);
    due("leaves(1)", twice.leaves(1), 1);
    due("together(1, 1)", twice.together(1, 1), 0);

    says("II", "whose REASON is not answered");
    x.answer(0, 1);
    due("joins(0), answered", x.joins(0), NONE);
    due("joins(1), who needs him", x.joins(1), NONE);
    x.answer(0, 0);
    due("joins(0), no more answered", x.joins(0), 0);
    x.answer(4, 1);
    due("joins(0), another answered", x.joins(0), 0);

    says("II", "whose needs are no more than those in it");
    for (int needs = 0; needs <= 9; needs++) {
      String seven = head(2, 0, 0) + "road 0 to 1 long 1;" + Edges.times(7, person(0, 1, 0, 0, 1));
      due("joins(7), needs " + needs, told(seven + person(0, 1, 0, needs, 1)).joins(7), needs <= 7 ? 0 : NONE);
      String alone = head(2, 0, 0) + "road 0 to 1 long 1;" + person(0, 1, 0, needs, 1);
      due("joins(0) alone, needs " + needs, told(alone).joins(0), needs == 0 ? 0 : NONE);
    }
    // At 1, PERSON 0 is in it alone; at 2 both are, and he is still counted there, though he wants to be there.
    String row = head(4, 0, 0) + "road 0 to 1 long 1; road 1 to 2 long 1; road 2 to 3 long 1;" + person(0, 2, 0, 0, 1);
    due("joins(1), needs 2 of 1", told(row + person(1, 3, 0, 2, 1)).joins(1), NONE);
    due("joins(1), needs 1 of 1", told(row + person(1, 3, 0, 1, 1)).joins(1), 1);
    due("joins(1), needs 1 who leaves", told(row + person(2, 3, 0, 1, 1)).joins(1), 2);
    due("joins(1), needs 2 of 1 who leaves", told(row + person(2, 3, 0, 2, 1)).joins(1), NONE);
  }

  private static void leaving() {
    says("II", "Then all leave who want to be there.");
    MarchFolk x = hills();
    due("crowd(3), two left at once", x.crowd(3), 4);
    due("leaves(1)", x.leaves(1), 3);
    due("leaves(3)", x.leaves(3), 3);
    MarchFolk atHome = told(head(2, 0, 0) + "road 0 to 1 long 1;" + person(0, 0, 0, 0, 1) + person(0, 1, 0, 1, 1));
    due("joins(0), at home where he wants to be", atHome.joins(0), 0);
    due("leaves(0), at home where he wants to be", atHome.leaves(0), 0);
    due("joins(1), who needs him who leaves", atHome.joins(1), 0);
    due("crowd(0)", atHome.crowd(0), 2);

    says("II", "Is nobody in it then, or has nobody a VOTE, it is over at this STEP"
        + " (it is there still; behind it nowhere, with nobody in it)");
    due("over(), nobody", x.over(), 4);
    due("at(4), there still", x.at(4), 0);
    due("at(5), nowhere", x.at(5), NONE);
    due("crowd(5)", x.crowd(5), 0);
    MarchFolk lost = told(fork(0) + person(0, 3, 4, 0, 7));
    due("over(), no VOTE", lost.over(), 0);
    due("at(0), there still", lost.at(0), 0);
    due("crowd(0), there still", lost.crowd(0), 1);
    due("leaves(0), he never does", lost.leaves(0), NONE);
    due("at(1), nowhere", lost.at(1), NONE);
    due("crowd(1), nobody in it", lost.crowd(1), 0);
    due("boards(1)", lost.boards(1), 0);
    due("weighs(1)", lost.weighs(1), 0);
    due("parties(1)", lost.parties(1), 0);
    due("cause(1)", lost.cause(1), NONE);
    due("eldest(1)", lost.eldest(1), NONE);
    due("together(0, 0)", lost.together(0, 0), 1);
    due("over() when one of two has a VOTE", told(fork(0) + person(0, 3, 0, 0, 1) + person(0, 1, 0, 0, 1)).over(), 1);

    says("II", "else it goes to the PLACE that the RULE tells, and is there at the next STEP");
    due("at(1)", x.at(1), 1);
    says("II", "At STEP 0 it is at its start.");
    due("at(0)", full().at(0), 6);
    due("at(0)", bare().at(0), 1);
    due("at(0)", hills().at(0), 0);
  }

  // ---- Terms III ----

  private static void votes() {
    says("III", "VOTES for next() of where it is and where he wants to be (over ROADS that are not shut; NONE: he has no VOTE)");
    MarchFolk x = hills();
    due("votes(0, 1)", x.votes(0, 1), 2);
    x.bar(2, 1);
    due("votes(0, 1), ROAD 2 shut", x.votes(0, 1), 1);
    due("votes(0, 3), ROAD 2 shut", x.votes(0, 3), 1);
    x.bar(3, 1);
    due("votes(0, 1), both ROADS of 3 shut", x.votes(0, 1), 1);
    due("votes(0, 3), both ROADS of 3 shut", x.votes(0, 3), 0);
    due("carries(0), one has no VOTE", x.carries(0), 1);
    due("turned(0), one has no VOTE", x.turned(0), 0);
    due("splits(0), one has no VOTE", x.splits(0), 0);

    says("III", "RULE 0: the PLACE with most VOTES; 1: with most weight of boards of those who vote for it"
        + " (of several the least PLACE by both)");
    String one = person(0, 1, 0, 0, 1);
    String two = person(0, 2, 0, 0, 1);
    String heavy = person(0, 2, 0, 0, 2);
    String away = person(0, 3, 0, 0, 99);
    due("RULE 0, one and one", told(fork(0) + two + one).at(1), 1);
    due("RULE 0, two and two", told(fork(0) + two + one + two + one).at(1), 1);
    due("RULE 0, one and two", told(fork(0) + two + one + two).at(1), 2);
    due("RULE 0, two and one", told(fork(0) + two + one + one).at(1), 1);
    due("RULE 0, boards are no matter", told(fork(0) + heavy + one).at(1), 1);
    due("RULE 1, 1 and 1", told(fork(1) + two + one).at(1), 1);
    due("RULE 1, 1 and 2", told(fork(1) + heavy + one).at(1), 2);
    due("RULE 1, 2 and 2", told(fork(1) + heavy + one + one).at(1), 1);
    due("RULE 1, 3 and 2", told(fork(1) + heavy + one + one + one).at(1), 1);
    due("RULE 1, who has no VOTE has no weight", told(fork(1) + away + heavy + one).at(1), 2);
    due("RULE 0, nobody else has a VOTE", told(fork(0) + away + two + away).at(1), 2);

    says("III", "2: the VOTE of the one who fell in first of those who have one; 3: who fell in last.");
    due("RULE 2, the first", told(fork(2) + two + one + one).at(1), 2);
    due("RULE 2, the first has no VOTE", told(fork(2) + away + two + one).at(1), 2);
    due("RULE 2, two have none", told(fork(2) + away + away + one + two).at(1), 1);
    due("RULE 3, the last", told(fork(3) + one + one + two).at(1), 2);
    due("RULE 3, the last has no VOTE", told(fork(3) + one + two + away).at(1), 2);
    due("RULE 3, two have none", told(fork(3) + two + one + away + away).at(1), 1);
    due("RULE 2, nobody has one", told(fork(2) + away).over(), 0);
    due("RULE 3, nobody has one", told(fork(3) + away).over(), 0);
    due("RULE 1, nobody has one", told(fork(1) + away).over(), 0);
    // By numbers 0 is the first, but 1 fell in ahead of him; by numbers 1 is the last.
    String later = person(0, 1, 0, 1, 1) + person(0, 2, 0, 0, 1);
    due("RULE 2, not by numbers", told(fork(2) + later).at(1), 2);
    due("RULE 3, not by numbers", told(fork(3) + later).at(1), 1);
  }

  // ---- Promises 11 to 17 ----

  private static void steps() {
    says("11", "The PLACE in which it is at STEP n (0 .. 60; II).");
    due("at(60), endless", endless().at(60), 0);
    due("at(59), endless", endless().at(59), 2);
    says("11", "NONE: it was over ahead of n");
    due("at(3), over then", full().at(3), 0);
    due("at(4), over ahead of it", full().at(4), NONE);
    due("at(1), over at 0", bare().at(1), NONE);
    says("11", "-2: there is no such n, no MARCH.");
    Edges.bounds("at", full()::at, 0, 6, 60, NONE, -2);
    due("at(0), no MARCH", none().at(0), -2);

    says("12", "PERSONS who are in it at STEP n, when those have fallen in and left who do, as bits.");
    due("crowd(0) of eight", told(crowd()).crowd(0), 255);
    due("crowd(1), four left", told(crowd()).crowd(1), 240);
    due("crowd(0), nobody", bare().crowd(0), 0);
    due("crowd(60), endless", endless().crowd(60), 3);
    says("12", "-2 likewise.");
    Edges.bounds("crowd", full()::crowd, 0, 128, 60, 0, -2);
    due("crowd(0), no MARCH", none().crowd(0), -2);

    says("13", "VOTES (III) for a PLACE at STEP n.");
    due("votes(0, 1) of eight", told(crowd()).votes(0, 1), 4);
    due("votes(60, 2), endless", endless().votes(60, 2), 1);
    due("votes(60, 0), over long ago", full().votes(60, 0), 0);
    says("13", "-2: there are none such, no MARCH.");
    MarchFolk x = full();
    Edges.bounds("votes(.., 5)", n -> x.votes(n, 5), 0, 1, 60, 0, -2);
    Edges.bounds("votes(2, ..)", p -> x.votes(2, p), 0, 1, 6, 0, -2);
    Edges.bounds("votes(0, ..)", p -> endless().votes(0, p), 0, 0, 4, 0, -2);
    due("votes(0, 0), no MARCH", none().votes(0, 0), -2);

    says("14", "The STEP at which a PERSON falls in (0 .. 60).");
    due("joins(7), at STEP 0", x.joins(7), 0);
    due("joins(3), at STEP 2", hills().joins(3), 2);
    says("14", "NONE: at none");
    due("joins(0)", x.joins(0), NONE);
    says("14", "-2: there is none such.");
    Edges.bounds("joins", x::joins, 0, NONE, 7, 0, -2);
    due("joins(0) without PERSONS", bare().joins(0), -2);
    due("joins(0), no MARCH", none().joins(0), -2);

    says("15", "The STEP at which he leaves.");
    due("leaves(7)", x.leaves(7), 3);
    says("15", "NONE: at none");
    due("leaves(0), who never falls in", x.leaves(0), NONE);
    due("leaves(0), endless", endless().leaves(0), NONE);
    says("15", "-2 likewise.");
    Edges.bounds("leaves", x::leaves, 0, NONE, 7, 3, -2);
    due("leaves(0) without PERSONS", bare().leaves(0), -2);
    due("leaves(0), no MARCH", none().leaves(0), -2);
  }

  private static void ends() {
    says("16", "The STEP at which it is over.");
    due("over() at STEP 0", bare().over(), 0);
    due("over() at STEP 3", full().over(), 3);
    says("16", "NONE: by 60 it is not");
    due("over(), endless", endless().over(), NONE);
    says("16", "-2: there is no MARCH.");
    due("over(), no MARCH", none().over(), -2);

    says("17", "Why, 0: nobody is in it, 1: nobody has a VOTE.");
    due("why(), nobody", bare().why(), 0);
    due("why(), nobody any more", full().why(), 0);
    due("why(), no VOTE", told(fork(0) + person(0, 3, 0, 0, 1)).why(), 1);
    says("17", "NONE: it is not over by 60");
    due("why(), endless", endless().why(), NONE);
    says("17", "-2 likewise.");
    due("why(), no MARCH", none().why(), -2);
  }

  // ---- Promises 18 to 22 ----

  private static void places() {
    MarchFolk x = full();
    says("18", "The first STEP at which it is in a PLACE.");
    due("comes(6), its start", x.comes(6), 0);
    due("comes(0), of 0 and 4", hills().comes(0), 0);
    due("comes(2), of many", endless().comes(2), 1);
    says("18", "NONE: at none");
    due("comes(1)", x.comes(1), NONE);
    says("18", "-2: there is none such.");
    Edges.bounds("comes", x::comes, 0, 3, 6, 0, -2);
    Edges.bounds("comes, two PLACES,", bare()::comes, 0, NONE, 1, 0, -2);
    due("comes(0), no MARCH", none().comes(0), -2);

    says("19", "How often it is in a PLACE at STEPS 0 .. 60.");
    due("often(0), endless", endless().often(0), 31);
    due("often(2), endless", endless().often(2), 30);
    due("often(1), over at STEP 0", bare().often(1), 1);
    due("often(0), never", bare().often(0), 0);
    says("19", "-2 likewise.");
    Edges.bounds("often", x::often, 0, 1, 6, 1, -2);
    due("often(0), no MARCH", none().often(0), -2);

    says("20", "How long its way is by STEP n, from the start on (by the shortest ROAD, not shut, of several).");
    due("paces(0), endless", endless().paces(0), 0);
    due("paces(59), endless", endless().paces(59), 59);
    due("paces(60), endless", endless().paces(60), 60);
    due("paces(4), over at 3", x.paces(4), 7);
    due("paces(2), the shortest of two", hills().paces(2), 5);
    MarchFolk shut = hills();
    shut.bar(1, 1);
    due("paces(2), the shortest of two shut", shut.paces(2), 10);
    says("20", "-2: there is no such n, no MARCH.");
    Edges.bounds("paces", x::paces, 0, 0, 60, 7, -2);
    due("paces(0), no MARCH", none().paces(0), -2);

    says("21", "The greatest number of PERSONS who are in it at any STEP.");
    due("most() of eight", told(crowd()).most(), 8);
    due("most(), nobody", bare().most(), 0);
    due("most(), who leaves at once", told(fork(0) + person(0, 0, 0, 0, 1)).most(), 0);
    says("21", "-2: there is no MARCH.");
    due("most(), no MARCH", none().most(), -2);

    says("22", "The first STEP at which so many are.");
    due("peak() of 1 and 2", hills().peak(), 1);
    due("peak() of all", endless().peak(), 0);
    says("22", "NONE: at none anybody is");
    due("peak(), nobody", bare().peak(), NONE);
    due("peak(), who leaves at once", told(fork(0) + person(0, 0, 0, 0, 1)).peak(), NONE);
    says("22", "-2 likewise.");
    due("peak(), no MARCH", none().peak(), -2);
  }

  // ---- Promises 23 to 28, 31, 35 ----

  private static void inIt() {
    MarchFolk x = full();
    MarchFolk eight = told(crowd());
    says("23", "REASONS that those in it at STEP n have, as bits.");
    due("boards(0) of all", eight.boards(0), 63);
    due("boards(0), nobody", bare().boards(0), 0);
    says("23", "-2: there is no such n, no MARCH.");
    Edges.bounds("boards", x::boards, 0, 32, 60, 0, -2);
    due("boards(60), endless", endless().boards(60), 3);
    due("boards(0), no MARCH", none().boards(0), -2);

    says("24", "The REASON that most in it have at STEP n, the least of several.");
    due("cause(0) of 0 and 1", eight.cause(0), 0);
    due("cause(1) of 4, 5, 0 and 1", eight.cause(1), 0);
    due("cause(0), two of 5, one of 4", told(fork(0) + person(0, 1, 4, 0, 1) + person(0, 1, 5, 0, 1)
        + person(0, 1, 5, 0, 1)).cause(0), 5);
    due("cause(0), one of 5, one of 4", told(fork(0) + person(0, 1, 5, 0, 1) + person(0, 1, 4, 0, 1)).cause(0), 4);
    says("24", "NONE: nobody is in it");
    due("cause(0), nobody", bare().cause(0), NONE);
    due("cause(3), nobody any more", x.cause(3), NONE);
    says("24", "-2 likewise.");
    Edges.bounds("cause", x::cause, 0, 5, 60, NONE, -2);
    due("cause(60), endless", endless().cause(60), 0);
    due("cause(0), no MARCH", none().cause(0), -2);

    says("25", "What the boards of those in it at STEP n weigh, together.");
    due("weighs(0) of eight", eight.weighs(0), 792);
    due("weighs(0), nobody", bare().weighs(0), 0);
    says("25", "-2 likewise.");
    Edges.bounds("weighs", x::weighs, 0, 99, 60, 0, -2);
    due("weighs(60), endless", endless().weighs(60), 2);
    due("weighs(0), no MARCH", none().weighs(0), -2);

    says("26", "Pairs of PERSONS in it at STEP n who vote for unlike PLACES: how many.");
    due("splits(0) of four and four", eight.splits(0), 16);
    due("splits(1) of four alike", eight.splits(1), 0);
    due("splits(0), one and one without a VOTE",
        told(fork(0) + person(0, 1, 0, 0, 1) + person(0, 3, 0, 0, 1)).splits(0), 0);
    says("26", "-2 likewise.");
    Edges.bounds("splits", eight::splits, 0, 16, 60, 0, -2);
    due("splits(60), endless", endless().splits(60), 1);
    due("splits(59), for 0 and 4", endless().splits(59), 1);
    due("splits(0), no MARCH", none().splits(0), -2);

    says("27", "How many in it at STEP n vote for the PLACE to which it goes then.");
    due("carries(0) of four and four", eight.carries(0), 4);
    due("carries(60), endless", endless().carries(60), 1);
    due("carries(0), RULE 3, the last alone", told(fork(3) + Edges.times(7, person(0, 1, 0, 0, 1))
        + person(0, 2, 0, 0, 1)).carries(0), 1);
    says("27", "NONE: it goes nowhere");
    due("carries(3), over then", x.carries(3), NONE);
    due("carries(4), over ahead of it", x.carries(4), NONE);
    due("carries(0), no VOTE", told(fork(0) + person(0, 3, 0, 0, 1)).carries(0), NONE);
    says("27", "-2 likewise.");
    Edges.bounds("carries", x::carries, 0, 1, 60, NONE, -2);
    due("carries(0), no MARCH", none().carries(0), -2);

    says("28", "How many unlike PLACES those in it at STEP n want.");
    due("parties(0) of eight", eight.parties(0), 2);
    due("parties(0), with one who has no VOTE", told(fork(0) + person(0, 1, 0, 0, 1) + person(0, 3, 0, 0, 1)).parties(0), 2);
    due("parties(0), nobody", bare().parties(0), 0);
    says("28", "-2: there is no such n, no MARCH.");
    Edges.bounds("parties", x::parties, 0, 1, 60, 0, -2);
    due("parties(60), endless", endless().parties(60), 2);
    due("parties(0), no MARCH", none().parties(0), -2);

    says("31", "PERSONS in it at STEP n who VOTE for another PLACE than that to which it goes, as bits (0, too, if it goes nowhere).");
    due("turned(0) of four and four", eight.turned(0), 240);
    due("turned(60), endless", endless().turned(60), 1);
    due("turned(59), it goes to 0", endless().turned(59), 2);
    due("turned(1), those not in it don't VOTE", hills().turned(1), 4);
    due("turned(3), over then", x.turned(3), 0);
    due("turned(0), no VOTE", told(fork(0) + person(0, 3, 0, 0, 1)).turned(0), 0);
    due("turned(0), one has no VOTE", told(fork(0) + person(0, 3, 0, 0, 1) + person(0, 1, 0, 0, 1)).turned(0), 0);
    says("31", "-2: there is no such n, no MARCH.");
    Edges.bounds("turned", eight::turned, 0, 240, 60, 0, -2);
    due("turned(0), no MARCH", none().turned(0), -2);

    says("35", "The PERSON in it at STEP n who fell in first.");
    due("eldest(1), when he left", told(crowd()).eldest(1), 4);
    due("eldest(0), not by numbers", told(fork(0) + person(0, 1, 0, 1, 1) + person(0, 1, 0, 0, 1)).eldest(0), 1);
    due("eldest(60), endless", endless().eldest(60), 0);
    says("35", "NONE: nobody is in it");
    due("eldest(0), nobody", bare().eldest(0), NONE);
    due("eldest(3), nobody any more", x.eldest(3), NONE);
    says("35", "-2: there is no such n, no MARCH.");
    Edges.bounds("eldest", x::eldest, 0, 7, 60, NONE, -2);
    due("eldest(0), no MARCH", none().eldest(0), -2);
  }

  // ---- Promises 29, 30, 32 to 34, 36, 37 ----

  private static void people() {
    MarchFolk x = full();
    says("29", "At how many STEPS two PERSONS (or one twice) are both in it.");
    due("together(0, 1), endless", endless().together(0, 1), 61);
    due("together(1, 1), endless", endless().together(1, 1), 61);
    due("together(7, 7)", x.together(7, 7), 3);
    due("together(0, 7), one never", x.together(0, 7), 0);
    says("29", "-2: there are none such.");
    Edges.bounds("together(.., 7)", p -> x.together(p, 7), 0, 0, 7, 3, -2);
    Edges.bounds("together(7, ..)", p -> x.together(7, p), 0, 0, 7, 3, -2);
    due("together(0, 0) without PERSONS", bare().together(0, 0), -2);
    due("together(0, 0), no MARCH", none().together(0, 0), -2);

    says("30", "How long the way is that a PERSON goes in it, from joins() to leaves() (to STEP 60 without).");
    due("walks(0), endless", endless().walks(0), 60);
    due("walks(7)", x.walks(7), 7);
    due("walks(2), joined at STEP 1", hills().walks(2), 15);
    due("walks(0), who leaves at once", told(fork(0) + person(0, 0, 0, 0, 1)).walks(0), 0);
    says("30", "NONE: he is never in it");
    due("walks(0)", x.walks(0), NONE);
    says("30", "-2: there is none such.");
    Edges.bounds("walks", x::walks, 0, NONE, 7, 7, -2);
    due("walks(0) without PERSONS", bare().walks(0), -2);
    due("walks(0), no MARCH", none().walks(0), -2);

    says("32", "LOOP: the least k by which at(60 less k) and crowd(60 less k) are those at 60, nobody having fallen in behind that STEP.");
    due("loop() of two STEPS", endless().loop(), 2);
    says("32", "NONE: there is none, it is over by 60");
    due("loop(), over", x.loop(), NONE);
    due("loop(), over at STEP 0", bare().loop(), NONE);
    says("32", "-2: there is no MARCH.");
    due("loop(), no MARCH", none().loop(), -2);

    says("33", "The PLACE it comes to that is farthest from its start (by way()), the first of several.");
    due("farthest(), nobody", bare().farthest(), 1);
    due("farthest(), 7 long, not 99", x.farthest(), 0);
    MarchFolk alike = told(head(4, 0, 2) + "road 0 to 1 long 5; road 0 to 2 long 5; road 0 to 3 long 6;"
        + person(0, 2, 0, 0, 1) + person(0, 1, 0, 0, 1));
    due("comes(2), ahead of 1", alike.comes(2), 1);
    due("farthest() of 1 and 2, it never comes to 3", alike.farthest(), 1);
    says("33", "-2 likewise.");
    due("farthest(), no MARCH", none().farthest(), -2);

    says("34", "PERSONS who are at home in a PLACE, as bits.");
    due("crew(1)", x.crew(1), 126);
    due("crew(5), nobody", x.crew(5), 0);
    says("34", "-2: there is none such.");
    Edges.bounds("crew", x::crew, 0, 1, 6, 128, -2);
    due("crew(0), no MARCH", none().crew(0), -2);

    says("36", "At how many STEPS it is at the home of a PERSON who did not fall in by then.");
    String never = person(0, 1, 2, 9, 1) + person(2, 1, 2, 9, 1);
    MarchFolk waiting = told(Edges.tied(0, 0, never));
    due("waits(2) for ever, at 0", waiting.waits(2), 31);
    due("waits(3) for ever, at 2", waiting.waits(3), 30);
    due("waits(0), who falls in at the first", waiting.waits(0), 0);
    due("waits(0), once", x.waits(0), 1);
    due("waits(1), never", x.waits(1), 0);
    // 2 is at home at 0, but needs 3: at STEP 2 PERSON 3, from 2, is in it too.
    MarchFolk later = told(Edges.tied(0, 0, person(0, 2, 2, 3, 1) + person(2, 3, 2, 0, 1)));
    due("joins(2)", later.joins(2), 2);
    due("waits(2), till then", later.waits(2), 1);
    says("36", "-2: there is none such.");
    Edges.bounds("waits", x::waits, 0, 1, 7, 0, -2);
    due("waits(0) without PERSONS", bare().waits(0), -2);
    due("waits(0), no MARCH", none().waits(0), -2);

    says("37", "PERSONS who never fall in, though it comes to their home, as bits.");
    due("missed() ahead of any other call", full().missed(), 1);
    due("missed(), one of seven", x.missed(), 1);
    due("missed(), two", waiting.missed(), 12);
    due("missed(), nobody", bare().missed(), 0);
    says("37", "-2 likewise.");
    due("missed(), no MARCH", none().missed(), -2);
  }

  public static void main(String[] args) {
    fallingIn();
    leaving();
    votes();
    steps();
    ends();
    places();
    inIt();
    people();
    Edges.end(Edges.promises(11, 37, "II", "III"));
  }
}
