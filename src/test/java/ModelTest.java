import java.math.BigInteger;
import java.util.ArrayList;
import java.util.Arrays;
import java.util.List;
import java.util.Random;
import java.util.TreeMap;
import java.util.function.IntPredicate;

/**
 * Compares MarchFolk with a model of the document that is written another way
 * (lists of people, ways by trying every path, rain by splitting chances), on many drawn marches.
 */
public final class ModelTest {
  private static int wrong = 0;
  private static long checked = 0;
  private static String told = "";

  private static void due(String call, long got, long want) {
    checked++;
    if (got != want) {
      wrong++;
      if (wrong < 40) {
        System.out.println(call + " answered " + got + ", due is " + want + "\n  " + told);
      }
    }
  }

  // ---- The model ----

  static final class Road {
    int a, b, length;
  }

  static final class Folk {
    int number, home, wants, reason, needs, board;
  }

  static final class March {
    int places, start, rule, odds;
    List<Road> roads = new ArrayList<>();
    List<Folk> folk = new ArrayList<>();
    int[] grant = new int[6];
    int answered, barred;

    int cost(int set) {
      int c = 0;
      for (int r = 0; r < 6; r++) if ((set >> r & 1) == 1) c += grant[r];
      return c;
    }
  }

  /** The length of the shortest way by trying every path without a place twice; -1 without. */
  static int shortest(March m, int barred, int from, int to, int visited) {
    if (from == to) return 0;
    int best = -1;
    for (int r = 0; r < m.roads.size(); r++) {
      if ((barred >> r & 1) == 1) continue;
      Road road = m.roads.get(r);
      int other = road.a == from ? road.b : road.b == from ? road.a : -1;
      if (other < 0 || (visited >> other & 1) == 1) continue;
      int rest = shortest(m, barred, other, to, visited | 1 << other);
      if (rest >= 0 && (best < 0 || rest + road.length < best)) best = rest + road.length;
    }
    return best;
  }

  static int direct(March m, int barred, int from, int to) {
    int best = -1;
    for (int r = 0; r < m.roads.size(); r++) {
      Road road = m.roads.get(r);
      boolean joins = road.a == from && road.b == to || road.a == to && road.b == from;
      if (joins && (barred >> r & 1) == 0 && (best < 0 || road.length < best)) best = road.length;
    }
    return best;
  }

  static int[][][] wayTable(March m, int barred) {
    int[][] way = new int[m.places][m.places];
    int[][] next = new int[m.places][m.places];
    int[][] step = new int[m.places][m.places];
    for (int a = 0; a < m.places; a++) {
      for (int b = 0; b < m.places; b++) {
        way[a][b] = shortest(m, barred, a, b, 1 << a);
        step[a][b] = direct(m, barred, a, b);
      }
    }
    for (int a = 0; a < m.places; a++) {
      for (int b = 0; b < m.places; b++) {
        next[a][b] = -1;
        for (int c = m.places - 1; a != b && way[a][b] >= 0 && c >= 0; c--) {
          if (step[a][c] >= 0 && way[c][b] >= 0 && step[a][c] + way[c][b] == way[a][b]) next[a][b] = c;
        }
      }
    }
    return new int[][][] {way, next, step};
  }

  static final class Told {
    int[] at = new int[61], crowd = new int[61], goes = new int[61];
    int[] joins, leaves;
    int over = -1, why = -1;
    List<Integer> order = new ArrayList<>();
    int[][] votes = new int[61][];
    int visits() {
      int bits = 0;
      for (int p : at) if (p >= 0) bits |= 1 << p;
      return bits;
    }
  }

  static final class What {
    int start, rule, answered, banned = -1;
    int[][][] table, later;
    int laterFrom = 99;
    int shamStep = -1, shammer = -1, shamPlace;
    IntPredicate rain = n -> false;
  }

  static What plain(March m) {
    What w = new What();
    w.start = m.start;
    w.rule = m.rule;
    w.answered = m.answered;
    w.table = wayTable(m, m.barred);
    return w;
  }

  static int choose(March m, List<Folk> in, int[] vote, int rule) {
    List<Folk> voters = new ArrayList<>();
    for (Folk f : in) if (vote[f.number] >= 0) voters.add(f);
    if (voters.isEmpty()) return -1;
    if (rule == 2) return vote[voters.get(0).number];
    if (rule == 3) return vote[voters.get(voters.size() - 1).number];
    TreeMap<Integer, Integer> tally = new TreeMap<>();
    for (Folk f : voters) tally.merge(vote[f.number], rule == 0 ? 1 : f.board, Integer::sum);
    int best = -1;
    for (int place : tally.keySet()) if (best < 0 || tally.get(place) > tally.get(best)) best = place;
    return best;
  }

  static Told walk(March m, What w) {
    Told t = new Told();
    Arrays.fill(t.at, -1);
    Arrays.fill(t.goes, -1);
    t.joins = new int[m.folk.size()];
    t.leaves = new int[m.folk.size()];
    Arrays.fill(t.joins, -1);
    Arrays.fill(t.leaves, -1);
    List<Folk> in = new ArrayList<>();
    int place = w.start;
    for (int n = 0; n <= 60; n++) {
      t.at[n] = place;
      if (!w.rain.test(n)) {
        int before;
        do {
          before = in.size();
          for (Folk f : m.folk) {
            if (f.home != place || t.joins[f.number] >= 0 || f.number == w.banned) continue;
            if ((w.answered >> f.reason & 1) == 1 || f.needs > in.size()) continue;
            in.add(f);
            t.joins[f.number] = n;
            t.order.add(f.number);
          }
        } while (in.size() != before);
      }
      for (Folk f : new ArrayList<>(in)) {
        if (f.wants == place) {
          in.remove(f);
          t.leaves[f.number] = n;
        }
      }
      int[] vote = new int[m.folk.size()];
      Arrays.fill(vote, -1);
      for (Folk f : in) {
        t.crowd[n] |= 1 << f.number;
        int[][] next = (n >= w.laterFrom ? w.later : w.table)[1];
        vote[f.number] = n == w.shamStep && f.number == w.shammer ? w.shamPlace : next[place][f.wants];
      }
      t.votes[n] = vote;
      t.goes[n] = choose(m, in, vote, w.rule);
      if (t.goes[n] < 0) {
        t.over = n;
        t.why = in.isEmpty() ? 0 : 1;
        break;
      }
      place = t.goes[n];
    }
    return t;
  }

  static int first(Told t, int place, int from) {
    for (int n = from; n <= 60; n++) if (t.at[n] == place) return n;
    return -1;
  }

  // ---- Comparing ----

  static void compareWays(MarchFolk x, March m) {
    int[][][] table = wayTable(m, m.barred);
    for (int a = 0; a < m.places; a++) {
      int reach = 0;
      for (int b = 0; b < m.places; b++) {
        due("way " + a + " " + b, x.way(a, b), table[0][a][b]);
        due("next " + a + " " + b, x.next(a, b), table[1][a][b]);
        if (table[0][a][b] >= 0) reach |= 1 << b;
        due("cut " + a + " " + b, x.cut(a, b), a == b ? -1 : fewestCut(m, a, b));
      }
      due("reach " + a, x.reach(a), reach);
    }
  }

  static boolean joined(March m, int barred, int a, int b) {
    int seen = 1 << a;
    for (int round = 0; round < m.places; round++) {
      for (int r = 0; r < m.roads.size(); r++) {
        Road road = m.roads.get(r);
        if ((barred >> r & 1) == 1) continue;
        if ((seen >> road.a & 1) == 1) seen |= 1 << road.b;
        if ((seen >> road.b & 1) == 1) seen |= 1 << road.a;
      }
    }
    return (seen >> b & 1) == 1;
  }

  static int fewestCut(March m, int a, int b) {
    int best = 99;
    for (int set = 0; set < 1 << m.roads.size(); set++) {
      if ((set & m.barred) == 0 && !joined(m, m.barred | set, a, b)) best = Math.min(best, Integer.bitCount(set));
    }
    return best;
  }

  static void compareSteps(MarchFolk x, March m) {
    What w = plain(m);
    Told t = walk(m, w);
    int way = 0;
    int most = 0;
    int peak = -1;
    int[] ways = new int[61];
    for (int n = 0; n <= 60; n++) {
      if (n > 0 && t.at[n] >= 0) way += w.table[2][t.at[n - 1]][t.at[n]];
      ways[n] = way;
      int in = Integer.bitCount(t.crowd[n]);
      if (in > most) {
        most = in;
        peak = n;
      }
      due("at " + n, x.at(n), t.at[n]);
      due("crowd " + n, x.crowd(n), t.crowd[n]);
      due("paces " + n, x.paces(n), way);
      if (n > 12 && n < 58 && n % 7 != 0) continue;
      int boards = 0, weighs = 0, splits = 0, turned = 0, wanted = 0, carries = 0, eldest = -1, shammers = 0;
      int[] votes = new int[m.places];
      int[] reasons = new int[6];
      for (Folk f : m.folk) {
        if ((t.crowd[n] >> f.number & 1) == 0) continue;
        boards |= 1 << f.reason;
        reasons[f.reason]++;
        weighs += f.board;
        wanted |= 1 << f.wants;
        int vote = t.votes[n][f.number];
        if (vote >= 0) votes[vote]++;
        if (vote >= 0 && vote == t.goes[n]) carries++;
        if (vote >= 0 && t.goes[n] >= 0 && vote != t.goes[n]) turned |= 1 << f.number;
        for (Folk g : m.folk) {
          if (g.number <= f.number || (t.crowd[n] >> g.number & 1) == 0) continue;
          if (vote >= 0 && t.votes[n][g.number] >= 0 && vote != t.votes[n][g.number]) splits++;
        }
      }
      for (int p : t.order) if (eldest < 0 && (t.crowd[n] >> p & 1) == 1) eldest = p;
      int cause = -1;
      for (int r = 5; r >= 0; r--) if (reasons[r] > 0 && (cause < 0 || reasons[r] >= reasons[cause])) cause = r;
      due("boards " + n, x.boards(n), boards);
      due("cause " + n, x.cause(n), cause);
      due("weighs " + n, x.weighs(n), weighs);
      due("splits " + n, x.splits(n), splits);
      due("turned " + n, x.turned(n), turned);
      due("parties " + n, x.parties(n), Integer.bitCount(wanted));
      due("carries " + n, x.carries(n), t.goes[n] < 0 ? -1 : carries);
      due("eldest " + n, x.eldest(n), eldest);
      for (int p = 0; p < m.places; p++) due("votes " + n + " " + p, x.votes(n, p), votes[p]);
      for (Folk f : m.folk) {
        int shams = 0;
        for (int p = 0; p < m.places && (t.crowd[n] >> f.number & 1) == 1; p++) {
          if (w.table[2][t.at[n]][p] < 0 || t.votes[n][f.number] == p) continue;
          What false1 = plain(m);
          false1.shamStep = n;
          false1.shammer = f.number;
          false1.shamPlace = p;
          int a = first(walk(m, false1), f.wants, n + 1);
          int b = first(t, f.wants, n + 1);
          if (a >= 0 && (b < 0 || a < b)) shams |= 1 << p;
        }
        if (shams != 0) shammers |= 1 << f.number;
        due("shams " + f.number + " " + n, x.shams(f.number, n), shams);
      }
      due("shammers " + n, x.shammers(n), shammers);
    }
    due("over", x.over(), t.over);
    due("why", x.why(), t.why);
    due("most", x.most(), most);
    due("peak", x.peak(), peak);
    int missed = 0;
    for (Folk f : m.folk) {
      int p = f.number;
      due("joins " + p, x.joins(p), t.joins[p]);
      due("leaves " + p, x.leaves(p), t.leaves[p]);
      int walks = t.joins[p] < 0 ? -1 : ways[t.leaves[p] < 0 ? 60 : t.leaves[p]] - ways[t.joins[p]];
      due("walks " + p, x.walks(p), walks);
      if (t.joins[p] < 0 && first(t, f.home, 0) >= 0) missed |= 1 << p;
      int waits = 0;
      for (int n = 0; n <= 60; n++) if (t.at[n] == f.home && !(t.joins[p] >= 0 && t.joins[p] <= n)) waits++;
      due("waits " + p, x.waits(p), waits);
      int needed = 0;
      for (Folk g : m.folk) {
        if (g == f || t.joins[p] < 0) continue;
        What without = plain(m);
        without.banned = g.number;
        if (walk(m, without).joins[p] < 0) needed |= 1 << g.number;
        int both = 0;
        for (int n = 0; n <= 60; n++) if ((t.crowd[n] >> p & 1) == 1 && (t.crowd[n] >> g.number & 1) == 1) both++;
        due("together " + p + " " + g.number, x.together(p, g.number), both);
      }
      due("needed " + p, x.needed(p), needed);
    }
    due("missed", x.missed(), missed);
    int loop = -1;
    for (int k = 60; k >= 1; k--) {
      boolean same = t.over < 0 && t.at[60 - k] == t.at[60] && t.crowd[60 - k] == t.crowd[60];
      for (int j : t.joins) same &= j <= 60 - k;
      if (same) loop = k;
    }
    due("loop", x.loop(), loop);
    int far = m.start;
    for (int p = m.places - 1; p >= 0; p--) {
      if ((t.visits() >> p & 1) == 1 && w.table[0][m.start][p] >= w.table[0][m.start][far]) far = p;
    }
    due("farthest", x.farthest(), far);
    for (int p = 0; p < m.places; p++) {
      int often = 0;
      for (int n = 0; n <= 60; n++) if (t.at[n] == p) often++;
      int crew = 0;
      for (Folk f : m.folk) if (f.home == p) crew |= 1 << f.number;
      due("comes " + p, x.comes(p), first(t, p, 0));
      due("often " + p, x.often(p), often);
      due("crew " + p, x.crew(p), crew);
    }
  }

  static void compareStops(MarchFolk x, March m, Random random) {
    What w = plain(m);
    for (int p = 0; p < m.places; p++) {
      int bestSet = -1;
      for (int set = 63; set >= 0; set--) {
        w.answered = set;
        if (first(walk(m, w), p, 0) >= 0) continue;
        if (bestSet < 0 || m.cost(set) <= m.cost(bestSet)) bestSet = set;
      }
      due("stop " + p, x.stop(p), bestSet < 0 ? -1 : m.cost(bestSet));
      due("stops " + p, x.stops(p), bestSet);
      int shuts = -1;
      for (int set = (1 << m.roads.size()) - 1; set >= 0; set--) {
        if (shuts >= 0 && Integer.bitCount(set) > Integer.bitCount(shuts)) continue;
        What v = plain(m);
        v.table = wayTable(m, set);
        if (first(walk(m, v), p, 0) < 0) shuts = set;
      }
      due("shut " + p, x.shut(p), shuts < 0 ? -1 : Integer.bitCount(shuts));
      due("shuts " + p, x.shuts(p), shuts);
      for (int n : new int[] {0, 1, 2, 3, random.nextInt(61)}) {
        int trap = -1;
        for (int r = m.roads.size() - 1; r >= 0; r--) {
          What v = plain(m);
          v.laterFrom = n;
          v.later = wayTable(m, m.barred | 1 << r);
          if (first(walk(m, v), p, n) < 0) trap = r;
        }
        due("trap " + n + " " + p, x.trap(n, p), trap);
      }
    }
    int soonest = -1, ends = -1;
    for (int set = 63; set >= 0; set--) {
      w.answered = set;
      int over = walk(m, w).over;
      if (over < 0) continue;
      if (ends < 0 || over < soonest || over == soonest && m.cost(set) <= m.cost(ends)) {
        soonest = over;
        ends = set;
      }
    }
    due("soonest", x.soonest(), soonest);
    due("ends", x.ends(), ends);
    for (int i = 0; i < 8; i++) {
      int set = random.nextInt(64);
      int contented = 0;
      for (Folk f : m.folk) if ((set >> f.reason & 1) == 1) contented++;
      due("content " + set, x.content(set), contented);
      int paid = random.nextInt(601);
      if (i < 4) paid /= 4;
      int best = 0;
      for (int s = 0; s < 64; s++) {
        int c = 0;
        for (Folk f : m.folk) if ((s >> f.reason & 1) == 1) c++;
        if (m.cost(s) <= paid) best = Math.max(best, c);
      }
      due("buys " + paid, x.buys(paid), best);
    }
  }

  static void fill(MarchFolk x, int slot, int width, int[] numbers) {
    due("row", x.row(slot, width, numbers.length), 0);
    for (int i = 0; i < numbers.length; i++) due("write", x.write(slot, i, numbers[i]), 0);
  }

  static void compareSeen(MarchFolk x, March m, Random random) {
    int slot = random.nextInt(4);
    for (int round = 0; round < 3 && !m.folk.isEmpty(); round++) {
      What w = plain(m);
      w.start = random.nextInt(m.places);
      Told t = walk(m, w);
      int k = round;
      int[] row = new int[2 * k];
      for (int i = 0; i < k; i++) {
        row[2 * i] = random.nextInt(m.folk.size());
        row[2 * i + 1] = random.nextInt(9) == 0 ? random.nextInt(5) - 1 : t.joins[row[2 * i]];
      }
      fill(x, slot, random.nextInt(4), row);
      List<Told> all = new ArrayList<>();
      List<Integer> left = new ArrayList<>();
      for (int s = 0; s < m.places; s++) {
        w.start = s;
        all.add(walk(m, w));
        boolean agrees = true;
        for (int i = 0; i < k; i++) agrees &= all.get(s).joins[row[2 * i]] == row[2 * i + 1];
        if (agrees) left.add(s);
      }
      int bits = 0;
      for (int s : left) bits |= 1 << s;
      due("starts", x.starts(slot), bits);
      int best = -1;
      int fewest = left.size();
      for (int p = 0; p < m.folk.size(); p++) {
        TreeMap<Integer, Integer> groups = new TreeMap<>();
        for (int s : left) groups.merge(all.get(s).joins[p], 1, Integer::sum);
        int worst = 0;
        for (int g : groups.values()) worst = Math.max(worst, g);
        if (worst < fewest) {
          fewest = worst;
          best = p;
        }
      }
      due("ask", x.ask(slot), best);
    }
    for (int round = 0; round < 3; round++) {
      What w = plain(m);
      w.rule = random.nextInt(4);
      Told t = walk(m, w);
      int[] row = new int[2 * round];
      for (int i = 0; i < round; i++) {
        row[2 * i] = random.nextInt(random.nextBoolean() ? 61 : 6);
        row[2 * i + 1] = random.nextInt(9) == 0 ? random.nextInt(m.places + 1) - 1 : t.at[row[2 * i]];
      }
      fill(x, slot, random.nextInt(4), row);
      int bits = 0;
      for (int rule = 0; rule < 4; rule++) {
        w.rule = rule;
        Told u = walk(m, w);
        boolean agrees = true;
        for (int i = 0; i < round; i++) agrees &= u.at[row[2 * i]] == row[2 * i + 1];
        if (agrees) bits |= 1 << rule;
      }
      due("rules", x.rules(slot), bits);
    }
  }

  /** Above 10 to the power of steps, of a sum over every course of the rain. */
  static BigInteger[] rainy(March m, What w, int n, int steps, int place) {
    BigInteger sum = BigInteger.ZERO;
    for (int wet = 0; wet < 1 << steps; wet++) {
      int course = wet;
      w.rain = k -> (course >> k & 1) == 1;
      Told t = walk(m, w);
      int come = first(t, place, 0);
      long value = place < 0 ? Integer.bitCount(t.crowd[n]) : come >= 0 && come <= n ? 1 : 0;
      int rains = Integer.bitCount(wet);
      BigInteger weight = BigInteger.valueOf(m.odds).pow(rains)
          .multiply(BigInteger.valueOf(10 - m.odds).pow(steps - rains));
      sum = sum.add(weight.multiply(BigInteger.valueOf(value)));
    }
    BigInteger below = BigInteger.TEN.pow(steps);
    BigInteger common = sum.gcd(below);
    return new BigInteger[] {sum.divide(common), below.divide(common)};
  }

  static IntPredicate drawnRain(long seed, int odds) {
    boolean[] wet = new boolean[61];
    BigInteger x = BigInteger.valueOf(seed);
    for (int n = 0; n <= 60; n++) {
      x = x.multiply(BigInteger.valueOf(1103515245L)).add(BigInteger.valueOf(12345)).mod(BigInteger.ONE.shiftLeft(31));
      wet[n] = x.longValue() / 65536 % 10 < odds;
    }
    return n -> wet[n];
  }

  static void compareRain(MarchFolk x, March m, Random random) {
    What w = plain(m);
    int n = random.nextInt(6);
    int place = random.nextInt(m.places);
    BigInteger[] chance = rainy(m, w, n, n, place);
    due("chance " + place + " " + n + " above", x.chance(place, n, 0), chance[0].longValueExact());
    due("chance " + place + " " + n + " below", x.chance(place, n, 1), chance[1].longValueExact());
    BigInteger[] mean = rainy(m, w, n, n + 1, -1);
    due("mean " + n + " above", x.mean(n, 0), mean[0].longValueExact());
    due("mean " + n + " below", x.mean(n, 1), mean[1].longValueExact());
    int seed = random.nextInt(2000000001);
    w.rain = drawnRain(seed, m.odds);
    Told t = walk(m, w);
    int fell = 0;
    for (int p : t.order) fell |= 1 << p;
    due("drawn " + seed + " 0", x.drawn(seed, 0), t.over);
    due("drawn " + seed + " 1", x.drawn(seed, 1), fell);
    due("drawn " + seed + " 2", x.drawn(seed, 2), t.visits());
    int many = 1 + random.nextInt(20);
    int times = 0;
    for (int i = 0; i < many; i++) {
      w.rain = drawnRain((long) seed + i, m.odds);
      if (first(walk(m, w), place, 0) >= 0) times++;
    }
    due("luck " + seed + " " + many + " " + place, x.luck(seed, many, place), times);
  }

  // ---- Drawn marches ----

  static March drawMarch(Random random) {
    March m = new March();
    m.places = 2 + random.nextInt(6);
    m.start = random.nextInt(m.places);
    m.rule = random.nextInt(4);
    m.odds = random.nextInt(11);
    int roads = random.nextInt(4) == 0 ? random.nextInt(11) : Math.min(10, m.places + random.nextInt(4));
    for (int i = 0; i < roads; i++) {
      Road r = new Road();
      r.a = random.nextInt(m.places);
      r.b = (r.a + 1 + random.nextInt(m.places - 1)) % m.places;
      r.length = 1 + random.nextInt(random.nextBoolean() ? 99 : 4);
      m.roads.add(r);
    }
    int folk = random.nextInt(9);
    for (int i = 0; i < folk; i++) {
      Folk f = new Folk();
      f.number = i;
      f.home = random.nextInt(3) == 0 ? m.start : random.nextInt(m.places);
      f.wants = random.nextInt(m.places);
      f.reason = random.nextInt(6);
      f.needs = random.nextInt(random.nextInt(4) == 0 ? 10 : 3);
      f.board = 1 + random.nextInt(random.nextBoolean() ? 99 : 5);
      m.folk.add(f);
    }
    return m;
  }

  static String textOf(March m, Random random) {
    List<String> lines = new ArrayList<>();
    for (Road r : m.roads) lines.add("road " + r.a + " to " + r.b + " long " + r.length);
    for (Folk f : m.folk) {
      lines.add("person at " + f.home + " wants " + f.wants + " reason " + f.reason + " needs " + f.needs + " board " + f.board);
    }
    for (int i = 0; i < 3; i++) {
      int r = random.nextInt(6);
      m.grant[r] = random.nextInt(random.nextBoolean() ? 100 : 4);
      lines.add("grant " + r + " costs " + m.grant[r]);
    }
    StringBuilder text = new StringBuilder();
    text.append("march places " + m.places + " start " + m.start + " rule " + m.rule + " odds " + m.odds + ";");
    for (String line : lines) {
      String spaced = line;
      if (random.nextInt(3) == 0) spaced = line.replace(' ', '\n');
      if (random.nextInt(3) == 0) spaced = spaced.replaceAll("([0-9])\\s([a-z])", "$1$2").replaceAll("([a-z])\\s([0-9])", "$1$2");
      text.append(spaced).append(random.nextInt(4) == 0 ? " ;" : ";");
    }
    return text.toString();
  }

  static void feed(MarchFolk x, String text) {
    byte[] bytes = new byte[(text.length() + 19) / 20 * 20];
    for (int i = 0; i < text.length(); i++) bytes[i] = (byte) text.charAt(i);
    for (int i = 0; i < bytes.length; i += 20) {
      int[] words = new int[5];
      for (int j = 0; j < 20; j++) words[j / 4] = words[j / 4] << 8 | bytes[i + j] & 255;
      due("feed", x.feed(words[0], words[1], words[2], words[3], words[4]), i + 20);
    }
    due("end", x.end(text.length()), text.length());
  }

  static void compareAll(MarchFolk x, March m, Random random) {
    compareWays(x, m);
    compareSteps(x, m);
    compareStops(x, m, random);
    compareSeen(x, m, random);
    compareRain(x, m, random);
    due("answered", x.answered(), m.answered);
    due("barred", x.barred(), m.barred);
    due("costs", x.costs(), m.cost(m.answered));
  }

  static void act(MarchFolk x, March m, Random random) {
    int acts = random.nextInt(4);
    for (int i = 0; i < acts; i++) {
      int on = random.nextInt(3);
      if (random.nextBoolean()) {
        int r = random.nextInt(6);
        due("answer", x.answer(r, on), on == 2 ? -2 : m.answered >> r & 1);
        if (on == 2) continue;
        m.answered = on == 0 ? m.answered & ~(1 << r) : m.answered | 1 << r;
      } else if (!m.roads.isEmpty()) {
        int r = random.nextInt(m.roads.size());
        due("bar", x.bar(r, on), on == 2 ? -2 : m.barred >> r & 1);
        if (on == 2) continue;
        m.barred = on == 0 ? m.barred & ~(1 << r) : m.barred | 1 << r;
      }
    }
  }

  public static void main(String[] args) {
    int marches = args.length > 0 ? Integer.parseInt(args[0]) : 300;
    for (int seed = 1; seed <= marches; seed++) {
      Random random = new Random(seed);
      March m = drawMarch(random);
      String text = textOf(m, random);
      if (text.length() > 800) continue;
      told = "march " + seed + ": " + text;
      MarchFolk x = new MarchFolk();
      feed(x, text);
      due("march", x.march(), 1 + m.roads.size() + m.folk.size() + 3);
      if (random.nextBoolean()) compareAll(x, m, random);
      x.image(2);
      act(x, m, random);
      told = told + " answered " + m.answered + " barred " + m.barred;
      compareAll(x, m, random);
      x.back(2);
      m.answered = 0;
      m.barred = 0;
      told = "march " + seed + " (back): " + text;
      if (seed % 4 == 0) compareAll(x, m, random);
    }
    System.out.println(checked + " answers compared with the model's, " + wrong + " not as due");
    if (wrong != 0) System.exit(1);
  }
}
