import java.util.Arrays;

public final class MarchFolk {
    public static final int NONE = -1;

    private static final int NO_SUCH = -2;
    private static final int BELOW = -3;
    private static final int FAULTY = -4;
    private static final int NOT_NOW = -5;
    private static final int NOTHING = -6;
    private static final int BEYOND = -7;
    private static final int UNLIKE = -8;

    private static final int TAPE_BYTES = 800;
    private static final int FED_AT_ONCE = 20;
    private static final int MOST_PLACES = 7;
    private static final int MOST_ROADS = 10;
    private static final int MOST_PERSONS = 8;
    private static final int REASONS = 6;
    private static final int REASON_SETS = 64;
    private static final int RULES = 4;
    private static final int MOST_ACTS = 40;
    private static final int LAST_STEP = 60;
    private static final int STEPS = 61;
    private static final int LAST_RAINY_STEP = 8;
    private static final int MOST_PAID = 600;
    private static final int MOST_NEEDS = 9;
    private static final int GREATEST_SEED = 2000000000;
    private static final int MOST_DRAWN = 20;
    private static final int IMAGES = 3;
    private static final int SLOTS = 4;
    private static final int MOST_NUMBERS = 60;
    private static final int WIDTHS = 4;

    // Where a ROAD's three numbers and a PERSON's five stand in their rows.
    private static final int LONG = 2;
    private static final int ROAD_NUMBERS = 3;
    private static final int HOME = 0;
    private static final int WANTS = 1;
    private static final int REASON = 2;
    private static final int NEEDS = 3;
    private static final int BOARD = 4;
    private static final int PERSON_NUMBERS = 5;

    private final byte[] tape = new byte[TAPE_BYTES];
    private int fed;
    private final Reader reader = new Reader(tape);
    private final Plan draft = new Plan();
    private final Plan plan = new Plan();
    private final Acts acts = new Acts();
    private final Image[] images = new Image[IMAGES];
    private final Slot[] slots = new Slot[SLOTS];

    // The march as it is: told anew only when it is asked for after a change.
    private boolean told;
    private final Ways ways = new Ways();
    private final Walk walk = new Walk();

    // For what would be: never the march as it is.
    private final Case trial = new Case();
    private final Ways otherWays = new Ways();
    private final Walk would = new Walk();
    private final int[][] fallsIn = new int[MOST_PLACES][MOST_PERSONS];

    public MarchFolk() {
        for (int k = 0; k < IMAGES; k++) {
            images[k] = new Image();
        }
        for (int slot = 0; slot < SLOTS; slot++) {
            slots[slot] = new Slot();
        }
    }

    // ---- The text ----

    public int feed(int a, int b, int c, int d, int e) {
        if (fed > TAPE_BYTES - FED_AT_ONCE) {
            return NONE;
        }
        putFour(a);
        putFour(b);
        putFour(c);
        putFour(d);
        putFour(e);
        return fed;
    }

    private void putFour(int number) {
        for (int shift = 24; shift >= 0; shift -= 8) {
            if (fed < TAPE_BYTES) {
                tape[fed] = (byte) (number >> shift);
                fed++;
            }
        }
    }

    public int end(int n) {
        if (n < 0 || n > fed) {
            return NONE;
        }
        fed = n;
        return n;
    }

    public int march() {
        reader.read(fed, draft);
        fed = 0;
        if (reader.fault != 0) {
            return FAULTY;
        }
        plan.take(draft);
        acts.clear();
        told = false;
        return plan.lines;
    }

    public int fault(int what) {
        switch (what) {
            case 0: return reader.fault;
            case 1: return reader.place;
            default: return NONE;
        }
    }

    // ---- What there is ----

    private boolean isMarch() {
        return plan.lines > 0;
    }

    private boolean isPlace(int place) {
        return place >= 0 && place < plan.places;
    }

    private boolean isRoad(int road) {
        return road >= 0 && road < plan.roads;
    }

    private boolean isPerson(int person) {
        return person >= 0 && person < plan.persons;
    }

    private boolean isStep(int n) {
        return isMarch() && n >= 0 && n <= LAST_STEP;
    }

    private boolean isRainyStep(int n) {
        return isMarch() && n >= 0 && n <= LAST_RAINY_STEP;
    }

    private boolean isSlot(int slot) {
        return slot >= 0 && slot < SLOTS;
    }

    private boolean isPartOfFraction(int what) {
        return what == 0 || what == 1;
    }

    private boolean isOnOrOff(int on) {
        return on == 0 || on == 1;
    }

    private static boolean holds(int bits, int number) {
        return ((bits >> number) & 1) == 1;
    }

    public int road(int road, int what) {
        if (!isRoad(road) || what < 0 || what >= ROAD_NUMBERS) {
            return NO_SUCH;
        }
        return plan.road[road][what];
    }

    public int person(int person, int what) {
        if (!isPerson(person) || what < 0 || what >= PERSON_NUMBERS) {
            return NO_SUCH;
        }
        return plan.person[person][what];
    }

    public int count(int what) {
        switch (what) {
            case 0: return plan.places;
            case 1: return plan.start;
            case 2: return plan.rule;
            case 3: return plan.odds;
            case 4: return plan.roads;
            case 5: return plan.persons;
            case 6: return acts.count;
            case 7: return plan.lines;
            case 8: return fed;
            case 9: return rowsKept();
            default: return NONE;
        }
    }

    private int rowsKept() {
        int rows = 0;
        for (int slot = 0; slot < SLOTS; slot++) {
            if (slots[slot].kept) {
                rows++;
            }
        }
        return rows;
    }

    public int crew(int place) {
        if (!isPlace(place)) {
            return NO_SUCH;
        }
        int bits = 0;
        for (int p = 0; p < plan.persons; p++) {
            if (plan.person[p][HOME] == place) {
                bits |= 1 << p;
            }
        }
        return bits;
    }

    // ---- Ways ----

    public int way(int place, int other) {
        if (!isPlace(place) || !isPlace(other)) {
            return NO_SUCH;
        }
        tell();
        return ways.lengthOf(place, other);
    }

    public int next(int place, int other) {
        if (!isPlace(place) || !isPlace(other)) {
            return NO_SUCH;
        }
        tell();
        return ways.nextOf(place, other);
    }

    public int reach(int place) {
        if (!isPlace(place)) {
            return NO_SUCH;
        }
        tell();
        int bits = 0;
        for (int other = 0; other < plan.places; other++) {
            if (ways.lengthOf(place, other) != NONE) {
                bits |= 1 << other;
            }
        }
        return bits;
    }

    public int cut(int place, int other) {
        if (!isPlace(place) || !isPlace(other)) {
            return NO_SUCH;
        }
        if (place == other) {
            return NONE;
        }
        // A least cut parts the PLACES into two sides: look at every side of the first PLACE.
        int fewest = MOST_ROADS;
        for (int side = 0; side < 1 << plan.places; side++) {
            if (holds(side, place) && !holds(side, other)) {
                fewest = Math.min(fewest, roadsAcross(side));
            }
        }
        return fewest;
    }

    private int roadsAcross(int side) {
        int across = 0;
        for (int r = 0; r < plan.roads; r++) {
            boolean shut = holds(acts.barred, r);
            if (!shut && holds(side, plan.road[r][0]) != holds(side, plan.road[r][1])) {
                across++;
            }
        }
        return across;
    }

    // ---- The march as it is ----

    private void tell() {
        if (told) {
            return;
        }
        ways.measure(plan, acts.barred);
        asItIs();
        walk.go(plan, trial);
        told = true;
    }

    private void asItIs() {
        trial.begin(plan, acts.answered, ways);
    }

    public int at(int n) {
        if (!isStep(n)) {
            return NO_SUCH;
        }
        tell();
        return walk.where[n];
    }

    public int crowd(int n) {
        if (!isStep(n)) {
            return NO_SUCH;
        }
        tell();
        return walk.crowd[n];
    }

    private boolean isIn(int p, int n) {
        return holds(walk.crowd[n], p);
    }

    private int voteOf(int p, int n) {
        int place = walk.where[n];
        return place == NONE ? NONE : ways.nextOf(place, plan.person[p][WANTS]);
    }

    private int votesFor(int n, int place) {
        int votes = 0;
        for (int p = 0; p < plan.persons; p++) {
            if (isIn(p, n) && voteOf(p, n) == place) {
                votes++;
            }
        }
        return votes;
    }

    public int votes(int n, int place) {
        if (!isStep(n) || !isPlace(place)) {
            return NO_SUCH;
        }
        tell();
        return votesFor(n, place);
    }

    public int joins(int person) {
        if (!isPerson(person)) {
            return NO_SUCH;
        }
        tell();
        return walk.joined[person];
    }

    public int leaves(int person) {
        if (!isPerson(person)) {
            return NO_SUCH;
        }
        tell();
        return walk.left[person];
    }

    public int over() {
        if (!isMarch()) {
            return NO_SUCH;
        }
        tell();
        return walk.overAt;
    }

    public int why() {
        if (!isMarch()) {
            return NO_SUCH;
        }
        tell();
        return walk.cause;
    }

    public int comes(int place) {
        if (!isPlace(place)) {
            return NO_SUCH;
        }
        tell();
        return walk.firstAt(place, 0);
    }

    public int often(int place) {
        if (!isPlace(place)) {
            return NO_SUCH;
        }
        tell();
        int times = 0;
        for (int n = 0; n < STEPS; n++) {
            if (walk.where[n] == place) {
                times++;
            }
        }
        return times;
    }

    public int paces(int n) {
        if (!isStep(n)) {
            return NO_SUCH;
        }
        tell();
        return goneBetween(0, n);
    }

    private int goneBetween(int first, int last) {
        int gone = 0;
        for (int n = first; n < last && n < LAST_STEP; n++) {
            int from = walk.where[n];
            int to = walk.where[n + 1];
            if (from != NONE && to != NONE) {
                gone += ways.besideBy(from, to);
            }
        }
        return gone;
    }

    public int most() {
        if (!isMarch()) {
            return NO_SUCH;
        }
        tell();
        return Integer.bitCount(walk.crowd[fullestStep()]);
    }

    public int peak() {
        if (!isMarch()) {
            return NO_SUCH;
        }
        tell();
        int n = fullestStep();
        return walk.crowd[n] == 0 ? NONE : n;
    }

    private int fullestStep() {
        int fullest = 0;
        for (int n = 1; n < STEPS; n++) {
            if (Integer.bitCount(walk.crowd[n]) > Integer.bitCount(walk.crowd[fullest])) {
                fullest = n;
            }
        }
        return fullest;
    }

    public int boards(int n) {
        if (!isStep(n)) {
            return NO_SUCH;
        }
        tell();
        int bits = 0;
        for (int p = 0; p < plan.persons; p++) {
            if (isIn(p, n)) {
                bits |= 1 << plan.person[p][REASON];
            }
        }
        return bits;
    }

    public int cause(int n) {
        if (!isStep(n)) {
            return NO_SUCH;
        }
        tell();
        int cause = NONE;
        int most = 0;
        for (int reason = 0; reason < REASONS; reason++) {
            int having = inItWith(n, reason);
            if (having > most) {
                most = having;
                cause = reason;
            }
        }
        return cause;
    }

    private int inItWith(int n, int reason) {
        int having = 0;
        for (int p = 0; p < plan.persons; p++) {
            if (isIn(p, n) && plan.person[p][REASON] == reason) {
                having++;
            }
        }
        return having;
    }

    public int weighs(int n) {
        if (!isStep(n)) {
            return NO_SUCH;
        }
        tell();
        int weight = 0;
        for (int p = 0; p < plan.persons; p++) {
            if (isIn(p, n)) {
                weight += plan.person[p][BOARD];
            }
        }
        return weight;
    }

    public int splits(int n) {
        if (!isStep(n)) {
            return NO_SUCH;
        }
        tell();
        int pairs = 0;
        int voters = 0;
        for (int place = 0; place < plan.places; place++) {
            int votes = votesFor(n, place);
            pairs += votes * voters;
            voters += votes;
        }
        return pairs;
    }

    public int carries(int n) {
        if (!isStep(n)) {
            return NO_SUCH;
        }
        tell();
        return walk.goes[n] == NONE ? NONE : votesFor(n, walk.goes[n]);
    }

    public int turned(int n) {
        if (!isStep(n)) {
            return NO_SUCH;
        }
        tell();
        if (walk.goes[n] == NONE) {
            return 0;
        }
        int bits = 0;
        for (int p = 0; p < plan.persons; p++) {
            int vote = voteOf(p, n);
            if (isIn(p, n) && vote != NONE && vote != walk.goes[n]) {
                bits |= 1 << p;
            }
        }
        return bits;
    }

    public int parties(int n) {
        if (!isStep(n)) {
            return NO_SUCH;
        }
        tell();
        int wanted = 0;
        for (int p = 0; p < plan.persons; p++) {
            if (isIn(p, n)) {
                wanted |= 1 << plan.person[p][WANTS];
            }
        }
        return Integer.bitCount(wanted);
    }

    public int eldest(int n) {
        if (!isStep(n)) {
            return NO_SUCH;
        }
        tell();
        int eldest = NONE;
        for (int p = 0; p < plan.persons; p++) {
            if (isIn(p, n) && (eldest == NONE || walk.rank[p] < walk.rank[eldest])) {
                eldest = p;
            }
        }
        return eldest;
    }

    public int together(int person, int other) {
        if (!isPerson(person) || !isPerson(other)) {
            return NO_SUCH;
        }
        tell();
        int steps = 0;
        for (int n = 0; n < STEPS; n++) {
            if (isIn(person, n) && isIn(other, n)) {
                steps++;
            }
        }
        return steps;
    }

    public int walks(int person) {
        if (!isPerson(person)) {
            return NO_SUCH;
        }
        tell();
        int first = walk.joined[person];
        if (first == NONE) {
            return NONE;
        }
        int last = walk.left[person];
        return goneBetween(first, last == NONE ? LAST_STEP : last);
    }

    public int loop() {
        if (!isMarch()) {
            return NO_SUCH;
        }
        tell();
        if (walk.overAt != NONE) {
            return NONE;
        }
        for (int k = 1; k <= LAST_STEP; k++) {
            int n = LAST_STEP - k;
            boolean alike = walk.where[n] == walk.where[LAST_STEP] && walk.crowd[n] == walk.crowd[LAST_STEP];
            if (alike && lastFall() <= n) {
                return k;
            }
        }
        return NONE;
    }

    private int lastFall() {
        int last = NONE;
        for (int p = 0; p < plan.persons; p++) {
            last = Math.max(last, walk.joined[p]);
        }
        return last;
    }

    public int farthest() {
        if (!isMarch()) {
            return NO_SUCH;
        }
        tell();
        int farthest = NONE;
        int longest = NONE;
        for (int place = 0; place < plan.places; place++) {
            int length = ways.lengthOf(plan.start, place);
            if (holds(walk.seen, place) && length > longest) {
                longest = length;
                farthest = place;
            }
        }
        return farthest;
    }

    public int waits(int person) {
        if (!isPerson(person)) {
            return NO_SUCH;
        }
        tell();
        int steps = 0;
        int fell = walk.joined[person];
        for (int n = 0; n < STEPS; n++) {
            if (walk.where[n] == plan.person[person][HOME] && (fell == NONE || fell > n)) {
                steps++;
            }
        }
        return steps;
    }

    public int missed() {
        if (!isMarch()) {
            return NO_SUCH;
        }
        tell();
        int bits = 0;
        for (int p = 0; p < plan.persons; p++) {
            if (walk.joined[p] == NONE && holds(walk.seen, plan.person[p][HOME])) {
                bits |= 1 << p;
            }
        }
        return bits;
    }

    // ---- The march as it would be ----

    public int needed(int person) {
        if (!isPerson(person)) {
            return NO_SUCH;
        }
        tell();
        if (walk.joined[person] == NONE) {
            return 0;
        }
        int bits = 0;
        for (int p = 0; p < plan.persons; p++) {
            if (p != person && !fallsInWithout(person, p)) {
                bits |= 1 << p;
            }
        }
        return bits;
    }

    private boolean fallsInWithout(int person, int other) {
        asItIs();
        trial.kept = 1 << other;
        would.go(plan, trial);
        return would.joined[person] != NONE;
    }

    public int trap(int n, int place) {
        if (!isStep(n) || !isPlace(place)) {
            return NO_SUCH;
        }
        tell();
        for (int r = 0; r < plan.roads; r++) {
            otherWays.measure(plan, acts.barred | 1 << r);
            asItIs();
            trial.turnsAt(n, otherWays);
            would.go(plan, trial);
            if (would.firstAt(place, n) == NONE) {
                return r;
            }
        }
        return NONE;
    }

    private boolean comesAnswered(int place, int reasons) {
        asItIs();
        trial.answered = reasons;
        trial.goal = place;
        would.go(plan, trial);
        return holds(would.seen, place);
    }

    public int stop(int place) {
        if (!isPlace(place)) {
            return NO_SUCH;
        }
        int set = stoppingSet(place);
        return set == NONE ? NONE : plan.costOf(set);
    }

    public int stops(int place) {
        return isPlace(place) ? stoppingSet(place) : NO_SUCH;
    }

    private int stoppingSet(int place) {
        tell();
        int best = NONE;
        for (int set = 0; set < REASON_SETS; set++) {
            boolean cheaper = best == NONE || plan.costOf(set) < plan.costOf(best);
            if (cheaper && !comesAnswered(place, set)) {
                best = set;
            }
        }
        return best;
    }

    private int overAnswered(int reasons) {
        asItIs();
        trial.answered = reasons;
        would.go(plan, trial);
        return would.overAt;
    }

    public int soonest() {
        if (!isMarch()) {
            return NO_SUCH;
        }
        int set = endingSet();
        return set == NONE ? NONE : overAnswered(set);
    }

    public int ends() {
        return isMarch() ? endingSet() : NO_SUCH;
    }

    private int endingSet() {
        tell();
        int best = NONE;
        int soonest = STEPS;
        for (int set = 0; set < REASON_SETS; set++) {
            int step = overAnswered(set);
            boolean cheaper = best != NONE && plan.costOf(set) < plan.costOf(best);
            if (step != NONE && (step < soonest || (step == soonest && cheaper))) {
                soonest = step;
                best = set;
            }
        }
        return best;
    }

    public int content(int reasons) {
        if (!isMarch() || reasons < 0 || reasons >= REASON_SETS) {
            return NO_SUCH;
        }
        return plan.contentBy(reasons);
    }

    public int buys(int n) {
        if (!isMarch() || n < 0 || n > MOST_PAID) {
            return NO_SUCH;
        }
        int most = 0;
        for (int set = 0; set < REASON_SETS; set++) {
            if (plan.costOf(set) <= n) {
                most = Math.max(most, plan.contentBy(set));
            }
        }
        return most;
    }

    public int shut(int place) {
        if (!isPlace(place)) {
            return NO_SUCH;
        }
        int set = shuttingSet(place);
        return set == NONE ? NONE : Integer.bitCount(set);
    }

    public int shuts(int place) {
        return isPlace(place) ? shuttingSet(place) : NO_SUCH;
    }

    private int shuttingSet(int place) {
        // Where it starts it comes whatever is shut: no set need be tried.
        if (place == plan.start) {
            return NONE;
        }
        for (int size = 0; size <= plan.roads; size++) {
            for (int set = 0; set < 1 << plan.roads; set++) {
                if (Integer.bitCount(set) == size && !comesBarred(place, set)) {
                    return set;
                }
            }
        }
        return NONE;
    }

    private boolean comesBarred(int place, int roads) {
        otherWays.measure(plan, roads);
        trial.begin(plan, acts.answered, otherWays);
        trial.goal = place;
        would.go(plan, trial);
        return holds(would.seen, place);
    }

    // ---- What was seen ----

    private int lacksRow(int slot) {
        if (!isSlot(slot) || !isMarch()) {
            return NO_SUCH;
        }
        return slots[slot].kept ? 0 : NOTHING;
    }

    private boolean tellsFalls(Slot row) {
        if (row.size % 2 != 0) {
            return false;
        }
        for (int i = 0; i + 1 < row.size; i += 2) {
            long who = row.numbers[i];
            long when = row.numbers[i + 1];
            if (who < 0 || who >= plan.persons || when < NONE || when > LAST_STEP) {
                return false;
            }
        }
        return true;
    }

    private boolean tellsPlaces(Slot row) {
        if (row.size % 2 != 0) {
            return false;
        }
        for (int i = 0; i + 1 < row.size; i += 2) {
            long when = row.numbers[i];
            long where = row.numbers[i + 1];
            if (when < 0 || when > LAST_STEP || where < NONE || where >= plan.places) {
                return false;
            }
        }
        return true;
    }

    public int starts(int slot) {
        int lack = lacksRow(slot);
        if (lack != 0) {
            return lack;
        }
        return tellsFalls(slots[slot]) ? startsBy(slots[slot]) : NO_SUCH;
    }

    public int ask(int slot) {
        int lack = lacksRow(slot);
        if (lack != 0) {
            return lack;
        }
        return tellsFalls(slots[slot]) ? bestAsked(startsBy(slots[slot])) : NO_SUCH;
    }

    private int startsBy(Slot row) {
        tell();
        int bits = 0;
        for (int start = 0; start < plan.places; start++) {
            asItIs();
            trial.start = start;
            would.go(plan, trial);
            System.arraycopy(would.joined, 0, fallsIn[start], 0, MOST_PERSONS);
            if (agreesOnFalls(row)) {
                bits |= 1 << start;
            }
        }
        return bits;
    }

    private boolean agreesOnFalls(Slot row) {
        for (int i = 0; i + 1 < row.size; i += 2) {
            int who = (int) row.numbers[i];
            if (!isPerson(who) || would.joined[who] != row.numbers[i + 1]) {
                return false;
            }
        }
        return true;
    }

    private int bestAsked(int starts) {
        int best = NONE;
        int fewest = Integer.bitCount(starts);
        for (int p = 0; p < plan.persons; p++) {
            int left = leftAtWorst(starts, p);
            if (left < fewest) {
                fewest = left;
                best = p;
            }
        }
        return best;
    }

    private int leftAtWorst(int starts, int p) {
        int worst = 0;
        for (int start = 0; start < plan.places; start++) {
            if (holds(starts, start)) {
                worst = Math.max(worst, likeStarts(starts, start, p));
            }
        }
        return worst;
    }

    private int likeStarts(int starts, int start, int p) {
        int like = 0;
        for (int other = 0; other < plan.places; other++) {
            if (holds(starts, other) && fallsIn[other][p] == fallsIn[start][p]) {
                like++;
            }
        }
        return like;
    }

    public int rules(int slot) {
        int lack = lacksRow(slot);
        if (lack != 0) {
            return lack;
        }
        return tellsPlaces(slots[slot]) ? rulesBy(slots[slot]) : NO_SUCH;
    }

    private int rulesBy(Slot row) {
        tell();
        int bits = 0;
        for (int rule = 0; rule < RULES; rule++) {
            asItIs();
            trial.rule = rule;
            would.go(plan, trial);
            if (agreesOnPlaces(row)) {
                bits |= 1 << rule;
            }
        }
        return bits;
    }

    private boolean agreesOnPlaces(Slot row) {
        for (int i = 0; i + 1 < row.size; i += 2) {
            int when = (int) row.numbers[i];
            if (!isStep(when) || would.where[when] != row.numbers[i + 1]) {
                return false;
            }
        }
        return true;
    }

    // ---- False votes ----

    public int shams(int person, int n) {
        if (!isPerson(person) || !isStep(n)) {
            return NO_SUCH;
        }
        tell();
        return shamsOf(person, n);
    }

    public int shammers(int n) {
        if (!isStep(n)) {
            return NO_SUCH;
        }
        tell();
        int bits = 0;
        for (int p = 0; p < plan.persons; p++) {
            if (shamsOf(p, n) != 0) {
                bits |= 1 << p;
            }
        }
        return bits;
    }

    private int shamsOf(int p, int n) {
        int here = walk.where[n];
        if (here == NONE || !isIn(p, n)) {
            return 0;
        }
        int vote = voteOf(p, n);
        int bits = 0;
        for (int place = 0; place < plan.places; place++) {
            if (place != vote && ways.areBeside(here, place) && shamHelps(p, n, place)) {
                bits |= 1 << place;
            }
        }
        return bits;
    }

    private boolean shamHelps(int p, int n, int place) {
        int wants = plan.person[p][WANTS];
        asItIs();
        trial.votesFalsely(p, n, place);
        would.go(plan, trial);
        int falsely = would.firstAt(wants, n + 1);
        int truly = walk.firstAt(wants, n + 1);
        return falsely != NONE && (truly == NONE || falsely < truly);
    }

    // ---- Rain ----

    public long chance(int place, int n, int what) {
        if (!isPlace(place) || !isRainyStep(n) || !isPartOfFraction(what)) {
            return NO_SUCH;
        }
        tell();
        long hits = 0;
        for (int rain = 0; rain < 1 << n; rain++) {
            long weight = weightOf(rain, n);
            if (weight > 0) {
                goInRain(rain, n);
                hits += holds(would.seen, place) ? weight : 0;
            }
        }
        return partOf(hits, tens(n), what);
    }

    public long mean(int n, int what) {
        if (!isRainyStep(n) || !isPartOfFraction(what)) {
            return NO_SUCH;
        }
        tell();
        long sum = 0;
        for (int rain = 0; rain < 1 << (n + 1); rain++) {
            long weight = weightOf(rain, n + 1);
            if (weight > 0) {
                goInRain(rain, n);
                sum += weight * Integer.bitCount(would.crowd[n]);
            }
        }
        return partOf(sum, tens(n + 1), what);
    }

    private void goInRain(long rain, int last) {
        asItIs();
        trial.rain = rain;
        trial.last = last;
        would.go(plan, trial);
    }

    private long weightOf(int rain, int steps) {
        long weight = 1;
        for (int n = 0; n < steps; n++) {
            weight *= holds(rain, n) ? plan.odds : 10 - plan.odds;
        }
        return weight;
    }

    private static long tens(int n) {
        long power = 1;
        for (int i = 0; i < n; i++) {
            power *= 10;
        }
        return power;
    }

    private static long partOf(long above, long below, int what) {
        long common = commonDivisor(below, above);
        if (common <= 0) {
            return NO_SUCH;
        }
        return (what == 0 ? above : below) / common;
    }

    private static long commonDivisor(long a, long b) {
        // Far fewer rounds are enough: a long has 64 bits.
        for (int round = 0; round < 200 && b != 0; round++) {
            long rest = a % b;
            a = b;
            b = rest;
        }
        return a;
    }

    public int drawn(int seed, int what) {
        if (!isMarch() || seed < 0 || seed > GREATEST_SEED || what < 0 || what > 2) {
            return NO_SUCH;
        }
        tell();
        goInRain(rainFrom(seed), LAST_STEP);
        switch (what) {
            case 0: return would.overAt;
            case 1: return would.fallen;
            default: return would.seen;
        }
    }

    public int luck(int seed, int n, int place) {
        if (!isPlace(place) || seed < 0 || seed > GREATEST_SEED || n < 1 || n > MOST_DRAWN) {
            return NO_SUCH;
        }
        tell();
        int times = 0;
        for (int i = 0; i < n; i++) {
            goInRain(rainFrom((long) seed + i), LAST_STEP);
            if (holds(would.seen, place)) {
                times++;
            }
        }
        return times;
    }

    // All STEPS are drawn for: those behind the end change nothing.
    private long rainFrom(long seed) {
        long x = seed;
        long rain = 0;
        for (int n = 0; n < STEPS; n++) {
            x = (1103515245L * x + 12345L) % 2147483648L;
            if (x / 65536L % 10L < plan.odds) {
                rain |= 1L << n;
            }
        }
        return rain;
    }

    // ---- Acts ----

    public int answer(int reason, int on) {
        if (!isMarch() || reason < 0 || reason >= REASONS || !isOnOrOff(on)) {
            return NO_SUCH;
        }
        if (acts.count >= MOST_ACTS) {
            return NOT_NOW;
        }
        int was = holds(acts.answered, reason) ? 1 : 0;
        acts.keep();
        acts.answered = on == 0 ? acts.answered & ~(1 << reason) : acts.answered | 1 << reason;
        told = false;
        return was;
    }

    public int bar(int road, int on) {
        if (!isRoad(road) || !isOnOrOff(on)) {
            return NO_SUCH;
        }
        if (acts.count >= MOST_ACTS) {
            return NOT_NOW;
        }
        int was = holds(acts.barred, road) ? 1 : 0;
        acts.keep();
        acts.barred = on == 0 ? acts.barred & ~(1 << road) : acts.barred | 1 << road;
        told = false;
        return was;
    }

    public int answered() {
        return isMarch() ? acts.answered : NO_SUCH;
    }

    public int barred() {
        return isMarch() ? acts.barred : NO_SUCH;
    }

    public int costs() {
        return isMarch() ? plan.costOf(acts.answered) : NO_SUCH;
    }

    public int undo() {
        if (!isMarch()) {
            return NO_SUCH;
        }
        if (acts.count == 0) {
            return NOT_NOW;
        }
        acts.takeBack();
        told = false;
        return acts.count;
    }

    public int anew() {
        if (!isMarch()) {
            return NO_SUCH;
        }
        int were = acts.count;
        acts.clear();
        told = false;
        return were;
    }

    public int need(int person, int n) {
        if (!isPerson(person) || n < 0 || n > MOST_NEEDS) {
            return NO_SUCH;
        }
        if (acts.count > 0) {
            return NOT_NOW;
        }
        int were = plan.person[person][NEEDS];
        plan.person[person][NEEDS] = n;
        told = false;
        return were;
    }

    // ---- Images ----

    public int image(int k) {
        if (k < 0 || k >= IMAGES) {
            return NO_SUCH;
        }
        images[k].kept = true;
        images[k].plan.take(plan);
        images[k].acts.take(acts);
        return 0;
    }

    public int back(int k) {
        if (k < 0 || k >= IMAGES) {
            return NO_SUCH;
        }
        if (!images[k].kept) {
            return NOTHING;
        }
        plan.take(images[k].plan);
        acts.take(images[k].acts);
        told = false;
        return 0;
    }

    // ---- Rows ----

    public int row(int slot, int width, int n) {
        if (!isSlot(slot) || width < 0 || width >= WIDTHS || n > MOST_NUMBERS) {
            return NO_SUCH;
        }
        if (n < 0) {
            return BELOW;
        }
        slots[slot].begin(width, n);
        return 0;
    }

    public int write(int slot, int i, long v) {
        if (!isSlot(slot)) {
            return NO_SUCH;
        }
        if (!slots[slot].kept) {
            return NOTHING;
        }
        if (i < 0 || i >= slots[slot].size) {
            return BEYOND;
        }
        slots[slot].put(i, v);
        return 0;
    }

    public int paste(int slot, int i, int to, int k, int n) {
        if (!isSlot(slot) || !isSlot(to)) {
            return NO_SUCH;
        }
        if (!slots[slot].kept || !slots[to].kept) {
            return NOTHING;
        }
        if (slots[slot].width != slots[to].width) {
            return UNLIKE;
        }
        if (!slots[slot].hasFrom(i, n) || !slots[to].hasFrom(k, n)) {
            return BEYOND;
        }
        System.arraycopy(slots[slot].numbers, i, slots[to].numbers, k, n);
        return 0;
    }

    // A march as it was told: what no act changes.
    private static final class Plan {
        int lines;
        int places;
        int start;
        int rule;
        int odds;
        int roads;
        int persons;
        final int[][] road = new int[MOST_ROADS][ROAD_NUMBERS];
        final int[][] person = new int[MOST_PERSONS][PERSON_NUMBERS];
        final int[] grant = new int[REASONS];

        void clear() {
            lines = 0;
            places = 0;
            start = 0;
            rule = 0;
            odds = 0;
            roads = 0;
            persons = 0;
            Arrays.fill(grant, 0);
        }

        void take(Plan other) {
            lines = other.lines;
            places = other.places;
            start = other.start;
            rule = other.rule;
            odds = other.odds;
            roads = other.roads;
            persons = other.persons;
            for (int r = 0; r < MOST_ROADS; r++) {
                System.arraycopy(other.road[r], 0, road[r], 0, ROAD_NUMBERS);
            }
            for (int p = 0; p < MOST_PERSONS; p++) {
                System.arraycopy(other.person[p], 0, person[p], 0, PERSON_NUMBERS);
            }
            System.arraycopy(other.grant, 0, grant, 0, REASONS);
        }

        int costOf(int reasons) {
            int cost = 0;
            for (int reason = 0; reason < REASONS; reason++) {
                if (holds(reasons, reason)) {
                    cost += grant[reason];
                }
            }
            return cost;
        }

        int contentBy(int reasons) {
            int contented = 0;
            for (int p = 0; p < persons; p++) {
                if (holds(reasons, person[p][REASON])) {
                    contented++;
                }
            }
            return contented;
        }
    }

    // What is answered and shut, and what was ahead of each act.
    private static final class Acts {
        int count;
        int answered;
        int barred;
        private final int[] answeredAhead = new int[MOST_ACTS];
        private final int[] barredAhead = new int[MOST_ACTS];

        void clear() {
            count = 0;
            answered = 0;
            barred = 0;
        }

        void keep() {
            if (count < MOST_ACTS) {
                answeredAhead[count] = answered;
                barredAhead[count] = barred;
                count++;
            }
        }

        void takeBack() {
            if (count > 0) {
                count--;
                answered = answeredAhead[count];
                barred = barredAhead[count];
            }
        }

        void take(Acts other) {
            count = other.count;
            answered = other.answered;
            barred = other.barred;
            System.arraycopy(other.answeredAhead, 0, answeredAhead, 0, MOST_ACTS);
            System.arraycopy(other.barredAhead, 0, barredAhead, 0, MOST_ACTS);
        }
    }

    private static final class Image {
        boolean kept;
        final Plan plan = new Plan();
        final Acts acts = new Acts();
    }

    private static final class Slot {
        boolean kept;
        int width;
        int size;
        final long[] numbers = new long[MOST_NUMBERS];

        void begin(int newWidth, int newSize) {
            kept = true;
            width = newWidth;
            size = newSize;
            Arrays.fill(numbers, 0L);
        }

        void put(int i, long v) {
            if (i < 0 || i >= MOST_NUMBERS) {
                return;
            }
            switch (width) {
                case 0: numbers[i] = (byte) v; break;
                case 1: numbers[i] = (short) v; break;
                case 2: numbers[i] = (int) v; break;
                default: numbers[i] = v; break;
            }
        }

        // Told without a sum, which could wrap around.
        boolean hasFrom(int i, int n) {
            return i >= 0 && n >= 0 && i <= size && n <= size - i;
        }
    }

    // Reads a text into a plan, up to the first fault.
    private static final class Reader {
        int fault;
        int place = NONE;
        private final byte[] text;
        private int length;
        private int pos;
        private int numberAt;

        Reader(byte[] bytes) {
            text = bytes;
        }

        void read(int n, Plan plan) {
            length = n;
            pos = 0;
            fault = 0;
            place = NONE;
            plan.clear();
            skipBlanks();
            // Every LINE without a fault takes bytes, so there are no more of them than bytes.
            for (int line = 0; line < TAPE_BYTES && fault == 0 && pos < length; line++) {
                readLine(plan);
                skipBlanks();
            }
        }

        private void readLine(Plan plan) {
            if (plan.lines == 0) {
                readHead(plan);
            } else if (isWord("road")) {
                readRoad(plan);
            } else if (isWord("person")) {
                readPerson(plan);
            } else if (isWord("grant")) {
                readGrant(plan);
            } else {
                fail(1, pos);
            }
            takeSign();
            plan.lines++;
        }

        private void readHead(Plan plan) {
            takeWord("march");
            takeWord("places");
            plan.places = takeNumber(2, MOST_PLACES);
            takeWord("start");
            plan.start = takeNumber(0, plan.places - 1);
            takeWord("rule");
            plan.rule = takeNumber(0, RULES - 1);
            takeWord("odds");
            plan.odds = takeNumber(0, 10);
        }

        private void readRoad(Plan plan) {
            if (plan.roads >= MOST_ROADS) {
                fail(3, pos);
                return;
            }
            int[] road = plan.road[plan.roads];
            takeWord("road");
            road[0] = takeNumber(0, plan.places - 1);
            takeWord("to");
            road[1] = takeNumber(0, plan.places - 1);
            if (road[1] == road[0]) {
                fail(2, numberAt);
            }
            takeWord("long");
            road[LONG] = takeNumber(1, 99);
            plan.roads++;
        }

        private void readPerson(Plan plan) {
            if (plan.persons >= MOST_PERSONS) {
                fail(3, pos);
                return;
            }
            int[] person = plan.person[plan.persons];
            takeWord("person");
            takeWord("at");
            person[HOME] = takeNumber(0, plan.places - 1);
            takeWord("wants");
            person[WANTS] = takeNumber(0, plan.places - 1);
            takeWord("reason");
            person[REASON] = takeNumber(0, REASONS - 1);
            takeWord("needs");
            person[NEEDS] = takeNumber(0, MOST_NEEDS);
            takeWord("board");
            person[BOARD] = takeNumber(1, 99);
            plan.persons++;
        }

        private void readGrant(Plan plan) {
            takeWord("grant");
            int reason = takeNumber(0, REASONS - 1);
            takeWord("costs");
            int cost = takeNumber(0, 99);
            if (fault == 0) {
                plan.grant[reason] = cost;
            }
        }

        private void fail(int kind, int at) {
            if (fault == 0) {
                fault = kind;
                place = at;
            }
        }

        private int byteAt(int i) {
            return i >= 0 && i < length && i < text.length ? text[i] : NONE;
        }

        private boolean isLetter(int i) {
            return byteAt(i) >= 'a' && byteAt(i) <= 'z';
        }

        private boolean isDigit(int i) {
            return byteAt(i) >= '0' && byteAt(i) <= '9';
        }

        private void skipBlanks() {
            for (int i = pos; i < length && (byteAt(i) == ' ' || byteAt(i) == '\n'); i++) {
                pos = i + 1;
            }
        }

        // The TOKEN is the longest: no letter may stand behind the word.
        private boolean isWord(String word) {
            for (int i = 0; i < word.length(); i++) {
                if (byteAt(pos + i) != word.charAt(i)) {
                    return false;
                }
            }
            return !isLetter(pos + word.length());
        }

        private void takeWord(String word) {
            skipBlanks();
            if (isWord(word)) {
                pos += word.length();
            } else {
                fail(1, pos);
            }
        }

        private void takeSign() {
            skipBlanks();
            if (byteAt(pos) == ';') {
                pos++;
            } else {
                fail(1, pos);
            }
        }

        private int takeNumber(int least, int most) {
            skipBlanks();
            numberAt = pos;
            if (!isDigit(pos)) {
                fail(1, pos);
                return least;
            }
            int number = 0;
            for (int i = pos; i < length && isDigit(i); i++) {
                // Kept small: a number of many digits is beyond every bound all the same.
                number = Math.min(number * 10 + byteAt(i) - '0', 1000);
                pos = i + 1;
            }
            if (number < least || number > most) {
                fail(2, numberAt);
                return least;
            }
            return number;
        }
    }

    // Lengths and first PLACES of shortest ways, over the ROADS that are open.
    private static final class Ways {
        private static final int FAR = 1000000;
        private int places;
        private final int[][] beside = new int[MOST_PLACES][MOST_PLACES];
        private final int[][] length = new int[MOST_PLACES][MOST_PLACES];
        private final int[][] first = new int[MOST_PLACES][MOST_PLACES];

        void measure(Plan plan, int barred) {
            places = plan.places;
            for (int a = 0; a < places; a++) {
                Arrays.fill(beside[a], FAR);
            }
            for (int r = 0; r < plan.roads; r++) {
                if (!holds(barred, r)) {
                    join(plan.road[r]);
                }
            }
            findLengths();
            findFirsts();
        }

        private void join(int[] road) {
            int a = road[0];
            int b = road[1];
            beside[a][b] = Math.min(beside[a][b], road[LONG]);
            beside[b][a] = beside[a][b];
        }

        private void findLengths() {
            for (int a = 0; a < places; a++) {
                System.arraycopy(beside[a], 0, length[a], 0, places);
                length[a][a] = 0;
            }
            for (int via = 0; via < places; via++) {
                for (int a = 0; a < places; a++) {
                    for (int b = 0; b < places; b++) {
                        length[a][b] = Math.min(length[a][b], length[a][via] + length[via][b]);
                    }
                }
            }
        }

        private void findFirsts() {
            for (int a = 0; a < places; a++) {
                for (int b = 0; b < places; b++) {
                    first[a][b] = a == b || length[a][b] >= FAR ? NONE : findFirst(a, b);
                }
            }
        }

        private int findFirst(int a, int b) {
            for (int mid = 0; mid < places; mid++) {
                if (beside[a][mid] < FAR && beside[a][mid] + length[mid][b] == length[a][b]) {
                    return mid;
                }
            }
            return NONE;
        }

        private boolean has(int a, int b) {
            return a >= 0 && a < places && b >= 0 && b < places;
        }

        int lengthOf(int a, int b) {
            return has(a, b) && length[a][b] < FAR ? length[a][b] : NONE;
        }

        int nextOf(int a, int b) {
            return has(a, b) ? first[a][b] : NONE;
        }

        boolean areBeside(int a, int b) {
            return has(a, b) && beside[a][b] < FAR;
        }

        int besideBy(int a, int b) {
            return areBeside(a, b) ? beside[a][b] : 0;
        }
    }

    // By what a walk goes: as it is, but for what is set after begin().
    private static final class Case {
        int start;
        int rule;
        int answered;
        int kept;
        int goal;
        int last;
        long rain;
        private Ways ways;
        private Ways laterWays;
        private int laterFrom;
        private int shammer;
        private int shamStep;
        int shamPlace;

        void begin(Plan plan, int reasons, Ways open) {
            start = plan.start;
            rule = plan.rule;
            answered = reasons;
            kept = 0;
            goal = NONE;
            last = LAST_STEP;
            rain = 0;
            ways = open;
            laterWays = open;
            laterFrom = 0;
            shammer = NONE;
            shamStep = NONE;
            shamPlace = NONE;
        }

        void turnsAt(int n, Ways then) {
            laterFrom = n;
            laterWays = then;
        }

        void votesFalsely(int p, int n, int place) {
            shammer = p;
            shamStep = n;
            shamPlace = place;
        }

        boolean rainsAt(int n) {
            return ((rain >> n) & 1L) == 1L;
        }

        Ways waysAt(int n) {
            return n >= laterFrom ? laterWays : ways;
        }

        boolean isSham(int p, int n) {
            return p == shammer && n == shamStep;
        }
    }

    // What becomes of a march, STEP by STEP.
    private static final class Walk {
        final int[] where = new int[STEPS];
        final int[] crowd = new int[STEPS];
        final int[] goes = new int[STEPS];
        final int[] joined = new int[MOST_PERSONS];
        final int[] left = new int[MOST_PERSONS];
        final int[] rank = new int[MOST_PERSONS];
        int overAt;
        int cause;
        int seen;
        int fallen;
        private int in;
        private int fell;
        private final int[] vote = new int[MOST_PERSONS];
        private final int[] tally = new int[MOST_PLACES];

        void go(Plan plan, Case given) {
            clear();
            int place = given.start;
            for (int n = 0; n < STEPS && n <= given.last && place != NONE; n++) {
                where[n] = place;
                seen |= 1 << place;
                if (place == given.goal) {
                    return;
                }
                if (!given.rainsAt(n)) {
                    fallIn(plan, given, n, place);
                }
                leaveAt(plan, n, place);
                crowd[n] = in;
                gatherVotes(plan, given, n, place);
                goes[n] = chosen(plan, given.rule);
                if (goes[n] == NONE) {
                    overAt = n;
                    cause = in == 0 ? 0 : 1;
                }
                place = goes[n];
            }
        }

        private void clear() {
            Arrays.fill(where, NONE);
            Arrays.fill(crowd, 0);
            Arrays.fill(goes, NONE);
            Arrays.fill(joined, NONE);
            Arrays.fill(left, NONE);
            Arrays.fill(rank, NONE);
            overAt = NONE;
            cause = NONE;
            seen = 0;
            fallen = 0;
            in = 0;
            fell = 0;
        }

        private void fallIn(Plan plan, Case given, int n, int place) {
            boolean again = true;
            // In each round but the last somebody falls in.
            for (int round = 0; round <= MOST_PERSONS && again; round++) {
                again = false;
                for (int p = 0; p < plan.persons; p++) {
                    if (wouldFallIn(plan.person[p], p, given, place)) {
                        in |= 1 << p;
                        fallen |= 1 << p;
                        joined[p] = n;
                        rank[p] = fell;
                        fell++;
                        again = true;
                    }
                }
            }
        }

        private boolean wouldFallIn(int[] person, int p, Case given, int place) {
            return person[HOME] == place
                && !holds(fallen, p)
                && !holds(given.kept, p)
                && !holds(given.answered, person[REASON])
                && person[NEEDS] <= Integer.bitCount(in);
        }

        private void leaveAt(Plan plan, int n, int place) {
            for (int p = 0; p < plan.persons; p++) {
                if (holds(in, p) && plan.person[p][WANTS] == place) {
                    in &= ~(1 << p);
                    left[p] = n;
                }
            }
        }

        private void gatherVotes(Plan plan, Case given, int n, int place) {
            Ways open = given.waysAt(n);
            for (int p = 0; p < plan.persons; p++) {
                vote[p] = NONE;
                if (given.isSham(p, n)) {
                    vote[p] = given.shamPlace;
                } else if (holds(in, p) && open != null) {
                    vote[p] = open.nextOf(place, plan.person[p][WANTS]);
                }
            }
        }

        private int chosen(Plan plan, int rule) {
            switch (rule) {
                case 0: return heaviest(plan, false);
                case 1: return heaviest(plan, true);
                case 2: return voteByRank(plan, true);
                default: return voteByRank(plan, false);
            }
        }

        private int heaviest(Plan plan, boolean byBoards) {
            Arrays.fill(tally, 0);
            for (int p = 0; p < plan.persons; p++) {
                if (vote[p] >= 0 && vote[p] < MOST_PLACES) {
                    tally[vote[p]] += byBoards ? plan.person[p][BOARD] : 1;
                }
            }
            int best = NONE;
            int most = 0;
            for (int place = 0; place < MOST_PLACES; place++) {
                if (tally[place] > most) {
                    most = tally[place];
                    best = place;
                }
            }
            return best;
        }

        private int voteByRank(Plan plan, boolean first) {
            int who = NONE;
            for (int p = 0; p < plan.persons; p++) {
                if (vote[p] != NONE && (who == NONE || (rank[p] < rank[who]) == first)) {
                    who = p;
                }
            }
            return who == NONE ? NONE : vote[who];
        }

        int firstAt(int place, int from) {
            for (int n = Math.max(from, 0); n < STEPS; n++) {
                if (where[n] == place) {
                    return n;
                }
            }
            return NONE;
        }
    }
}
