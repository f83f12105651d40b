/** A village's great stones, and what its people know of whose they are. See README.md. */
public final class StoneVillage {
    public static final int BAD = -1, NOT = -2, FULL = -3, NONE = -4, NULL = -11, CAST = -12, INDEX = -13, SIZE = -14;

    private static final int MOST_PEOPLE = 16, MOST_STONES = 8, MOST_ACTS = 60;
    private static final int FIRST_AGE_MOST = 60, OLD_AGE = 40, YEARS_A_CALL = 50, LAST_YEAR = 1000;
    private static final int MOST_SIZE = 40, MOST_PLACE = 99, IN_SEA = -1, MOVE_OFFSET = 10;
    private static final int FOUND = 0, GIVEN = 1, BRIDE = 2, PLEDGED = 3, FREED = 4, TALE = 5, SEIZED = 6;
    private static final int WHOLE = 12, MOST_HARDSHIP = 20, BRIDE_PRAISE = 5, BASE_PRAISE = 10;
    private static final int STRONG_BY = 2, VILLAGE = -1, UNHEARD = 1000;
    private static final int ALL_KINDS = 127, MOST_TELLERS = 4, MOST_DAYS = 100;
    private static final int MOST_SHEETS = 4, BYTES = 0, SHORTS = 1, INTS = 2, MOST_ITEMS = 36;
    private static final int ACT_ITEMS = 6, ACTS_A_CALL = 6;

    private final People people;
    private final Stones stones;
    private final Acts acts;
    private final Knowing knowing;
    private final Sheets sheets;
    private final int[] firstView;
    private final long[] tellable;
    private final int[] tellers;
    private int now;
    private int banned;

    public StoneVillage() {
        people = new People();
        stones = new Stones();
        acts = new Acts();
        knowing = new Knowing();
        sheets = new Sheets();
        firstView = new int[MOST_STONES * MOST_PEOPLE];
        tellable = new long[MOST_PEOPLE];
        tellers = new int[MOST_TELLERS];
        now = 0;
        banned = 0;
    }

    // ---- 1 people, stones, acts

    public int person(int age) {
        if (age < 0 || age > FIRST_AGE_MOST) return BAD;
        if (people.size >= MOST_PEOPLE) return FULL;
        return people.join(age);
    }

    public int years(int n) {
        if (n < 1 || n > YEARS_A_CALL) return BAD;
        if (now + n > LAST_YEAR) return FULL;
        now += n;
        people.grow(n);
        return now;
    }

    public int dies(int who) {
        if (!people.has(who)) return BAD;
        if (!people.alive(who)) return NOT;
        long before = people.knownToAny();
        people.bury(who);
        return Long.bitCount(before & ~people.knownToAny());
    }

    public int told(int who, int what) {
        if (!people.has(who)) return BAD;
        switch (what) {
            case 0: return people.age[who];
            case 1: return people.alive(who) ? 1 : 0;
            case 2: return people.old(who) ? 1 : 0;
            case 3: return Long.bitCount(people.known[who]);
            default: return BAD;
        }
    }

    public int stone(int size, int place) {
        if (size < 1 || size > MOST_SIZE || !isPlace(place)) return BAD;
        if (stones.size >= MOST_STONES) return FULL;
        return stones.lay(size, place);
    }

    public int moves(int stone, int place) {
        if (!stones.has(stone) || !isPlace(place)) return BAD - MOVE_OFFSET;
        int before = stones.place[stone];
        if (before == IN_SEA) return NOT - MOVE_OFFSET;
        stones.place[stone] = place;
        return before;
    }

    public int act(int kind, int stone, int a, int b, int n, int by) {
        if (!stones.has(stone) || !people.alive(a) || !people.allAlive(by)) return BAD;
        if (!isDoable(kind, stone, a, b, n)) return BAD;
        if (acts.size >= MOST_ACTS) return FULL;
        int act = acts.open(kind, stone, a);
        if (isHandOver(kind) || kind == FREED) acts.other[act] = b;
        if (isHandOver(kind) || kind == TALE) acts.number[act] = n;
        acts.year[act] = now;
        acts.stoodBy[act] = by | 1 << a;
        letWitnessesKnow(act);
        if (convinces(act)) acts.strong |= 1L << act;
        return act;
    }

    public int about(int act, int what) {
        if (!acts.has(act)) return BAD;
        switch (what) {
            case 0: return acts.kind[act];
            case 1: return acts.stone[act];
            case 2: return acts.doer[act];
            case 3: return acts.other[act];
            case 4: return acts.number[act];
            case 5: return acts.year[act];
            case 6: return hasBit(acts.strong, act) ? 1 : 0;
            case 7: return acts.stoodBy[act];
            case 8: return people.knowersOf(1L << act);
            default: return BAD;
        }
    }

    public int knows(int who, int act) {
        if (!people.has(who) || !acts.has(act)) return BAD;
        return people.heard(who, act) ? people.depthOf(who, act) : NONE;
    }

    public int tell(int from, int to, int act) {
        if (!people.has(from) || !people.has(to) || !acts.has(act) || from == to) return BAD;
        if (!people.heard(from, act) || !people.alive(to) || isBanned(act)) return NOT;
        people.hear(to, act, people.depthOf(from, act) + 1);
        return people.depthOf(to, act);
    }

    // ---- 2 knowing

    public int parts(int who, int stone, int owner) {
        if (!stones.has(stone) || !people.has(owner)) return BAD;
        int refusal = lookInto(who);
        return refusal == 0 ? knowing.owned[seat(stone, owner)] : refusal;
    }

    public int bound(int who, int stone, int owner) {
        if (!stones.has(stone) || !people.has(owner)) return BAD;
        int refusal = lookInto(who);
        return refusal == 0 ? knowing.tied[seat(stone, owner)] : refusal;
    }

    public int holds(int who, int act) {
        if (!acts.has(act)) return BAD;
        int refusal = lookInto(who);
        if (refusal != 0) return refusal;
        if (!hasBit(knownTo(who), act)) return NONE;
        return hasBit(knowing.holding, act) ? 1 : 0;
    }

    public int owner(int who, int stone) {
        if (!stones.has(stone)) return BAD;
        int refusal = lookInto(who);
        if (refusal != 0) return refusal;
        int most = 0, best = NONE;
        for (int one = 0; one < people.size; one++) {
            int has = knowing.owned[seat(stone, one)];
            if (has > most) {
                most = has;
                best = one;
            }
        }
        return best;
    }

    public int worth(int who, int stone) {
        if (!stones.has(stone)) return BAD;
        int refusal = lookInto(who);
        return refusal == 0 ? worthInView(stone) : refusal;
    }

    public int wealth(int who, int owner) {
        if (!people.has(owner)) return BAD;
        int refusal = lookInto(who);
        if (refusal != 0) return refusal;
        int all = 0;
        for (int stone = 0; stone < stones.size; stone++) {
            all += worthInView(stone) * knowing.owned[seat(stone, owner)] / WHOLE;
        }
        return all;
    }

    public int quarrel(int stone, int a, int b) {
        if (!stones.has(stone) || !people.has(a) || !people.has(b) || a == b) return BAD;
        int lead = 0, nearA = UNHEARD, nearB = UNHEARD;
        for (int who = 0; who < people.size; who++) {
            int more = people.old(who) ? advantage(who, stone, a, b) : 0;
            if (more > 0) {
                lead++;
                nearA = Math.min(nearA, hearingOf(who, stone, a));
            } else if (more < 0) {
                lead--;
                nearB = Math.min(nearB, hearingOf(who, stone, b));
            }
        }
        if (lead != 0) return lead > 0 ? a : b;
        if (nearA == nearB) return NONE;
        return nearA < nearB ? a : b;
    }

    public int weight(int stone, int a, int b) {
        if (!stones.has(stone) || !people.has(a) || !people.has(b) || a == b) return BAD;
        int weight = 0;
        for (int who = 0; who < people.size; who++) {
            if (people.old(who) && advantage(who, stone, a, b) > 0) weight++;
        }
        return weight;
    }

    public int split() {
        int unlike = 0;
        boolean first = true;
        for (int who = 0; who < people.size; who++) {
            if (!people.old(who)) continue;
            knowing.addUp(acts, people.known[who]);
            if (first) System.arraycopy(knowing.owned, 0, firstView, 0, firstView.length);
            // two of them differ somewhere only if one differs there from the first
            else unlike |= unlikeFirstView();
            first = false;
        }
        return unlike;
    }

    // ---- 3 feasts, crosses

    public int ban(int kinds) {
        if (kinds < 0 || kinds > ALL_KINDS) return BAD;
        int before = banned;
        banned = kinds;
        return before;
    }

    public int feast(int there, int teller, int stone) {
        if (there == 0 || !people.allAlive(there) || !people.has(teller) || !stones.has(stone)) return BAD;
        if ((there & 1 << teller) == 0) return NOT;
        long talk = tellableBy(teller, stone);
        int learned = 0;
        for (int act = 0; act < acts.size; act++) {
            if (hasBit(talk, act)) learned += spread(act, teller, there);
        }
        return learned;
    }

    public int kept(int stone) {
        if (!stones.has(stone)) return BAD;
        return people.knowersOf(acts.ofStone[stone] & people.knownToAny());
    }

    public int fewest(int stone) {
        if (!stones.has(stone)) return BAD;
        return findFewest(stone);
    }

    public int teller(int stone, int i) {
        if (!stones.has(stone) || i < 0) return BAD;
        int feasts = findFewest(stone);
        // ahead of how great i is: no number of tellers is known that it could be beyond
        if (feasts == NONE) return NONE;
        return i < feasts && i < tellers.length ? tellers[i] : BAD;
    }

    public int count(int what) {
        switch (what) {
            case 0: return people.size;
            case 1: return Integer.bitCount(people.living);
            case 2: return people.oldOnes();
            case 3: return stones.size;
            case 4: return acts.size;
            case 5: return acts.size - Long.bitCount(people.knownToAny());
            case 6: return Long.bitCount(acts.strong);
            case 7: return stones.sunken();
            case 8: return stones.crossed();
            case 9: return now;
            default: return BAD;
        }
    }

    public int cross(int stone) {
        if (!stones.has(stone)) return BAD;
        if (stones.owed[stone] > 0) return NOT;
        stones.owed[stone] = stones.hands[stone];
        return stones.owed[stone];
    }

    public int works(int who, int stone, int days) {
        if (!people.has(who) || !stones.has(stone) || days < 1 || days > MOST_DAYS) return BAD;
        if (!people.alive(who) || stones.owed[stone] == 0) return NOT;
        int counted = Math.min(days, stones.owed[stone]);
        stones.owed[stone] -= counted;
        people.daysWorked[who] += counted;
        return stones.owed[stone];
    }

    public int worked(int who) {
        return people.has(who) ? people.daysWorked[who] : BAD;
    }

    // ---- 4 sheets

    public int sheet(int sheet, int lane, int n) {
        if (!isSheet(sheet) || !isLane(lane) || n > MOST_ITEMS) return BAD;
        if (n < 0) return SIZE;
        sheets.renew(sheet, lane, n);
        return n;
    }

    public int drop(int sheet) {
        if (!isSheet(sheet)) return BAD;
        if (!sheets.filled[sheet]) return NULL;
        sheets.filled[sheet] = false;
        return sheets.length[sheet];
    }

    public int item(int sheet, int lane, int i, int v) {
        int refusal = refusalOfRow(sheet, lane);
        if (refusal != 0) return refusal;
        if (i < 0 || i >= sheets.length[sheet]) return INDEX;
        sheets.write(sheet, i, v);
        return 1;
    }

    public int acts(int sheet, int lane, int from, int n) {
        if (n < 0 || n > ACTS_A_CALL) return BAD;
        int refusal = refusalOfRow(sheet, lane);
        if (refusal != 0) return refusal;
        if (from < 0 || from > sheets.length[sheet] - n * ACT_ITEMS) return INDEX;
        int done = 0;
        while (done < n && actFromSheet(sheet, from + done * ACT_ITEMS) >= 0) done++;
        return done;
    }

    // ---- what acts may be

    private static boolean isPlace(int place) {
        return place >= IN_SEA && place <= MOST_PLACE;
    }

    private static boolean isHandOver(int kind) {
        return kind == GIVEN || kind == BRIDE || kind == PLEDGED;
    }

    private boolean isDoable(int kind, int stone, int a, int b, int n) {
        switch (kind) {
            case FOUND:
            case SEIZED: return true;
            case GIVEN:
            case BRIDE:
            case PLEDGED: return people.alive(b) && b != a && n >= 1 && n <= WHOLE;
            case FREED: return isPledgeOf(b, stone, a);
            case TALE: return n >= 1 && n <= MOST_HARDSHIP;
            default: return false;
        }
    }

    private boolean isPledgeOf(int act, int stone, int giver) {
        return acts.has(act) && acts.kind[act] == PLEDGED && acts.stone[act] == stone && acts.doer[act] == giver;
    }

    private boolean isBanned(int act) {
        return (banned & 1 << acts.kind[act]) != 0;
    }

    private void letWitnessesKnow(int act) {
        for (int who = 0; who < people.size; who++) {
            if ((acts.stoodBy[act] & 1 << who) != 0) people.hear(who, act, 0);
        }
    }

    /** Whether those of old who know the act as it is done are enough to make it strong. */
    private boolean convinces(int act) {
        if (acts.kind[act] == SEIZED) return false;
        int convinced = 0;
        for (int who = 0; who < people.size; who++) {
            if (!people.old(who) || !people.heard(who, act)) continue;
            knowing.addUp(acts, people.known[who]);
            if (hasBit(knowing.holding, act)) convinced++;
        }
        return convinced >= Math.min(STRONG_BY, people.oldOnes());
    }

    // ---- what one knows

    /** BAD, NOT, or 0 if who may be asked (one who lives, or the village as a whole), with the knowing added up. */
    private int lookInto(int who) {
        if (who != VILLAGE && !people.has(who)) return BAD;
        if (who != VILLAGE && !people.alive(who)) return NOT;
        knowing.addUp(acts, knownTo(who));
        return 0;
    }

    private long knownTo(int who) {
        if (who == VILLAGE) return acts.strong & people.knownToAllOld();
        return people.has(who) ? people.known[who] : 0L;
    }

    private int worthInView(int stone) {
        int hands = stones.hands[stone];
        return hands * hands * (BASE_PRAISE + knowing.praise[stone]) / BASE_PRAISE;
    }

    private int advantage(int who, int stone, int one, int other) {
        knowing.addUp(acts, people.known[who]);
        return knowing.owned[seat(stone, one)] - knowing.owned[seat(stone, other)];
    }

    /** The least depth of all acts of the stone that one did or got, whether they hold or not. */
    private int hearingOf(int who, int stone, int one) {
        int least = UNHEARD;
        for (int act = 0; act < acts.size; act++) {
            boolean didOrGot = acts.doer[act] == one || isHandOver(acts.kind[act]) && acts.other[act] == one;
            if (didOrGot && acts.stone[act] == stone && people.heard(who, act)) {
                least = Math.min(least, people.depthOf(who, act));
            }
        }
        return least;
    }

    private int unlikeFirstView() {
        int unlike = 0;
        for (int i = 0; i < firstView.length; i++) {
            if (firstView[i] != knowing.owned[i]) unlike |= 1 << i / MOST_PEOPLE;
        }
        return unlike;
    }

    // ---- feasts

    private long tellableBy(int who, int stone) {
        long talk = 0L;
        for (int act = 0; act < acts.size; act++) {
            if (acts.stone[act] == stone && people.heard(who, act) && !isBanned(act)) talk |= 1L << act;
        }
        return talk;
    }

    private int spread(int act, int teller, int there) {
        int depth = people.depthOf(teller, act) + 1;
        int learned = 0;
        for (int who = 0; who < people.size; who++) {
            if ((there & 1 << who) == 0) continue;
            if (!people.heard(who, act)) learned++;
            people.hear(who, act, depth);
        }
        return learned;
    }

    /** How few feasts do, or NONE; leaves their tellers in the row of tellers. */
    private int findFewest(int stone) {
        long missing = acts.ofStone[stone] & people.knownToAny() & ~people.knownToAllLiving();
        for (int who = 0; who < tellable.length; who++) tellable[who] = tellableBy(who, stone);
        for (int feasts = 0; feasts <= MOST_TELLERS; feasts++) {
            if (findTellers(missing, tellable, tellers, 0, 0, feasts)) return feasts;
        }
        return NONE;
    }

    // What a teller has just been told adds nothing, so each counts with what was known ahead of all feasts.
    private static boolean findTellers(long missing, long[] tellable, int[] tellers, int from, int depth, int feasts) {
        if (depth >= feasts || depth >= tellers.length) return missing == 0L;
        for (int who = from; who < tellable.length; who++) {
            tellers[depth] = who;
            if (findTellers(missing & ~tellable[who], tellable, tellers, who + 1, depth + 1, feasts)) return true;
        }
        return false;
    }

    // ---- sheets

    private static boolean isSheet(int sheet) {
        return sheet >= 0 && sheet < MOST_SHEETS;
    }

    private static boolean isLane(int lane) {
        return lane >= BYTES && lane <= INTS;
    }

    /** BAD, NULL, CAST, or 0 if the sheet holds a row of that lane. */
    private int refusalOfRow(int sheet, int lane) {
        if (!isSheet(sheet) || !isLane(lane)) return BAD;
        if (!sheets.filled[sheet]) return NULL;
        return sheets.lane[sheet] == lane ? 0 : CAST;
    }

    private int actFromSheet(int sheet, int from) {
        if (from < 0 || from > MOST_ITEMS - ACT_ITEMS) return BAD;
        int[] row = sheets.items;
        int at = sheet * MOST_ITEMS + from;
        return act(row[at], row[at + 1], row[at + 2], row[at + 3], row[at + 4], row[at + 5]);
    }

    // ---- bits and places in rows

    private static boolean hasBit(long bits, int i) {
        return (bits >>> i & 1L) != 0L;
    }

    private static int seat(int stone, int owner) {
        return stone * MOST_PEOPLE + owner;
    }

    private static final class People {
        final int[] age = new int[MOST_PEOPLE];
        final int[] daysWorked = new int[MOST_PEOPLE];
        final long[] known = new long[MOST_PEOPLE];
        final byte[] depth = new byte[MOST_PEOPLE * MOST_ACTS];
        int size = 0;
        // bits of those who live, and of those of them who are old
        int living = 0;
        int elders = 0;

        boolean has(int who) {
            return who >= 0 && who < size;
        }

        boolean alive(int who) {
            return who >= 0 && who < size && (living & 1 << who) != 0;
        }

        boolean allAlive(int bits) {
            return (bits & ~living) == 0;
        }

        boolean old(int who) {
            return who >= 0 && who < size && (elders & 1 << who) != 0;
        }

        int join(int firstAge) {
            age[size] = firstAge;
            living |= 1 << size;
            if (firstAge >= OLD_AGE) elders |= 1 << size;
            return size++;
        }

        void grow(int n) {
            for (int who = 0; who < size; who++) {
                if (!alive(who)) continue;
                age[who] += n;
                if (age[who] >= OLD_AGE) elders |= 1 << who;
            }
        }

        void bury(int who) {
            living &= ~(1 << who);
            elders &= ~(1 << who);
            known[who] = 0L;
        }

        int oldOnes() {
            return Integer.bitCount(elders);
        }

        boolean heard(int who, int act) {
            return who >= 0 && who < size && hasBit(known[who], act);
        }

        int depthOf(int who, int act) {
            return depth[who * MOST_ACTS + act];
        }

        void hear(int who, int act, int atDepth) {
            if (heard(who, act) && depthOf(who, act) <= atDepth) return;
            known[who] |= 1L << act;
            depth[who * MOST_ACTS + act] = (byte) atDepth;
        }

        long knownToAny() {
            long any = 0L;
            for (int who = 0; who < size; who++) any |= known[who];
            return any;
        }

        long knownToAllLiving() {
            long all = -1L;
            for (int who = 0; who < size; who++) {
                if (alive(who)) all &= known[who];
            }
            return all;
        }

        long knownToAllOld() {
            if (elders == 0) return 0L;
            long all = -1L;
            for (int who = 0; who < size; who++) {
                if (old(who)) all &= known[who];
            }
            return all;
        }

        int knowersOf(long bits) {
            int knowers = 0;
            for (int who = 0; who < size; who++) {
                if (alive(who) && (bits & ~known[who]) == 0L) knowers++;
            }
            return knowers;
        }
    }

    private static final class Stones {
        final int[] hands = new int[MOST_STONES];
        final int[] place = new int[MOST_STONES];
        // a stone without a cross owes nothing, and one with a cross something
        final int[] owed = new int[MOST_STONES];
        int size = 0;

        boolean has(int stone) {
            return stone >= 0 && stone < size;
        }

        int lay(int wide, int where) {
            hands[size] = wide;
            place[size] = where;
            return size++;
        }

        int sunken() {
            int ones = 0;
            for (int stone = 0; stone < size; stone++) {
                if (place[stone] == IN_SEA) ones++;
            }
            return ones;
        }

        int crossed() {
            int ones = 0;
            for (int stone = 0; stone < size; stone++) {
                if (owed[stone] > 0) ones++;
            }
            return ones;
        }
    }

    private static final class Acts {
        final int[] kind = new int[MOST_ACTS];
        final int[] stone = new int[MOST_ACTS];
        final int[] doer = new int[MOST_ACTS];
        final int[] other = new int[MOST_ACTS];
        final int[] number = new int[MOST_ACTS];
        final int[] year = new int[MOST_ACTS];
        final int[] stoodBy = new int[MOST_ACTS];
        final long[] ofStone = new long[MOST_STONES];
        long strong = 0L;
        int size = 0;

        boolean has(int act) {
            return act >= 0 && act < size;
        }

        int open(int ofKind, int onStone, int byWhom) {
            kind[size] = ofKind;
            stone[size] = onStone;
            doer[size] = byWhom;
            ofStone[onStone] |= 1L << size;
            return size++;
        }
    }

    /** What a set of known acts adds up to; made once and filled anew for each one looked into. */
    private static final class Knowing {
        final int[] owned = new int[MOST_STONES * MOST_PEOPLE];
        final int[] tied = new int[MOST_STONES * MOST_PEOPLE];
        final int[] praise = new int[MOST_STONES];
        long holding = 0L;
        long freed = 0L;
        int found = 0;

        void addUp(Acts acts, long known) {
            forget();
            for (int act = 0; act < acts.size; act++) {
                if (hasBit(known, act) && agrees(acts, act)) {
                    holding |= 1L << act;
                    take(acts, act);
                }
            }
        }

        private void forget() {
            for (int i = 0; i < owned.length; i++) {
                owned[i] = 0;
                tied[i] = 0;
            }
            for (int stone = 0; stone < praise.length; stone++) praise[stone] = 0;
            holding = 0L;
            freed = 0L;
            found = 0;
        }

        private boolean agrees(Acts acts, int act) {
            int stone = acts.stone[act], from = seat(stone, acts.doer[act]);
            switch (acts.kind[act]) {
                case FOUND: return (found & 1 << stone) == 0;
                case GIVEN:
                case BRIDE:
                case PLEDGED: return owned[from] - tied[from] >= acts.number[act];
                case FREED: return hasBit(holding & ~freed, acts.other[act]);
                case TALE: return true;
                default: return false;
            }
        }

        private void take(Acts acts, int act) {
            int stone = acts.stone[act], n = acts.number[act], from = seat(stone, acts.doer[act]);
            switch (acts.kind[act]) {
                case FOUND:
                    found |= 1 << stone;
                    owned[from] = WHOLE;
                    break;
                case GIVEN:
                    move(from, seat(stone, acts.other[act]), n);
                    break;
                case BRIDE:
                    move(from, seat(stone, acts.other[act]), n);
                    praise[stone] += BRIDE_PRAISE;
                    break;
                case PLEDGED:
                    tied[from] += n;
                    break;
                case FREED:
                    freed |= 1L << acts.other[act];
                    tied[from] -= acts.number[acts.other[act]];
                    break;
                case TALE:
                    praise[stone] += n;
                    break;
                default:
                    break;
            }
        }

        private void move(int from, int to, int n) {
            owned[from] -= n;
            owned[to] += n;
        }
    }

    private static final class Sheets {
        final boolean[] filled = new boolean[MOST_SHEETS];
        final int[] lane = new int[MOST_SHEETS];
        final int[] length = new int[MOST_SHEETS];
        final int[] items = new int[MOST_SHEETS * MOST_ITEMS];

        void renew(int sheet, int newLane, int n) {
            filled[sheet] = true;
            lane[sheet] = newLane;
            length[sheet] = n;
            for (int i = 0; i < MOST_ITEMS; i++) items[sheet * MOST_ITEMS + i] = 0;
        }

        void write(int sheet, int i, int v) {
            int kept = lane[sheet] == BYTES ? (byte) v : lane[sheet] == SHORTS ? (short) v : v;
            items[sheet * MOST_ITEMS + i] = kept;
        }
    }
}
