import java.util.ArrayList;
import java.util.Collection;
import java.util.HashSet;
import java.util.List;
import java.util.Map;
import java.util.Set;
import java.util.TreeMap;

/**
 * The document once more, written another way: each act and each one an object, knowing worked out stone by stone
 * from lists, FEWEST by really holding the feasts. Slow and plain; RandomTest compares the program with it.
 */
final class Model {
    static final int BAD = -1, NOT = -2, FULL = -3, NONE = -4, NULL = -11, CAST = -12, INDEX = -13, SIZE = -14;

    static final class One {
        int age;
        boolean lives = true;
        int days;
        Map<Deed, Integer> known = new TreeMap<>((x, y) -> x.id - y.id);

        boolean old() {
            return lives && age >= 40;
        }

        void hear(Deed deed, int depth) {
            known.merge(deed, depth, Math::min);
        }
    }

    static final class Rock {
        int size, place;
        Integer owed;
    }

    static final class Deed {
        int id, kind, stone, a, b, n, year, stood;
        boolean strong;
    }

    static final class Row {
        int lane;
        int[] items;
    }

    /** What a collection of deeds makes of one stone. */
    static final class View {
        final int[] parts = new int[16];
        final int[] bound = new int[16];
        final Set<Deed> holding = new HashSet<>();
        int praise = 10;

        View(Collection<Deed> deeds, int stone, List<Deed> all) {
            boolean found = false;
            Set<Integer> freed = new HashSet<>();
            for (Deed d : deeds) {
                if (d.stone != stone) continue;
                int free = parts[d.a] - bound[d.a];
                boolean holds = d.kind == 5 || d.kind == 0 && !found || d.kind >= 1 && d.kind <= 3 && free >= d.n
                    || d.kind == 4 && holding.contains(all.get(d.b)) && !freed.contains(d.b);
                if (!holds) continue;
                holding.add(d);
                if (d.kind == 0) {
                    found = true;
                    parts[d.a] += 12;
                }
                if (d.kind == 1 || d.kind == 2) {
                    parts[d.a] -= d.n;
                    parts[d.b] += d.n;
                }
                if (d.kind == 2) praise += 5;
                if (d.kind == 3) bound[d.a] += d.n;
                if (d.kind == 4) {
                    freed.add(d.b);
                    bound[d.a] -= all.get(d.b).n;
                }
                if (d.kind == 5) praise += d.n;
            }
        }
    }

    final List<One> people = new ArrayList<>();
    final List<Rock> rocks = new ArrayList<>();
    final List<Deed> deeds = new ArrayList<>();
    final Row[] rows = new Row[4];
    int now, banned;

    private boolean one(int i) {
        return i >= 0 && i < people.size();
    }

    private boolean rock(int i) {
        return i >= 0 && i < rocks.size();
    }

    private boolean deed(int i) {
        return i >= 0 && i < deeds.size();
    }

    private boolean alive(int i) {
        return one(i) && people.get(i).lives;
    }

    private List<One> living() {
        List<One> list = new ArrayList<>(people);
        list.removeIf(o -> !o.lives);
        return list;
    }

    private List<One> elders() {
        List<One> list = new ArrayList<>(people);
        list.removeIf(o -> !o.old());
        return list;
    }

    private Set<Deed> remembered() {
        Set<Deed> set = new HashSet<>();
        for (One o : living()) set.addAll(o.known.keySet());
        return set;
    }

    private boolean bitsOfLiving(int bits) {
        for (int i = 0; i < 32; i++) if ((bits >>> i & 1) == 1 && !alive(i)) return false;
        return true;
    }

    private static boolean in(int x, int low, int high) {
        return low <= x && x <= high;
    }

    int person(int age) {
        if (!in(age, 0, 60)) return BAD;
        if (people.size() == 16) return FULL;
        One o = new One();
        o.age = age;
        people.add(o);
        return people.size() - 1;
    }

    int years(int n) {
        if (!in(n, 1, 50)) return BAD;
        if (now + n > 1000) return FULL;
        for (One o : living()) o.age += n;
        return now += n;
    }

    int dies(int who) {
        if (!one(who)) return BAD;
        if (!alive(who)) return NOT;
        int before = remembered().size();
        people.get(who).lives = false;
        people.get(who).known.clear();
        return before - remembered().size();
    }

    int told(int who, int what) {
        if (!one(who) || !in(what, 0, 3)) return BAD;
        One o = people.get(who);
        return new int[] {o.age, o.lives ? 1 : 0, o.old() ? 1 : 0, o.known.size()}[what];
    }

    int stone(int size, int place) {
        if (!in(size, 1, 40) || !in(place, -1, 99)) return BAD;
        if (rocks.size() == 8) return FULL;
        Rock r = new Rock();
        r.size = size;
        r.place = place;
        rocks.add(r);
        return rocks.size() - 1;
    }

    int moves(int stone, int place) {
        if (!rock(stone) || !in(place, -1, 99)) return -11;
        int was = rocks.get(stone).place;
        if (was == -1) return -12;
        rocks.get(stone).place = place;
        return was;
    }

    int act(int kind, int stone, int a, int b, int n, int by) {
        if (!in(kind, 0, 6) || !rock(stone) || !alive(a) || !bitsOfLiving(by)) return BAD;
        boolean two = in(kind, 1, 3);
        if (two && (!alive(b) || a == b || !in(n, 1, 12))) return BAD;
        if (kind == 5 && !in(n, 1, 20)) return BAD;
        if (kind == 4) {
            if (!deed(b)) return BAD;
            Deed p = deeds.get(b);
            if (p.kind != 3 || p.stone != stone || p.a != a) return BAD;
        }
        if (deeds.size() == 60) return FULL;
        Deed d = new Deed();
        d.id = deeds.size();
        d.kind = kind;
        d.stone = stone;
        d.a = a;
        d.b = two || kind == 4 ? b : 0;
        d.n = two || kind == 5 ? n : 0;
        d.year = now;
        d.stood = by | 1 << a;
        deeds.add(d);
        for (int i = 0; i < people.size(); i++) if ((d.stood >> i & 1) == 1) people.get(i).hear(d, 0);
        int agree = 0, old = elders().size();
        for (One o : elders()) {
            if (o.known.containsKey(d) && new View(o.known.keySet(), stone, deeds).holding.contains(d)) agree++;
        }
        d.strong = kind != 6 && (agree >= 2 || agree == old);
        return d.id;
    }

    int about(int act, int what) {
        if (!deed(act) || !in(what, 0, 8)) return BAD;
        Deed d = deeds.get(act);
        int knowers = 0;
        for (One o : living()) if (o.known.containsKey(d)) knowers++;
        return new int[] {d.kind, d.stone, d.a, d.b, d.n, d.year, d.strong ? 1 : 0, d.stood, knowers}[what];
    }

    int knows(int who, int act) {
        if (!one(who) || !deed(act)) return BAD;
        return people.get(who).known.getOrDefault(deeds.get(act), NONE);
    }

    int tell(int from, int to, int act) {
        if (!one(from) || !one(to) || from == to || !deed(act)) return BAD;
        Deed d = deeds.get(act);
        Integer depth = people.get(from).known.get(d);
        if (depth == null || !alive(from) || !alive(to) || (banned >> d.kind & 1) == 1) return NOT;
        people.get(to).hear(d, depth + 1);
        return people.get(to).known.get(d);
    }

    private Collection<Deed> knowledge(int who) {
        if (who >= 0) return people.get(who).known.keySet();
        List<Deed> list = new ArrayList<>(deeds);
        list.removeIf(d -> !d.strong || elders().isEmpty());
        for (One o : elders()) list.removeIf(d -> !o.known.containsKey(d));
        return list;
    }

    View view(int who, int stone) {
        return new View(knowledge(who), stone, deeds);
    }

    private int refusal(int who, boolean rest) {
        if (who < -1 || who >= people.size() || !rest) return BAD;
        return who == -1 || alive(who) ? 0 : NOT;
    }

    int parts(int who, int stone, int owner) {
        int no = refusal(who, rock(stone) && one(owner));
        return no != 0 ? no : view(who, stone).parts[owner];
    }

    int bound(int who, int stone, int owner) {
        int no = refusal(who, rock(stone) && one(owner));
        return no != 0 ? no : view(who, stone).bound[owner];
    }

    int holds(int who, int act) {
        int no = refusal(who, deed(act));
        if (no != 0) return no;
        Deed d = deeds.get(act);
        if (!knowledge(who).contains(d)) return NONE;
        return view(who, d.stone).holding.contains(d) ? 1 : 0;
    }

    int owner(int who, int stone) {
        int no = refusal(who, rock(stone));
        if (no != 0) return no;
        int[] parts = view(who, stone).parts;
        for (int most = 12; most > 0; most--) {
            for (int i = 0; i < 16; i++) if (parts[i] == most) return i;
        }
        return NONE;
    }

    int worth(int who, int stone) {
        int no = refusal(who, rock(stone));
        if (no != 0) return no;
        int size = rocks.get(stone).size;
        return size * size * view(who, stone).praise / 10;
    }

    int wealth(int who, int owner) {
        int no = refusal(who, one(owner));
        if (no != 0) return no;
        int sum = 0;
        for (int s = 0; s < rocks.size(); s++) sum += worth(who, s) * parts(who, s, owner) / 12;
        return sum;
    }

    private List<One> side(int stone, int a, int b) {
        List<One> list = elders();
        list.removeIf(o -> {
            int[] parts = new View(o.known.keySet(), stone, deeds).parts;
            return parts[a] <= parts[b];
        });
        return list;
    }

    private int nearest(List<One> side, int stone, int a) {
        int least = 99;
        for (One o : side) {
            for (Map.Entry<Deed, Integer> e : o.known.entrySet()) {
                Deed d = e.getKey();
                boolean of = d.a == a || (d.kind == 1 || d.kind == 2 || d.kind == 3) && d.b == a;
                if (of && d.stone == stone) least = Math.min(least, e.getValue());
            }
        }
        return least;
    }

    int quarrel(int stone, int a, int b) {
        if (!rock(stone) || !one(a) || !one(b) || a == b) return BAD;
        List<One> forA = side(stone, a, b), forB = side(stone, b, a);
        int more = Integer.compare(forA.size(), forB.size());
        if (more == 0) more = Integer.compare(nearest(forB, stone, b), nearest(forA, stone, a));
        return more == 0 ? NONE : more > 0 ? a : b;
    }

    int weight(int stone, int a, int b) {
        if (!rock(stone) || !one(a) || !one(b) || a == b) return BAD;
        return side(stone, a, b).size();
    }

    int split() {
        int bits = 0;
        for (int s = 0; s < rocks.size(); s++) {
            for (One o : elders()) {
                for (One p : elders()) {
                    int[] x = new View(o.known.keySet(), s, deeds).parts, y = new View(p.known.keySet(), s, deeds).parts;
                    if (!java.util.Arrays.equals(x, y)) bits |= 1 << s;
                }
            }
        }
        return bits;
    }

    int ban(int kinds) {
        if (!in(kinds, 0, 127)) return BAD;
        int was = banned;
        banned = kinds;
        return was;
    }

    int feast(int there, int teller, int stone) {
        if (there == 0 || !bitsOfLiving(there) || !one(teller) || !rock(stone)) return BAD;
        if ((there >> teller & 1) == 0) return NOT;
        int more = 0;
        for (Map.Entry<Deed, Integer> e : people.get(teller).known.entrySet()) {
            Deed d = e.getKey();
            if (d.stone != stone || (banned >> d.kind & 1) == 1) continue;
            for (int i = 0; i < people.size(); i++) {
                if ((there >> i & 1) == 0 || i == teller) continue;
                if (!people.get(i).known.containsKey(d)) more++;
                people.get(i).hear(d, e.getValue() + 1);
            }
        }
        return more;
    }

    int kept(int stone) {
        if (!rock(stone)) return BAD;
        Set<Deed> all = remembered();
        all.removeIf(d -> d.stone != stone);
        int k = 0;
        for (One o : living()) if (o.known.keySet().containsAll(all)) k++;
        return k;
    }

    private long bitsOf(Collection<Deed> some, int stone) {
        long bits = 0;
        for (Deed d : some) if (d.stone == stone) bits |= 1L << d.id;
        return bits;
    }

    private List<Integer> feasts(int stone) {
        List<Integer> there = new ArrayList<>();
        for (int i = 0; i < people.size(); i++) if (alive(i)) there.add(i);
        long[] known = new long[there.size()];
        for (int i = 0; i < known.length; i++) known[i] = bitsOf(people.get(there.get(i)).known.keySet(), stone);
        long told = 0, all = bitsOf(remembered(), stone);
        for (Deed d : deeds) if ((banned >> d.kind & 1) == 0) told |= 1L << d.id;
        for (int k = 0; k <= 4; k++) {
            List<Integer> found = holdFeasts(known, told, all, k);
            if (found == null) continue;
            found.replaceAll(there::get);
            return found;
        }
        return null;
    }

    /** The first tellers, in any order and even twice, whose k feasts one behind the other make all known to all. */
    private List<Integer> holdFeasts(long[] known, long told, long all, int k) {
        boolean kept = true;
        for (long of : known) kept &= of == all;
        if (kept) return new ArrayList<>();
        for (int t = 0; k > 0 && t < known.length; t++) {
            long[] then = known.clone();
            for (int i = 0; i < then.length; i++) then[i] |= known[t] & told;
            List<Integer> rest = holdFeasts(then, told, all, k - 1);
            if (rest == null) continue;
            rest.add(0, t);
            return rest;
        }
        return null;
    }

    int fewest(int stone) {
        if (!rock(stone)) return BAD;
        List<Integer> tellers = feasts(stone);
        return tellers == null ? NONE : tellers.size();
    }

    int teller(int stone, int i) {
        if (!rock(stone) || i < 0) return BAD;
        List<Integer> tellers = feasts(stone);
        if (tellers == null) return NONE;
        return i < tellers.size() ? tellers.get(i) : BAD;
    }

    int count(int what) {
        if (!in(what, 0, 9)) return BAD;
        int strong = 0, sea = 0, crosses = 0;
        for (Deed d : deeds) if (d.strong) strong++;
        for (Rock r : rocks) {
            if (r.place == -1) sea++;
            if (r.owed != null) crosses++;
        }
        int forgotten = deeds.size() - remembered().size();
        return new int[] {people.size(), living().size(), elders().size(), rocks.size(), deeds.size(), forgotten,
            strong, sea, crosses, now}[what];
    }

    int cross(int stone) {
        if (!rock(stone)) return BAD;
        Rock r = rocks.get(stone);
        if (r.owed != null) return NOT;
        return r.owed = r.size;
    }

    int works(int who, int stone, int days) {
        if (!one(who) || !rock(stone) || !in(days, 1, 100)) return BAD;
        Rock r = rocks.get(stone);
        if (!alive(who) || r.owed == null) return NOT;
        for (int day = 0; day < days && r.owed != null; day++) {
            people.get(who).days++;
            r.owed = r.owed == 1 ? null : Integer.valueOf(r.owed - 1);
        }
        return r.owed == null ? 0 : r.owed;
    }

    int worked(int who) {
        return one(who) ? people.get(who).days : BAD;
    }

    int sheet(int sheet, int lane, int n) {
        if (!in(sheet, 0, 3) || !in(lane, 0, 2) || n > 36) return BAD;
        if (n < 0) return SIZE;
        rows[sheet] = new Row();
        rows[sheet].lane = lane;
        rows[sheet].items = new int[n];
        return n;
    }

    int drop(int sheet) {
        if (!in(sheet, 0, 3)) return BAD;
        if (rows[sheet] == null) return NULL;
        int n = rows[sheet].items.length;
        rows[sheet] = null;
        return n;
    }

    private int rowRefusal(int sheet, int lane) {
        if (!in(sheet, 0, 3) || !in(lane, 0, 2)) return BAD;
        if (rows[sheet] == null) return NULL;
        return rows[sheet].lane != lane ? CAST : 0;
    }

    int item(int sheet, int lane, int i, int v) {
        int no = rowRefusal(sheet, lane);
        if (no != 0) return no;
        if (!in(i, 0, rows[sheet].items.length - 1)) return INDEX;
        int shift = lane == 0 ? 24 : lane == 1 ? 16 : 0;
        rows[sheet].items[i] = v << shift >> shift;
        return 1;
    }

    int acts(int sheet, int lane, int from, int n) {
        if (!in(n, 0, 6)) return BAD;
        int no = rowRefusal(sheet, lane);
        if (no != 0) return no;
        int[] r = rows[sheet].items;
        if (from < 0 || (long) from + 6 * n > r.length) return INDEX;
        for (int done = 0; done < n; done++) {
            int p = from + 6 * done;
            if (act(r[p], r[p + 1], r[p + 2], r[p + 3], r[p + 4], r[p + 5]) < 0) return done;
        }
        return n;
    }
}
