import java.util.ArrayList;
import java.util.List;
import java.util.Map;
import java.util.Set;
import java.util.TreeMap;
import java.util.TreeSet;

/**
 * Long runs of calls, always the same ones, whose answers the program and the Model must share. In every other run,
 * a likely one, givers mostly have what they give and tellers know what they tell: else few acts would hold.
 * Takes the number of runs, if more are wanted than the usual.
 */
public final class RandomTest {
    private static final int RUNS = 1500, CALLS = 512;
    private static final String[] NAMES = {"person", "years", "dies", "told", "stone", "moves", "act", "about", "knows", "tell",
        "parts", "bound", "holds", "owner", "worth", "wealth", "quarrel", "weight", "split", "ban", "feast", "kept",
        "fewest", "teller", "count", "cross", "works", "worked", "sheet", "drop", "item", "acts"};
    private static final int[] WEIGHTS = {8, 6, 2, 4, 5, 2, 40, 8, 8, 40, 8, 6, 10, 6, 5, 6, 25, 6, 6, 2, 10, 6,
        10, 10, 5, 3, 6, 3, 3, 1, 6, 4};
    private static final int[] ODD = {-1, -2, 16, 17, 60, 61, 100, 127, 128, 65536, -65536, Integer.MAX_VALUE, Integer.MIN_VALUE};

    private long seed;
    private int people, ages, past;
    private final boolean likely;
    private final List<String> log = new ArrayList<>();
    private final Map<String, Set<Integer>> refused;
    private int[] c = new int[6];

    public static void main(String[] args) {
        int runs = args.length > 0 ? Integer.parseInt(args[0]) : RUNS;
        for (int run = 0; run < runs && Check.wrong() < 5; run++) new RandomTest(run, new TreeMap<>()).play(run);
        Check.end();
    }

    /** The answers below 0 that each call gives in the first runs. */
    static Map<String, Set<Integer>> refusals(int runs) {
        Map<String, Set<Integer>> all = new TreeMap<>();
        for (String name : NAMES) all.put(name, new TreeSet<>());
        for (int run = 0; run < runs; run++) new RandomTest(run, all).play(run);
        return all;
    }

    private RandomTest(int run, Map<String, Set<Integer>> refused) {
        this.refused = refused;
        seed = run * 2654435761L + 12345;
        people = run % 5 == 0 ? 16 : 3 + run % 6;
        ages = run % 3;
        // in some runs 950 years go by ahead of all else, so that the last one comes
        past = run % 11 == 4 ? 19 : 0;
        likely = run % 2 == 1;
    }

    private int below(int n) {
        seed = seed * 6364136223846793005L + 1442695040888963407L;
        return (int) ((seed >>> 33) % n);
    }

    /** Mostly 0 .. n-1, at times an edge or beyond it. */
    private int mostly(int n) {
        int luck = below(60);
        if (luck == 0) return ODD[below(ODD.length)];
        if (luck == 1) return n;
        return below(n);
    }

    private int bits(int few) {
        int b = below(1 << people);
        for (int i = 0; i < few; i++) b &= below(1 << people);
        return below(60) == 0 ? mostly(1 << 16) : b;
    }

    private void play(int run) {
        StoneVillage x = new StoneVillage();
        Model m = new Model();
        int total = 0;
        for (int w : WEIGHTS) total += w;
        for (int call = 0; call < CALLS; call++) {
            int begun = call - past;
            int name = begun < 0 ? 1 : begun < people ? 0 : begun < people + 3 ? 4 : pick(below(total));
            fillArguments(name, m);
            if (likely && below(10) > 0) makeLikely(name, m);
            if (begun < 0) set(50);
            if (below(25) == 0) c[below(6)] = ODD[below(ODD.length)];
            StringBuilder text = new StringBuilder(NAMES[name]);
            for (int v : c) text.append(' ').append(v);
            log.add(text.toString());
            int got = Calls.ask(x, NAMES[name], c), want = ask(m, name);
            if (got < 0 && refused.containsKey(NAMES[name])) refused.get(NAMES[name]).add(got);
            if (got == want) continue;
            System.out.println("run " + run + ", call " + call + " of " + log);
            Check.due(text.toString(), got, want);
            return;
        }
    }

    private static int pick(int luck) {
        int name = 0;
        while (luck >= WEIGHTS[name]) luck -= WEIGHTS[name++];
        return name;
    }

    private int who() {
        return mostly(people);
    }

    private int view() {
        return below(4) == 0 ? -1 : who();
    }

    private int rock(Model m) {
        return below(3) > 0 ? 0 : mostly(Math.max(1, m.rocks.size()));
    }

    private int deed(Model m) {
        return mostly(Math.max(1, m.deeds.size()));
    }

    private void set(int... values) {
        c = new int[6];
        System.arraycopy(values, 0, c, 0, values.length);
    }

    private void setAct(Model m) {
        int kind = below(9);
        if (kind > 6) kind = kind == 7 ? 1 : mostly(7);
        int stone = rock(m), a = who(), b = who(), n = 1 + below(kind == 5 ? 20 : 9);
        if (kind == 4 && !m.deeds.isEmpty() && below(10) > 0) {
            b = deed(m);
            for (Model.Deed d : m.deeds) {
                if (d.kind != 3 || below(2) > 0) continue;
                b = d.id;
                stone = d.stone;
                a = d.a;
            }
        }
        if (below(30) == 0) n = mostly(22);
        int by = bits(below(3));
        for (int i = 0; i < 16; i++) if (i >= m.people.size() || !m.people.get(i).lives) if (below(40) > 0) by &= ~(1 << i);
        set(kind, stone, a, b, n, by);
    }

    private void fillArguments(int name, Model m) {
        switch (NAMES[name]) {
            case "person": set(ages == 0 ? mostly(61) : ages == 1 ? 35 + below(20) : below(4) * 20); break;
            case "years": set(below(4) > 0 ? 1 + below(4) : mostly(52)); break;
            case "dies": case "worked": set(who()); break;
            case "told": set(who(), mostly(4)); break;
            case "stone": set(1 + mostly(40), mostly(100) - below(2)); break;
            case "moves": set(rock(m), mostly(100) - below(2)); break;
            case "act": setAct(m); break;
            case "about": set(deed(m), mostly(9)); break;
            case "knows": set(who(), deed(m)); break;
            case "tell": set(who(), who(), deed(m)); break;
            case "parts": case "bound": set(view(), rock(m), who()); break;
            case "holds": set(view(), deed(m)); break;
            case "owner": case "worth": set(view(), rock(m)); break;
            case "wealth": set(view(), who()); break;
            case "quarrel": case "weight": set(rock(m), who(), who()); break;
            case "ban": set(below(2) == 0 ? 0 : 1 << below(8)); break;
            case "feast": setFeast(m); break;
            case "kept": case "fewest": case "cross": set(rock(m)); break;
            case "teller": set(rock(m), below(3) - below(2) + below(3)); break;
            case "count": set(mostly(10)); break;
            case "works": set(who(), rock(m), 1 + mostly(below(2) == 0 ? 5 : 100)); break;
            case "sheet": set(mostly(4), mostly(3), below(8) == 0 ? mostly(38) - below(3) : 36); break;
            case "drop": set(mostly(4)); break;
            case "item": setItem(m); break;
            case "acts": setActs(m); break;
            default: set(); break;
        }
    }

    private void makeLikely(int name, Model m) {
        List<Integer> alive = new ArrayList<>();
        for (int i = 0; i < m.people.size(); i++) if (m.people.get(i).lives) alive.add(i);
        if (alive.isEmpty() || m.rocks.isEmpty()) return;
        int who = alive.get(below(alive.size())), stone = below(Math.min(2, m.rocks.size()));
        Model.View seen = m.view(below(3) == 0 ? -1 : who, stone);
        switch (NAMES[name]) {
            case "years": set(1); break;
            case "dies": if (below(3) > 0) set(-1); break;
            case "act": setLikelyAct(m, stone, seen, alive); break;
            case "tell": setLikelyTell(m, alive); break;
            case "parts": case "bound": set(below(4) == 0 ? -1 : who, stone, owner(seen, who)); break;
            case "wealth": set(below(4) == 0 ? -1 : who, owner(seen, who)); break;
            case "quarrel": case "weight": set(stone, owner(seen, who), owner(m.view(who, stone), below(people))); break;
            default: break;
        }
    }

    /** Any one who has parts, or else the other one. */
    private int owner(Model.View seen, int other) {
        int one = other, owners = 0;
        for (int i = 0; i < seen.parts.length; i++) if (seen.parts[i] > 0 && below(++owners) == 0) one = i;
        return one;
    }

    private void setLikelyAct(Model m, int stone, Model.View seen, List<Integer> alive) {
        int a = alive.get(below(alive.size())), givers = 0;
        for (int i : alive) if (seen.parts[i] > seen.bound[i] && below(++givers) == 0) a = i;
        int free = seen.parts[a] - seen.bound[a], by = bits(below(2));
        for (int i = 0; i < 16; i++) if (!alive.contains(i)) by &= ~(1 << i);
        int b = alive.get(below(alive.size())), kind = free <= 0 ? below(2) * 5 : 1 + below(5);
        // as many as the giver has, one more, or few, so that some are left
        int n = below(6) == 0 ? free + below(2) : 1 + below(3);
        if (kind == 4) {
            int pledges = 0;
            for (Model.Deed d : m.deeds) {
                if (d.kind != 3 || !alive.contains(d.a) || below(++pledges) > 0) continue;
                b = d.id;
                stone = d.stone;
                a = d.a;
            }
        }
        set(kind, stone, a, b, n, by);
    }

    private void setLikelyTell(Model m, List<Integer> alive) {
        if (m.deeds.isEmpty()) return;
        Model.Deed deed = m.deeds.get(below(m.deeds.size()));
        int from = who(), deepest = -1;
        for (int i : alive) {
            int depth = m.people.get(i).known.getOrDefault(deed, -1);
            if (depth < 0 || depth < deepest && below(2) > 0) continue;
            from = i;
            deepest = depth;
        }
        set(from, alive.get(below(alive.size())), deed.id);
    }

    private void setFeast(Model m) {
        int there = bits(0);
        for (int i = 0; i < 16; i++) if (i >= m.people.size() || !m.people.get(i).lives) if (below(40) > 0) there &= ~(1 << i);
        set(there, who(), rock(m));
    }

    private void setItem(Model m) {
        int sheet = mostly(4);
        int lane = below(10) > 0 && sheet >= 0 && sheet < 4 && m.rows[sheet] != null ? m.rows[sheet].lane : mostly(3);
        set(sheet, lane, mostly(37), below(3) == 0 ? below(300) - 150 : below(8));
    }

    private void setActs(Model m) {
        setItem(m);
        int n = mostly(5);
        set(c[0], c[1], below(8) == 0 ? mostly(38) : below(8), n);
    }

    private int ask(Model m, int name) {
        switch (NAMES[name]) {
            case "person": return m.person(c[0]);
            case "years": return m.years(c[0]);
            case "dies": return m.dies(c[0]);
            case "told": return m.told(c[0], c[1]);
            case "stone": return m.stone(c[0], c[1]);
            case "moves": return m.moves(c[0], c[1]);
            case "act": return m.act(c[0], c[1], c[2], c[3], c[4], c[5]);
            case "about": return m.about(c[0], c[1]);
            case "knows": return m.knows(c[0], c[1]);
            case "tell": return m.tell(c[0], c[1], c[2]);
            case "parts": return m.parts(c[0], c[1], c[2]);
            case "bound": return m.bound(c[0], c[1], c[2]);
            case "holds": return m.holds(c[0], c[1]);
            case "owner": return m.owner(c[0], c[1]);
            case "worth": return m.worth(c[0], c[1]);
            case "wealth": return m.wealth(c[0], c[1]);
            case "quarrel": return m.quarrel(c[0], c[1], c[2]);
            case "weight": return m.weight(c[0], c[1], c[2]);
            case "split": return m.split();
            case "ban": return m.ban(c[0]);
            case "feast": return m.feast(c[0], c[1], c[2]);
            case "kept": return m.kept(c[0]);
            case "fewest": return m.fewest(c[0]);
            case "teller": return m.teller(c[0], c[1]);
            case "count": return m.count(c[0]);
            case "cross": return m.cross(c[0]);
            case "works": return m.works(c[0], c[1], c[2]);
            case "worked": return m.worked(c[0]);
            case "sheet": return m.sheet(c[0], c[1], c[2]);
            case "drop": return m.drop(c[0]);
            case "item": return m.item(c[0], c[1], c[2], c[3]);
            default: return m.acts(c[0], c[1], c[2], c[3]);
        }
    }
}
