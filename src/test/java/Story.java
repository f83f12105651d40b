import java.util.ArrayList;
import java.util.Arrays;
import java.util.List;

/**
 * A run of calls, none of them refused, that can be played on a new object again and again: so each question is asked
 * of a village of its own, and what a refused call might have changed shows beside a village that was not asked.
 */
final class Story {
    private static final int PEOPLE = 16, STONES = 8, ACTS = 60, SHEETS = 4, LANES = 3, ITEMS = 36, CALLS = 512;

    private final List<String> calls;
    private List<int[]> shown = null;

    private Story(List<String> calls) {
        this.calls = calls;
    }

    /** Calls with ';' between them. */
    static Story of(String text) {
        return new Story(new ArrayList<>()).then(text);
    }

    static Story ofNothing() {
        return new Story(new ArrayList<>());
    }

    Story then(String text) {
        List<String> more = new ArrayList<>(calls);
        for (String call : text.split(";")) more.add(call.trim());
        return new Story(more);
    }

    Story times(int n, String text) {
        Story s = this;
        for (int i = 0; i < n; i++) s = s.then(text);
        return s;
    }

    private StoneVillage play() {
        StoneVillage x = new StoneVillage();
        for (String call : calls) {
            int got = Calls.ask(x, call);
            if (got < 0) Check.due("in a story: " + call, got, 0);
        }
        return x;
    }

    void answers(String call, int due) {
        Check.due(call, Calls.ask(play(), call), due);
    }

    /** What is another way here changes nothing for these calls. */
    void answersAs(Story other, String... asked) {
        for (String call : asked) Check.due(call + ", as else", Calls.ask(play(), call), Calls.ask(other.play(), call));
    }

    /** The call is refused so, and nothing has changed. */
    void refuses(String call, int due) {
        answers(call, due);
        if (shown == null) shown = show("");
        List<int[]> after = show(call);
        for (int i = 0; i < after.size(); i++) {
            Check.due("refused, changes nothing: " + call, Arrays.equals(shown.get(i), after.get(i)));
        }
    }

    /** Told for the number # are low .. high: the first ones outside are refused, and so are the least and greatest int. */
    void takes(String call, int low, int high, int refusal) {
        for (int inside : new int[] {low, high}) {
            String told = call.replace("#", "" + inside);
            int got = Calls.ask(play(), told);
            if (got == refusal) Check.due(told + " is as told, and", false);
        }
        for (long outside : new long[] {low - 1L, high + 1L, Integer.MIN_VALUE, Integer.MAX_VALUE}) {
            refuses(call.replace("#", "" + outside), refusal);
        }
    }

    // ---- everything that can be seen of a village, in parts that stay below the calls that an object is used for

    private List<int[]> show(String refused) {
        List<int[]> parts = new ArrayList<>();
        parts.add(people(begin(refused)));
        for (int from = 0; from < ACTS; from += 20) parts.add(acts(begin(refused), from, from + 20));
        for (int from = 0; from < PEOPLE; from += 4) parts.add(known(begin(refused), from, from + 4));
        parts.add(agreed(begin(refused)));
        parts.add(feasts(begin(refused)));
        parts.add(stones(begin(refused)));
        parts.add(sheets(begin(refused)));
        return parts;
    }

    private StoneVillage begin(String refused) {
        Check.due("calls left to look at all", calls.size() + 300 < CALLS);
        StoneVillage x = play();
        if (!refused.isEmpty()) Calls.ask(x, refused);
        return x;
    }

    private static int[] people(StoneVillage x) {
        int[] row = new int[PEOPLE * 5 + 11];
        int at = 0;
        for (int who = 0; who < PEOPLE; who++) {
            for (int what = 0; what <= 3; what++) row[at++] = x.told(who, what);
            row[at++] = x.worked(who);
        }
        for (int what = 0; what <= 9; what++) row[at++] = x.count(what);
        row[at] = x.ban(0);
        return row;
    }

    private static int[] acts(StoneVillage x, int from, int to) {
        int[] row = new int[(to - from) * 9];
        int at = 0;
        for (int act = from; act < to; act++) {
            for (int what = 0; what <= 8; what++) row[at++] = x.about(act, what);
        }
        return row;
    }

    private static int[] known(StoneVillage x, int from, int to) {
        int[] row = new int[(to - from) * ACTS];
        int at = 0;
        for (int who = from; who < to; who++) {
            for (int act = 0; act < ACTS; act++) row[at++] = x.knows(who, act);
        }
        return row;
    }

    private static int[] agreed(StoneVillage x) {
        int[] row = new int[STONES * (PEOPLE * 2 + 2) + 1];
        int at = 0;
        for (int stone = 0; stone < STONES; stone++) {
            for (int who = 0; who < PEOPLE; who++) {
                row[at++] = x.parts(-1, stone, who);
                row[at++] = x.bound(-1, stone, who);
            }
            row[at++] = x.owner(-1, stone);
            row[at++] = x.worth(-1, stone);
        }
        row[at] = x.split();
        return row;
    }

    private static int[] feasts(StoneVillage x) {
        int[] row = new int[STONES * 6];
        int at = 0;
        for (int stone = 0; stone < STONES; stone++) {
            row[at++] = x.kept(stone);
            row[at++] = x.fewest(stone);
            for (int i = 0; i < 4; i++) row[at++] = x.teller(stone, i);
        }
        return row;
    }

    /** Sizes, what is owed and places show by painting, working and moving. */
    private static int[] stones(StoneVillage x) {
        int[] row = new int[STONES * 3 + PEOPLE * (STONES + 1)];
        int at = 0;
        for (int who = 0; who < PEOPLE; who++) {
            for (int stone = 0; stone < STONES; stone++) row[at++] = x.works(who, stone, stone + 1);
            row[at++] = x.worked(who);
        }
        for (int stone = 0; stone < STONES; stone++) {
            row[at++] = x.cross(stone);
            row[at++] = x.moves(stone, 50);
            row[at++] = x.worth(-1, stone);
        }
        return row;
    }

    /** Lengths, lanes and items show by the acts that are done from them. */
    private static int[] sheets(StoneVillage x) {
        int[] row = new int[SHEETS * LANES * ITEMS / 6 + ACTS * 3 + SHEETS + 1];
        int at = 0, first = x.count(4);
        for (int sheet = 0; sheet < SHEETS; sheet++) {
            for (int lane = 0; lane < LANES; lane++) {
                for (int i = 0; i < ITEMS; i += 6) row[at++] = x.acts(sheet, lane, i, 1);
            }
        }
        row[at++] = x.count(4);
        for (int sheet = 0; sheet < SHEETS; sheet++) row[at++] = x.drop(sheet);
        for (int act = first; act < x.count(4) && act < first + 30; act++) {
            row[at++] = x.about(act, 0) * 100 + x.about(act, 3);
            row[at++] = x.about(act, 4);
            row[at++] = x.about(act, 7);
        }
        return row;
    }
}
