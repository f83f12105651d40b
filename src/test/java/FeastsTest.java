/** Promises 21 to 26: ban, feast, kept, fewest, teller, count. */
public final class FeastsTest {
    public static void main(String[] args) {
        ban();
        feast();
        feastDepths();
        kept();
        fewest();
        fewestIsLeast();
        firstTellers();
        notByFour();
        banned();
        count();
        Check.end();
    }

    private static void ban() {
        StoneVillage x = new StoneVillage();
        Check.due("ban(127)", x.ban(127), 0);
        Check.due("ban(-1)", x.ban(-1), Check.BAD);
        Check.due("ban(128)", x.ban(128), Check.BAD);
        Check.due("ban(MIN)", x.ban(Integer.MIN_VALUE), Check.BAD);
        Check.due("ban(5)", x.ban(5), 127);
        Check.due("ban(0)", x.ban(0), 5);
        Check.due("ban(0) again", x.ban(0), 0);
    }

    private static void feast() {
        StoneVillage x = Check.village(20, 20, 20, 20);
        x.stone(2, 2);
        x.stone(2, 2);
        x.act(0, 0, 0, 0, 0, 2);
        x.act(5, 0, 0, 0, 3, 0);
        x.act(5, 1, 0, 0, 3, 0);
        x.act(6, 0, 3, 0, 0, 0);
        Check.due("nobody there", x.feast(0, 0, 0), Check.BAD);
        Check.due("there 16", x.feast(17, 0, 0), Check.BAD);
        Check.due("there -1", x.feast(-1, 0, 0), Check.BAD);
        Check.due("no such teller", x.feast(15, 4, 0), Check.BAD);
        Check.due("teller -1", x.feast(15, -1, 0), Check.BAD);
        Check.due("teller 32", x.feast(15, 32, 0), Check.BAD);
        Check.due("no such stone", x.feast(15, 0, 2), Check.BAD);
        Check.due("stone -1", x.feast(15, 0, -1), Check.BAD);
        Check.due("the teller isn't there", x.feast(14, 0, 0), Check.NOT);
        Check.due("1 hears one, 2 hears two", x.feast(7, 0, 0), 3);
        Check.due("3 was not there", x.told(3, 3), 1);
        Check.due("of the other stone nothing", x.knows(1, 2), Check.NONE);
        Check.due("the teller tells what the teller knows", x.knows(1, 3), Check.NONE);
        Check.due("again", x.feast(7, 0, 0), 0);
        Check.due("alone", x.feast(1, 0, 0), 0);
        x.ban(64);
        Check.due("banned ones are not told", x.feast(15, 3, 0), 0);
        x.ban(32);
        Check.due("others are", x.feast(15, 3, 0), 3);
        Check.due("and the tale is banned", x.feast(15, 0, 0), 1);
        x.dies(3);
        Check.due("a dead one there", x.feast(15, 0, 0), Check.BAD);
        Check.due("a dead teller is not there", x.feast(7, 3, 0), Check.NOT);
    }

    private static void feastDepths() {
        StoneVillage x = Check.village(20, 20, 20, 20);
        x.stone(2, 2);
        x.act(5, 0, 0, 0, 3, 0);
        x.tell(0, 1, 0);
        x.tell(1, 2, 0);
        x.tell(2, 3, 0);
        Check.due("nobody hears more", x.feast(15, 1, 0), 0);
        Check.due("0 stood by", x.knows(0, 0), 0);
        Check.due("the teller's stays", x.knows(1, 0), 1);
        Check.due("2 had heard of 1", x.knows(2, 0), 2);
        Check.due("3 hears it nearer", x.knows(3, 0), 2);
        x.person(3);
        Check.due("a new one hears it", x.feast(31, 0, 0), 1);
        Check.due("at depth 1", x.knows(4, 0), 1);
        Check.due("so do the others", x.knows(3, 0), 1);
    }

    private static void kept() {
        StoneVillage x = Check.village(20, 20, 20);
        x.stone(2, 2);
        x.stone(2, 2);
        Check.due("no such stone", x.kept(2), Check.BAD);
        Check.due("stone -1", x.kept(-1), Check.BAD);
        Check.due("nothing to know", x.kept(0), 3);
        x.act(5, 0, 0, 0, 3, 2);
        Check.due("two know it", x.kept(0), 2);
        Check.due("of the other stone all", x.kept(1), 3);
        x.act(5, 0, 2, 0, 3, 0);
        Check.due("nobody knows all", x.kept(0), 0);
        x.tell(2, 0, 1);
        Check.due("one does", x.kept(0), 1);
        x.dies(0);
        Check.due("who died does not count", x.kept(0), 0);
        x.dies(2);
        Check.due("what is forgotten does not either", x.kept(0), 1);
    }

    private static void fewest() {
        StoneVillage x = Check.village(20, 20, 20);
        x.stone(2, 2);
        Check.due("no such stone", x.fewest(1), Check.BAD);
        Check.due("stone -1", x.fewest(-1), Check.BAD);
        Check.due("nothing to tell", x.fewest(0), 0);
        Check.due("no teller", x.teller(0, 0), Check.BAD);
        x.act(5, 0, 1, 0, 3, 0);
        Check.due("one", x.fewest(0), 1);
        Check.due("the one who knows", x.teller(0, 0), 1);
        Check.due("no second", x.teller(0, 1), Check.BAD);
        Check.due("teller -1", x.teller(0, -1), Check.BAD);
        Check.due("teller 4", x.teller(0, 4), Check.BAD);
        Check.due("teller MAX", x.teller(0, Integer.MAX_VALUE), Check.BAD);
        Check.due("teller of stone 1", x.teller(1, 0), Check.BAD);
        x.act(5, 0, 2, 0, 3, 0);
        Check.due("two", x.fewest(0), 2);
        Check.due("first", x.teller(0, 0), 1);
        Check.due("second", x.teller(0, 1), 2);
        x.feast(7, 2, 0);
        Check.due("one again", x.fewest(0), 1);
        x.feast(7, 1, 0);
        Check.due("kept by all", x.fewest(0), 0);
        x.act(5, 0, 0, 0, 3, 0);
        x.dies(0);
        Check.due("forgotten ones need no feast", x.fewest(0), 0);
        StoneVillage y = Check.village(20, 20, 20);
        y.stone(2, 2);
        y.act(5, 0, 2, 0, 3, 2);
        Check.due("the first one alone does not know it", y.fewest(0), 1);
        Check.due("the first who does", y.teller(0, 0), 1);
    }

    /** The greedy choice, 0, who knows most, would need three. */
    private static void fewestIsLeast() {
        StoneVillage x = Check.village(20, 20, 20, 20);
        x.stone(2, 2);
        int[] bits = {3, 3, 5, 5, 2, 4};
        for (int by : bits) x.act(5, 0, Integer.numberOfTrailingZeros(by), 0, 1, by);
        Check.due("two do", x.fewest(0), 2);
        Check.due("first", x.teller(0, 0), 1);
        Check.due("second", x.teller(0, 1), 2);
        x.stone(2, 2);
        x.act(5, 1, 3, 0, 1, 0);
        Check.due("of the other stone", x.fewest(1), 1);
        Check.due("its teller", x.teller(1, 0), 3);
    }

    private static void firstTellers() {
        StoneVillage x = Check.village(20, 20, 20, 20, 20);
        x.stone(2, 2);
        x.act(5, 0, 1, 0, 1, 8);
        x.act(5, 0, 2, 0, 1, 16);
        Check.due("two", x.fewest(0), 2);
        Check.due("first by numbers", x.teller(0, 0), 1);
        Check.due("second by numbers", x.teller(0, 1), 2);
        x.dies(1);
        Check.due("two still", x.fewest(0), 2);
        Check.due("2 is the first now", x.teller(0, 0), 2);
        Check.due("with 3", x.teller(0, 1), 3);
        x.act(5, 0, 4, 0, 1, 8);
        Check.due("three acts, by 3 and 4 or 2", x.fewest(0), 2);
        Check.due("still 2", x.teller(0, 0), 2);
        Check.due("still 3", x.teller(0, 1), 3);
        x.act(5, 0, 4, 0, 1, 0);
        Check.due("4 knows one alone", x.fewest(0), 2);
        Check.due("3 and 4", x.teller(0, 0), 3);
        Check.due("4 behind 3", x.teller(0, 1), 4);
    }

    private static void notByFour() {
        StoneVillage x = new StoneVillage();
        for (int i = 0; i < 16; i++) x.person(i);
        x.stone(2, 2);
        for (int i = 12; i < 16; i++) x.act(5, 0, i, 0, 1, 0);
        Check.due("four", x.fewest(0), 4);
        for (int i = 0; i < 4; i++) Check.due("teller " + i, x.teller(0, i), 12 + i);
        Check.due("no fifth", x.teller(0, 4), Check.BAD);
        x.act(5, 0, 0, 0, 1, 0);
        Check.due("not by four", x.fewest(0), Check.NONE);
        for (int i = 0; i < 4; i++) Check.due("no teller " + i, x.teller(0, i), Check.NONE);
        for (int i : new int[] {4, 5, 16, Integer.MAX_VALUE}) Check.due("nor teller " + i, x.teller(0, i), Check.NONE);
        Check.due("BAD ahead of NONE", x.teller(0, -1), Check.BAD);
        Check.due("teller MIN", x.teller(0, Integer.MIN_VALUE), Check.BAD);
        Check.due("of a stone that isn't there", x.teller(1, 5), Check.BAD);
        x.dies(15);
        Check.due("four again", x.fewest(0), 4);
        Check.due("first", x.teller(0, 0), 0);
        Check.due("last", x.teller(0, 3), 14);
    }

    private static void banned() {
        StoneVillage x = Check.village(20, 20);
        x.stone(2, 2);
        x.act(0, 0, 0, 0, 0, 0);
        x.act(5, 0, 0, 0, 1, 0);
        Check.due("one", x.fewest(0), 1);
        x.ban(32);
        Check.due("the tale can't be told", x.fewest(0), Check.NONE);
        Check.due("no teller", x.teller(0, 0), Check.NONE);
        Check.due("no sixth teller", x.teller(0, 5), Check.NONE);
        x.ban(64);
        Check.due("no sixth teller of one", x.teller(0, 5), Check.BAD);
        Check.due("another ban", x.fewest(0), 1);
        x.tell(0, 1, 1);
        x.ban(32);
        Check.due("all know the tale", x.fewest(0), 1);
        x.ban(127);
        Check.due("the found isn't known", x.fewest(0), Check.NONE);
        x.dies(1);
        Check.due("one alone", x.fewest(0), 0);
        x.dies(0);
        Check.due("nobody", x.fewest(0), 0);
    }

    private static void count() {
        StoneVillage x = Check.village(50, 20, 40);
        x.stone(2, 2);
        x.stone(2, -1);
        x.act(0, 0, 0, 0, 0, 4);
        x.act(5, 0, 1, 0, 2, 0);
        x.act(6, 0, 1, 0, 2, 5);
        x.years(9);
        x.cross(1);
        x.dies(1);
        int[] want = {3, 2, 2, 2, 3, 1, 1, 1, 1, 9};
        for (int what = 0; what < want.length; what++) Check.due("count " + what, x.count(what), want[what]);
        Check.due("count 10", x.count(10), Check.BAD);
        Check.due("count -1", x.count(-1), Check.BAD);
        Check.due("count MIN", x.count(Integer.MIN_VALUE), Check.BAD);
        x.tell(0, 1, 0);
        x.dies(0);
        x.dies(2);
        Check.due("all forgotten", x.count(5), 3);
        Check.due("strong ones stay", x.count(6), 1);
        Check.due("old", x.count(2), 0);
    }
}
