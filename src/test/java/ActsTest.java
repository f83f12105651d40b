/** Promises 8 to 11: act, about, knows, tell. */
public final class ActsTest {
    public static void main(String[] args) {
        actIsRefused();
        pledgeOfFreed();
        actFull();
        about();
        strong();
        strongWithFewOld();
        knows();
        tell();
        tellRefused();
        Check.end();
    }

    private static void actIsRefused() {
        StoneVillage x = Check.village(50, 20, 20);
        x.stone(2, 2);
        x.dies(2);
        int[][] bad = {
            {-1, 0, 0, 0, 0, 0}, {7, 0, 0, 0, 0, 0}, {0, 1, 0, 0, 0, 0}, {0, -1, 0, 0, 0, 0},
            {0, 0, -1, 0, 0, 0}, {0, 0, 3, 0, 0, 0}, {0, 0, 2, 0, 0, 0}, {0, 0, 16, 0, 0, 0},
            {0, 0, 0, 0, 0, 4}, {0, 0, 0, 0, 0, 8}, {0, 0, 0, 0, 0, -1}, {0, 0, 0, 0, 0, Integer.MIN_VALUE},
            {1, 0, 0, 0, 1, 0}, {2, 0, 1, 1, 1, 0}, {3, 0, 0, 0, 1, 0}, {1, 0, 0, 2, 1, 0}, {2, 0, 0, 3, 1, 0},
            {3, 0, 0, -1, 1, 0}, {3, 0, 0, 2, 1, 0}, {1, 0, 0, 1, 0, 0}, {1, 0, 0, 1, 13, 0}, {2, 0, 0, 1, 0, 0},
            {2, 0, 0, 1, 13, 0}, {3, 0, 0, 1, 0, 0}, {3, 0, 0, 1, 13, 0}, {1, 0, 0, 1, -5, 0},
            {5, 0, 0, 0, 0, 0}, {5, 0, 0, 0, 21, 0}, {5, 0, 0, 0, -1, 0}, {4, 0, 0, 0, 0, 0}, {4, 0, 0, -1, 0, 0},
            {6, 0, 2, 0, 0, 0},
        };
        for (int[] c : bad) Check.due("act " + c[0] + " .. n " + c[4], x.act(c[0], c[1], c[2], c[3], c[4], c[5]), Check.BAD);
        Check.due("nothing was done", x.count(4), 0);
        Check.due("nobody heard", x.told(0, 3), 0);
        int[][] good = {
            {0, 0, 0, -7, 99, 0}, {6, 0, 1, 77, -3, 0}, {5, 0, 0, -9, 1, 0}, {5, 0, 0, 0, 20, 3},
            {1, 0, 0, 1, 1, 0}, {2, 0, 1, 0, 12, 1}, {3, 0, 0, 1, 12, 2}, {4, 0, 0, 6, 55, 2},
        };
        for (int i = 0; i < good.length; i++) {
            int[] c = good[i];
            Check.due("good act " + i, x.act(c[0], c[1], c[2], c[3], c[4], c[5]), i);
        }
    }

    private static void pledgeOfFreed() {
        StoneVillage x = Check.village(50, 50);
        x.stone(2, 2);
        x.stone(2, 3);
        x.act(3, 0, 0, 1, 4, 0);
        x.act(1, 0, 0, 1, 4, 0);
        Check.due("not a pledge", x.act(4, 0, 0, 1, 0, 0), Check.BAD);
        Check.due("of another stone", x.act(4, 1, 0, 0, 0, 0), Check.BAD);
        Check.due("of another giver", x.act(4, 0, 1, 0, 0, 0), Check.BAD);
        Check.due("no such act", x.act(4, 0, 0, 2, 0, 0), Check.BAD);
        Check.due("its pledge has the giver's number", x.act(4, 0, 0, 0, 0, 0), 2);
        Check.due("freed again is an act", x.act(4, 0, 0, 0, 0, 0), 3);
    }

    private static void actFull() {
        StoneVillage x = Check.village(20);
        x.stone(2, 2);
        for (int i = 0; i < 60; i++) Check.due("act " + i, x.act(6, 0, 0, 0, 0, 0), i);
        Check.due("act 60", x.act(6, 0, 0, 0, 0, 0), Check.FULL);
        Check.due("BAD ahead of FULL", x.act(6, 1, 0, 0, 0, 0), Check.BAD);
        Check.due("acts", x.count(4), 60);
        Check.due("told 3", x.told(0, 3), 60);
        Check.due("last known", x.knows(0, 59), 0);
        Check.due("all forgotten", x.dies(0), 60);
    }

    private static void about() {
        StoneVillage x = Check.village(50, 20, 20);
        x.stone(2, 2);
        x.stone(2, 2);
        x.years(7);
        x.act(0, 1, 1, 2, 9, 0);
        x.act(2, 1, 1, 2, 9, 1);
        x.years(3);
        x.act(3, 1, 2, 0, 3, 0);
        x.act(4, 1, 2, 2, 8, 7);
        x.act(5, 0, 0, 1, 13, 4);
        x.act(6, 0, 2, 1, 13, 0);
        int[][] want = {
            {0, 1, 1, 0, 0, 7, 0, 2, 1}, {2, 1, 1, 2, 9, 7, 0, 3, 2}, {3, 1, 2, 0, 3, 10, 0, 4, 1},
            {4, 1, 2, 2, 0, 10, 0, 7, 3}, {5, 0, 0, 0, 13, 10, 1, 5, 2}, {6, 0, 2, 0, 0, 10, 0, 4, 1},
        };
        for (int act = 0; act < want.length; act++) {
            for (int what = 0; what <= 8; what++) {
                Check.due("about(" + act + ", " + what + ")", x.about(act, what), want[act][what]);
            }
        }
        Check.due("what 9", x.about(0, 9), Check.BAD);
        Check.due("what -1", x.about(0, -1), Check.BAD);
        Check.due("act 6", x.about(6, 0), Check.BAD);
        Check.due("act -1", x.about(-1, 0), Check.BAD);
        x.dies(2);
        Check.due("who stood by stay told", x.about(3, 7), 7);
        Check.due("a dead one knows no more", x.about(3, 8), 2);
        x.tell(0, 1, 4);
        Check.due("told on", x.about(4, 8), 2);
        Check.due("who stood by stay as they were", x.about(4, 7), 5);
    }

    private static void strong() {
        StoneVillage x = Check.village(50, 50, 50, 20);
        x.stone(2, 2);
        x.act(0, 0, 3, 0, 0, 1);
        Check.due("one of three old is too few", x.about(0, 6), 0);
        x.tell(0, 1, 0);
        x.tell(0, 2, 0);
        Check.due("told later it stays weak", x.about(0, 6), 0);
        x.act(1, 0, 3, 0, 4, 6);
        Check.due("two of old", x.about(1, 6), 1);
        x.act(1, 0, 3, 0, 12, 7);
        Check.due("it does not hold with 1 and 2", x.about(2, 6), 0);
        x.act(6, 0, 3, 0, 0, 15);
        Check.due("seized never", x.about(3, 6), 0);
        x.act(5, 0, 3, 0, 9, 8);
        Check.due("who is not old does not count", x.about(4, 6), 0);
        x.act(5, 0, 0, 0, 9, 9);
        Check.due("nor beside one of old", x.about(5, 6), 0);
        x.act(5, 0, 1, 0, 9, 1);
        Check.due("the doer counts", x.about(6, 6), 1);
        Check.due("strong acts", x.count(6), 2);
        x.dies(0);
        x.dies(1);
        x.dies(2);
        Check.due("it stays strong", x.about(6, 6), 1);
        Check.due("weak stays weak", x.about(4, 6), 0);
        Check.due("strong acts at last", x.count(6), 2);
    }

    private static void strongWithFewOld() {
        StoneVillage x = Check.village(39, 39);
        x.stone(2, 2);
        x.act(1, 0, 0, 1, 5, 0);
        Check.due("with none of old all of them agree", x.about(0, 6), 1);
        x.act(6, 0, 0, 0, 0, 0);
        Check.due("seized never, with none of old too", x.about(1, 6), 0);
        x.person(40);
        x.act(0, 0, 0, 0, 0, 2);
        Check.due("the one of old isn't there", x.about(2, 6), 0);
        x.act(5, 0, 0, 0, 3, 4);
        Check.due("the one of old is there", x.about(3, 6), 1);
        x.years(1);
        x.act(5, 0, 0, 0, 3, 4);
        Check.due("now two are needed, and are", x.about(4, 6), 1);
        x.act(5, 0, 0, 0, 3, 0);
        Check.due("one of three", x.about(5, 6), 0);
    }

    private static void knows() {
        StoneVillage x = Check.village(20, 20, 20);
        x.stone(2, 2);
        x.act(5, 0, 0, 0, 3, 2);
        Check.due("the doer", x.knows(0, 0), 0);
        Check.due("who stood by", x.knows(1, 0), 0);
        Check.due("another", x.knows(2, 0), Check.NONE);
        Check.due("who 3", x.knows(3, 0), Check.BAD);
        Check.due("who -1", x.knows(-1, 0), Check.BAD);
        Check.due("act 1", x.knows(0, 1), Check.BAD);
        Check.due("act -1", x.knows(0, -1), Check.BAD);
        x.dies(0);
        Check.due("dead", x.knows(0, 0), Check.NONE);
        Check.due("dead, no such act", x.knows(0, 1), Check.BAD);
        x.act(1, 0, 1, 2, 3, 0);
        Check.due("who gets need not stand by", x.knows(2, 1), Check.NONE);
    }

    private static void tell() {
        StoneVillage x = Check.village(20, 20, 20, 20, 20);
        x.stone(2, 2);
        x.act(5, 0, 0, 0, 3, 0);
        Check.due("depth 1", x.tell(0, 1, 0), 1);
        Check.due("depth 2", x.tell(1, 2, 0), 2);
        Check.due("depth 3", x.tell(2, 3, 0), 3);
        Check.due("depth 4", x.tell(3, 4, 0), 4);
        Check.due("a deeper telling changes nothing", x.tell(4, 1, 0), 1);
        Check.due("nor for who stood by", x.tell(4, 0, 0), 0);
        Check.due("a nearer telling does", x.tell(0, 3, 0), 1);
        Check.due("knows(3)", x.knows(3, 0), 1);
        Check.due("who heard of 3 stays", x.knows(4, 0), 4);
        Check.due("till told anew", x.tell(3, 4, 0), 2);
    }

    private static void tellRefused() {
        StoneVillage x = Check.village(20, 20, 20);
        x.stone(2, 2);
        x.act(5, 0, 0, 0, 3, 0);
        Check.due("to oneself", x.tell(0, 0, 0), Check.BAD);
        Check.due("from 3", x.tell(3, 0, 0), Check.BAD);
        Check.due("to 3", x.tell(0, 3, 0), Check.BAD);
        Check.due("to -1", x.tell(0, -1, 0), Check.BAD);
        Check.due("act 1", x.tell(0, 1, 1), Check.BAD);
        Check.due("act -1", x.tell(0, 1, -1), Check.BAD);
        Check.due("does not know it", x.tell(1, 2, 0), Check.NOT);
        x.ban(32);
        Check.due("banned", x.tell(0, 1, 0), Check.NOT);
        x.ban(127 - 32);
        Check.due("not banned", x.tell(0, 1, 0), 1);
        x.dies(2);
        Check.due("to the dead", x.tell(0, 2, 0), Check.NOT);
        Check.due("of a dead one, to itself", x.tell(2, 2, 0), Check.BAD);
        x.dies(0);
        Check.due("from the dead", x.tell(0, 1, 0), Check.NOT);
        Check.due("unchanged", x.knows(1, 0), 1);
    }
}
