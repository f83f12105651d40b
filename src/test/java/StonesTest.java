/** Promises 6, 7 and 27 to 29: stone, moves, cross, works, worked. */
public final class StonesTest {
    public static void main(String[] args) {
        stone();
        moves();
        seaChangesNothing();
        cross();
        works();
        worked();
        Check.end();
    }

    private static void stone() {
        StoneVillage x = new StoneVillage();
        Check.due("size 0", x.stone(0, 0), Check.BAD);
        Check.due("size 41", x.stone(41, 0), Check.BAD);
        Check.due("size MIN", x.stone(Integer.MIN_VALUE, 0), Check.BAD);
        Check.due("place -2", x.stone(1, -2), Check.BAD);
        Check.due("place 100", x.stone(1, 100), Check.BAD);
        Check.due("none came", x.count(3), 0);
        Check.due("size 1, place 0", x.stone(1, 0), 0);
        Check.due("size 40, place 99", x.stone(40, 99), 1);
        Check.due("in the sea", x.stone(5, -1), 2);
        for (int i = 3; i < 8; i++) Check.due("stone " + i, x.stone(i, 4), i);
        Check.due("a ninth", x.stone(1, 1), Check.FULL);
        Check.due("BAD ahead of FULL", x.stone(0, 1), Check.BAD);
        Check.due("stones", x.count(3), 8);
        Check.due("worth of size 1", x.worth(-1, 0), 1);
        Check.due("worth of size 40", x.worth(-1, 1), 1600);
    }

    private static void moves() {
        StoneVillage x = new StoneVillage();
        x.stone(1, 7);
        x.stone(1, -1);
        Check.due("no such stone", x.moves(2, 0), Check.BAD - 10);
        Check.due("stone -1", x.moves(-1, 0), Check.BAD - 10);
        Check.due("place 100", x.moves(0, 100), Check.BAD - 10);
        Check.due("place -2", x.moves(0, -2), Check.BAD - 10);
        Check.due("BAD ahead of NOT", x.moves(1, 100), Check.BAD - 10);
        Check.due("from the sea", x.moves(1, 3), Check.NOT - 10);
        Check.due("sinks again", x.moves(1, -1), Check.NOT - 10);
        Check.due("from 7 to 99", x.moves(0, 99), 7);
        Check.due("from 99 to 0", x.moves(0, 0), 99);
        Check.due("from 0 to 0", x.moves(0, 0), 0);
        Check.due("one in the sea", x.count(7), 1);
        Check.due("sinks", x.moves(0, -1), 0);
        Check.due("two in the sea", x.count(7), 2);
        Check.due("stays there", x.moves(0, 5), Check.NOT - 10);
    }

    private static void seaChangesNothing() {
        StoneVillage x = Check.village(50, 20);
        x.stone(10, 1);
        x.act(0, 0, 0, 0, 0, 0);
        x.moves(0, -1);
        Check.due("parts hold there", x.parts(0, 0, 0), 12);
        Check.due("an act of it", x.act(1, 0, 0, 1, 5, 2), 1);
        Check.due("it moves parts", x.parts(0, 0, 1), 5);
        Check.due("worth", x.worth(0, 0), 100);
        Check.due("a cross on it", x.cross(0), 10);
    }

    private static void cross() {
        StoneVillage x = Check.village(50);
        x.stone(3, 1);
        x.stone(40, 1);
        Check.due("no such", x.cross(2), Check.BAD);
        Check.due("stone -1", x.cross(-1), Check.BAD);
        Check.due("cross", x.cross(0), 3);
        Check.due("not two", x.cross(0), Check.NOT);
        Check.due("on another", x.cross(1), 40);
        Check.due("crosses", x.count(8), 2);
        Check.due("works", x.works(0, 0, 2), 1);
        Check.due("still there", x.cross(0), Check.NOT);
        Check.due("and counted", x.count(8), 2);
        Check.due("goes by work", x.works(0, 0, 1), 0);
        Check.due("crosses later", x.count(8), 1);
        Check.due("painted anew", x.cross(0), 3);
        Check.due("crosses at last", x.count(8), 2);
    }

    private static void works() {
        StoneVillage x = Check.village(50, 5, 20);
        x.stone(40, 1);
        x.stone(7, 1);
        Check.due("no cross", x.works(0, 0, 1), Check.NOT);
        x.cross(0);
        x.cross(1);
        x.dies(2);
        Check.due("days 0", x.works(0, 0, 0), Check.BAD);
        Check.due("days 101", x.works(0, 0, 101), Check.BAD);
        Check.due("days MIN", x.works(0, 0, Integer.MIN_VALUE), Check.BAD);
        Check.due("no such one", x.works(3, 0, 1), Check.BAD);
        Check.due("who -1", x.works(-1, 0, 1), Check.BAD);
        Check.due("no such stone", x.works(0, 2, 1), Check.BAD);
        Check.due("dead", x.works(2, 0, 1), Check.NOT);
        Check.due("BAD ahead of NOT", x.works(2, 0, 101), Check.BAD);
        Check.due("15 days", x.works(0, 0, 15), 25);
        Check.due("10 days of a child", x.works(1, 0, 10), 15);
        Check.due("more than owed", x.works(0, 0, 100), 0);
        Check.due("it is gone", x.works(0, 0, 1), Check.NOT);
        Check.due("the other stays", x.works(0, 1, 1), 6);
    }

    private static void worked() {
        StoneVillage x = Check.village(50, 20);
        x.stone(10, 1);
        x.stone(4, 1);
        Check.due("nothing yet", x.worked(0), 0);
        Check.due("no such", x.worked(2), Check.BAD);
        Check.due("who -1", x.worked(-1), Check.BAD);
        x.cross(0);
        x.cross(1);
        x.works(0, 0, 4);
        x.works(0, 1, 3);
        Check.due("together", x.worked(0), 7);
        x.works(1, 0, 100);
        Check.due("only as many as owed", x.worked(1), 6);
        x.works(1, 0, 5);
        Check.due("refused is not counted", x.worked(1), 6);
        x.dies(0);
        Check.due("of a dead one", x.worked(0), 7);
    }
}
