/** Promises 1 to 5: a new object, person, years, dies, told. */
public final class PeopleTest {
    public static void main(String[] args) {
        newObject();
        person();
        years();
        agesBecomeOld();
        dies();
        told();
        Check.end();
    }

    private static void newObject() {
        StoneVillage x = new StoneVillage();
        for (int what = 0; what <= 9; what++) Check.due("new: count " + what, x.count(what), 0);
        Check.due("new: told", x.told(0, 0), Check.BAD);
        Check.due("new: about", x.about(0, 0), Check.BAD);
        Check.due("new: kept", x.kept(0), Check.BAD);
        Check.due("new: split", x.split(), 0);
        Check.due("new: ban", x.ban(0), 0);
        Check.due("new: worked", x.worked(0), Check.BAD);
        for (int sheet = 0; sheet < 4; sheet++) Check.due("new: drop", x.drop(sheet), Check.NULL);
        StoneVillage y = new StoneVillage();
        Check.due("first of x", x.person(3), 0);
        Check.due("y is another one", y.count(0), 0);
    }

    private static void person() {
        StoneVillage x = new StoneVillage();
        Check.due("person(-1)", x.person(-1), Check.BAD);
        Check.due("person(61)", x.person(61), Check.BAD);
        Check.due("person(MAX)", x.person(Integer.MAX_VALUE), Check.BAD);
        Check.due("person(MIN)", x.person(Integer.MIN_VALUE), Check.BAD);
        Check.due("nobody came", x.count(0), 0);
        Check.due("person(0)", x.person(0), 0);
        Check.due("person(60)", x.person(60), 1);
        Check.due("age 0", x.told(0, 0), 0);
        Check.due("age 60", x.told(1, 0), 60);
        Check.due("dies", x.dies(0), 0);
        for (int i = 2; i < 16; i++) Check.due("person " + i, x.person(i), i);
        Check.due("a dead one keeps the place", x.person(1), Check.FULL);
        Check.due("BAD ahead of FULL", x.person(61), Check.BAD);
        Check.due("people", x.count(0), 16);
        Check.due("who live", x.count(1), 15);
    }

    private static void years() {
        StoneVillage x = Check.village(10);
        Check.due("years(0)", x.years(0), Check.BAD);
        Check.due("years(-1)", x.years(-1), Check.BAD);
        Check.due("years(51)", x.years(51), Check.BAD);
        Check.due("years(MAX)", x.years(Integer.MAX_VALUE), Check.BAD);
        Check.due("years(1)", x.years(1), 1);
        Check.due("age", x.told(0, 0), 11);
        for (int i = 1; i < 20; i++) Check.due("years(50)", x.years(50), 1 + 50 * i);
        Check.due("now 951", x.count(9), 951);
        Check.due("to 1001", x.years(50), Check.FULL);
        Check.due("BAD ahead of FULL", x.years(51), Check.BAD);
        Check.due("refused: now", x.count(9), 951);
        Check.due("refused: age", x.told(0, 0), 961);
        Check.due("to 1000", x.years(49), 1000);
        Check.due("beyond", x.years(1), Check.FULL);
        Check.due("age at last", x.told(0, 0), 1010);
    }

    private static void agesBecomeOld() {
        StoneVillage x = Check.village(38, 39, 40);
        Check.due("39 isn't old", x.told(1, 2), 0);
        Check.due("40 is old", x.told(2, 2), 1);
        Check.due("old", x.count(2), 1);
        x.years(1);
        Check.due("39 became old", x.told(1, 2), 1);
        Check.due("38 did not", x.told(0, 2), 0);
        Check.due("old later", x.count(2), 2);
        x.dies(2);
        Check.due("the dead are not old", x.told(2, 2), 0);
        x.years(50);
        Check.due("the dead grow no older", x.told(2, 0), 41);
        Check.due("the dead don't become old", x.told(2, 2), 0);
        Check.due("old at last", x.count(2), 2);
    }

    private static void dies() {
        StoneVillage x = Check.village(50, 20, 20);
        x.stone(2, 2);
        x.act(0, 0, 0, 0, 0, 0);
        x.act(5, 0, 0, 0, 3, 2);
        x.act(5, 0, 1, 0, 3, 0);
        Check.due("dies(-1)", x.dies(-1), Check.BAD);
        Check.due("dies(3)", x.dies(3), Check.BAD);
        Check.due("one act goes with 0", x.dies(0), 1);
        Check.due("twice", x.dies(0), Check.NOT);
        Check.due("forgotten", x.count(5), 1);
        Check.due("who live", x.count(1), 2);
        Check.due("nothing goes with 2", x.dies(2), 0);
        Check.due("two go with 1", x.dies(1), 2);
        Check.due("all forgotten", x.count(5), 3);
        Check.due("acts stay", x.count(4), 3);
        Check.due("people stay", x.count(0), 3);
    }

    private static void told() {
        StoneVillage x = Check.village(50, 39);
        x.stone(2, 2);
        x.act(0, 0, 0, 0, 0, 2);
        x.act(6, 0, 0, 0, 0, 0);
        Check.due("age", x.told(0, 0), 50);
        Check.due("lives", x.told(0, 1), 1);
        Check.due("old", x.told(0, 2), 1);
        Check.due("knows two", x.told(0, 3), 2);
        Check.due("not old", x.told(1, 2), 0);
        Check.due("knows one", x.told(1, 3), 1);
        Check.due("what 4", x.told(0, 4), Check.BAD);
        Check.due("what -1", x.told(0, -1), Check.BAD);
        Check.due("who 2", x.told(2, 0), Check.BAD);
        Check.due("who -1", x.told(-1, 0), Check.BAD);
        Check.due("who 16", x.told(16, 0), Check.BAD);
        x.dies(0);
        Check.due("dead: age", x.told(0, 0), 50);
        Check.due("dead: lives", x.told(0, 1), 0);
        Check.due("dead: old", x.told(0, 2), 0);
        Check.due("dead: knows", x.told(0, 3), 0);
    }
}
