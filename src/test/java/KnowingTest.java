/** Promises 12 to 20: parts, bound, holds, owner, worth, wealth, quarrel, weight, split. */
public final class KnowingTest {
    public static void main(String[] args) {
        refusals();
        partsMove();
        partsOfOneFounder();
        partsDependOnWhatOneKnows();
        boundAndFreed();
        freedNeedsItsPledge();
        holds();
        agreed();
        owner();
        worth();
        wealth();
        weightAndQuarrel();
        quarrelByDepth();
        quarrelByWeightAheadOfDepth();
        quarrelLooksAtGettersAndThisStone();
        split();
        Check.end();
    }

    private static void refusals() {
        StoneVillage x = Check.village(50, 50);
        x.stone(2, 2);
        x.act(0, 0, 0, 0, 0, 0);
        x.dies(1);
        int[] nobody = {-2, 2, 16, Integer.MIN_VALUE, Integer.MAX_VALUE};
        for (int who : nobody) {
            Check.due("parts of who " + who, x.parts(who, 0, 0), Check.BAD);
            Check.due("bound of who " + who, x.bound(who, 0, 0), Check.BAD);
            Check.due("holds of who " + who, x.holds(who, 0), Check.BAD);
            Check.due("owner of who " + who, x.owner(who, 0), Check.BAD);
            Check.due("worth of who " + who, x.worth(who, 0), Check.BAD);
            Check.due("wealth of who " + who, x.wealth(who, 0), Check.BAD);
        }
        for (int none : new int[] {-1, 1, 2, 8}) {
            int one = none == 1 ? 2 : none;
            Check.due("parts of stone " + none, x.parts(0, none, 0), Check.BAD);
            Check.due("parts of owner " + one, x.parts(0, 0, one), Check.BAD);
            Check.due("bound of stone " + none, x.bound(0, none, 0), Check.BAD);
            Check.due("bound of owner " + one, x.bound(0, 0, one), Check.BAD);
            Check.due("holds of act " + none, x.holds(0, none), Check.BAD);
            Check.due("owner of stone " + none, x.owner(0, none), Check.BAD);
            Check.due("worth of stone " + none, x.worth(0, none), Check.BAD);
            Check.due("wealth of owner " + one, x.wealth(0, one), Check.BAD);
            Check.due("quarrel of stone " + none, x.quarrel(none, 0, 1), Check.BAD);
            Check.due("quarrel of a " + one, x.quarrel(0, one, 1), Check.BAD);
            Check.due("quarrel of b " + one, x.quarrel(0, 0, one), Check.BAD);
            Check.due("weight of stone " + none, x.weight(none, 0, 1), Check.BAD);
            Check.due("weight of a " + one, x.weight(0, one, 1), Check.BAD);
            Check.due("weight of b " + one, x.weight(0, 0, one), Check.BAD);
        }
        Check.due("parts: dead", x.parts(1, 0, 0), Check.NOT);
        Check.due("bound: dead", x.bound(1, 0, 0), Check.NOT);
        Check.due("holds: dead", x.holds(1, 0), Check.NOT);
        Check.due("owner: dead", x.owner(1, 0), Check.NOT);
        Check.due("worth: dead", x.worth(1, 0), Check.NOT);
        Check.due("wealth: dead", x.wealth(1, 0), Check.NOT);
        Check.due("parts: BAD ahead of NOT", x.parts(1, 1, 0), Check.BAD);
        Check.due("bound: BAD ahead of NOT", x.bound(1, 0, 2), Check.BAD);
        Check.due("holds: BAD ahead of NOT", x.holds(1, 1), Check.BAD);
        Check.due("owner: BAD ahead of NOT", x.owner(1, 1), Check.BAD);
        Check.due("worth: BAD ahead of NOT", x.worth(1, 1), Check.BAD);
        Check.due("wealth: BAD ahead of NOT", x.wealth(1, 2), Check.BAD);
        Check.due("a dead owner is one", x.parts(0, 0, 1), 0);
        Check.due("a dead one's quarrel is one", x.quarrel(0, 1, 0), 0);
    }

    private static void partsMove() {
        StoneVillage x = Check.village(50, 20, 20);
        x.stone(2, 2);
        x.stone(2, 2);
        x.act(1, 0, 0, 1, 1, 0);
        Check.due("nothing to give ahead of found", x.parts(0, 0, 1), 0);
        x.act(0, 0, 0, 0, 0, 0);
        Check.due("found: all 12", x.parts(0, 0, 0), 12);
        Check.due("of the other stone", x.parts(0, 1, 0), 0);
        x.act(1, 0, 0, 1, 5, 0);
        x.act(2, 0, 0, 2, 7, 0);
        Check.due("all given", x.parts(0, 0, 0), 0);
        Check.due("given", x.parts(0, 0, 1), 5);
        Check.due("bride stone", x.parts(0, 0, 2), 7);
        Check.due("it binds nothing", x.bound(0, 0, 0), 0);
        x.act(1, 0, 0, 1, 1, 0);
        Check.due("nothing left to give", x.parts(0, 0, 1), 5);
        x.act(1, 0, 1, 2, 6, 1);
        Check.due("more than one has", x.parts(0, 0, 2), 7);
        x.act(1, 0, 1, 2, 5, 1);
        Check.due("all that one has", x.parts(0, 0, 2), 12);
        x.act(6, 0, 1, 0, 0, 1);
        Check.due("seized moves nothing", x.parts(0, 0, 2), 12);
        x.dies(2);
        Check.due("the dead keep theirs", x.parts(0, 0, 2), 12);
    }

    private static void partsOfOneFounder() {
        StoneVillage x = Check.village(50, 20);
        x.stone(2, 2);
        x.stone(2, 2);
        x.act(0, 0, 1, 0, 0, 0);
        x.act(0, 0, 0, 0, 0, 2);
        x.act(0, 1, 0, 0, 0, 2);
        Check.due("0 heard of one founder", x.parts(0, 0, 0), 12);
        Check.due("1 of another ahead", x.parts(1, 0, 1), 12);
        Check.due("so not of the second", x.parts(1, 0, 0), 0);
        Check.due("the other stone's is its own", x.parts(1, 1, 0), 12);
        x.act(0, 0, 0, 0, 0, 2);
        Check.due("the first stays the founder, of each stone", x.parts(1, 0, 1), 12);
        Check.due("and the second none", x.parts(1, 0, 0), 0);
        x.tell(1, 0, 0);
        Check.due("told of the first", x.parts(0, 0, 0), 0);
        Check.due("which holds now", x.parts(0, 0, 1), 12);
    }

    private static void partsDependOnWhatOneKnows() {
        StoneVillage x = Check.village(20, 20, 20);
        x.stone(2, 2);
        x.act(0, 0, 0, 0, 0, 2);
        x.act(1, 0, 0, 1, 8, 0);
        x.act(1, 0, 0, 2, 8, 2);
        Check.due("0 gave 8 to 1 first", x.parts(0, 0, 1), 8);
        Check.due("so none to 2", x.parts(0, 0, 2), 0);
        Check.due("1 knows of 8 to 2 alone", x.parts(1, 0, 2), 8);
        Check.due("1 of itself", x.parts(1, 0, 1), 0);
        Check.due("2 knows nothing", x.parts(2, 0, 0), 0);
        x.tell(0, 1, 1);
        Check.due("told, in the acts' order", x.parts(1, 0, 1), 8);
        Check.due("and the later falls", x.parts(1, 0, 2), 0);
    }

    private static void boundAndFreed() {
        StoneVillage x = Check.village(50, 20);
        x.stone(2, 2);
        x.stone(2, 2);
        x.act(0, 0, 0, 0, 0, 0);
        x.act(3, 0, 0, 1, 5, 0);
        Check.due("bound", x.bound(0, 0, 0), 5);
        Check.due("of the other", x.bound(0, 0, 1), 0);
        Check.due("of the other stone", x.bound(0, 1, 0), 0);
        Check.due("they stay the giver's", x.parts(0, 0, 0), 12);
        Check.due("and none the getter's", x.parts(0, 0, 1), 0);
        x.act(1, 0, 0, 1, 8, 0);
        Check.due("bound ones can't be given", x.parts(0, 0, 1), 0);
        x.act(3, 0, 0, 1, 8, 0);
        Check.due("nor pledged", x.bound(0, 0, 0), 5);
        x.act(3, 0, 0, 1, 4, 0);
        Check.due("pledged together", x.bound(0, 0, 0), 9);
        x.act(1, 0, 0, 1, 3, 0);
        Check.due("the rest can be given", x.parts(0, 0, 0), 9);
        x.act(4, 0, 0, 1, 0, 0);
        Check.due("freed: the pledge's own number", x.bound(0, 0, 0), 4);
        x.act(4, 0, 0, 1, 0, 0);
        Check.due("freed but once", x.bound(0, 0, 0), 4);
        x.act(1, 0, 0, 1, 5, 0);
        Check.due("freed ones can be given", x.parts(0, 0, 1), 8);
        x.act(4, 0, 0, 3, 0, 0);
        Check.due("of a pledge that does not hold", x.bound(0, 0, 0), 4);
        x.act(4, 0, 0, 4, 0, 0);
        Check.due("freed at last", x.bound(0, 0, 0), 0);
        x.act(4, 0, 0, 1, 0, 0);
        Check.due("the first is not freed anew", x.holds(0, 11), 0);
        Check.due("nor is it told as less than none", x.bound(0, 0, 0), 0);
    }

    private static void freedNeedsItsPledge() {
        StoneVillage x = Check.village(20, 20, 20);
        x.stone(2, 2);
        x.act(0, 0, 0, 0, 0, 6);
        x.act(3, 0, 0, 1, 5, 2);
        x.act(4, 0, 0, 1, 0, 4);
        Check.due("the pledge is not known to 2", x.holds(2, 2), 0);
        Check.due("2: bound", x.bound(2, 0, 0), 0);
        Check.due("freed is not known to 1", x.bound(1, 0, 0), 5);
        Check.due("0: bound", x.bound(0, 0, 0), 0);
        x.tell(1, 2, 1);
        Check.due("now it is known to 2", x.holds(2, 2), 1);
    }

    private static void holds() {
        StoneVillage x = Check.village(20, 20);
        x.stone(2, 2);
        x.act(5, 0, 0, 0, 3, 0);
        x.act(6, 0, 0, 0, 0, 0);
        x.act(1, 0, 0, 1, 1, 0);
        x.act(0, 0, 0, 0, 0, 0);
        x.act(0, 0, 0, 0, 0, 0);
        x.act(2, 0, 0, 1, 12, 0);
        x.act(3, 0, 0, 1, 1, 0);
        x.act(3, 0, 1, 0, 12, 1);
        x.act(4, 0, 1, 7, 0, 1);
        x.act(4, 0, 1, 7, 0, 1);
        int[] want = {1, 0, 0, 1, 0, 1, 0, 1, 1, 0};
        for (int act = 0; act < want.length; act++) Check.due("holds " + act, x.holds(0, act), want[act]);
        Check.due("1 does not know it", x.holds(1, 0), Check.NONE);
        Check.due("1 knows it, but not of the bride stone", x.holds(1, 7), 0);
        Check.due("no such act", x.holds(0, 10), Check.BAD);
        StoneVillage y = Check.village(20, 20);
        y.stone(2, 2);
        y.act(3, 0, 0, 1, 1, 0);
        y.act(4, 0, 0, 0, 0, 0);
        Check.due("the very first act, a pledge of nothing", y.holds(0, 0), 0);
        Check.due("it can't be freed", y.holds(0, 1), 0);
    }

    private static void agreed() {
        StoneVillage x = Check.village(50, 50, 20, 50);
        x.stone(2, 2);
        x.act(0, 0, 2, 0, 0, 11);
        x.act(3, 0, 2, 0, 4, 3);
        x.act(1, 0, 2, 1, 3, 2);
        Check.due("known to all of old", x.parts(-1, 0, 2), 12);
        Check.due("holds in it", x.holds(-1, 0), 1);
        Check.due("the pledge is strong", x.about(1, 6), 1);
        Check.due("but not known to 3", x.holds(-1, 1), Check.NONE);
        Check.due("not bound", x.bound(-1, 0, 2), 0);
        x.tell(0, 3, 1);
        Check.due("told to 3", x.bound(-1, 0, 2), 4);
        x.tell(1, 0, 2);
        x.tell(1, 3, 2);
        Check.due("a weak one never", x.holds(-1, 2), Check.NONE);
        Check.due("no parts by it", x.parts(-1, 0, 1), 0);
        x.person(39);
        Check.due("one who isn't old matters not", x.parts(-1, 0, 2), 12);
        x.years(1);
        Check.due("one who is and knows nothing does", x.parts(-1, 0, 2), 0);
        Check.due("holds", x.holds(-1, 0), Check.NONE);
        Check.due("owner", x.owner(-1, 0), Check.NONE);
        x.dies(4);
        Check.due("till dead", x.parts(-1, 0, 2), 12);
        x.act(5, 0, 1, 0, 10, 8);
        Check.due("the first one of old counts as the others do", x.holds(-1, 3), Check.NONE);
        x.tell(1, 0, 3);
        Check.due("told, it is agreed", x.holds(-1, 3), 1);
        Check.due("wealth", x.wealth(-1, 2), 8);
        x.act(1, 0, 2, 1, 9, 3);
        Check.due("it holds for 0 not, who knows of the pledge", x.about(4, 6), 0);
        x.dies(0);
        x.dies(1);
        x.dies(3);
        Check.due("none of old", x.parts(-1, 0, 2), 0);
        Check.due("nothing is agreed", x.holds(-1, 0), Check.NONE);
        Check.due("worth agreed by nobody", x.worth(-1, 0), 4);
    }

    private static void owner() {
        StoneVillage x = Check.village(20, 20, 20);
        x.stone(2, 2);
        Check.due("nobody", x.owner(0, 0), Check.NONE);
        x.act(0, 0, 2, 0, 0, 1);
        Check.due("the finder", x.owner(0, 0), 2);
        Check.due("1 knows nothing", x.owner(1, 0), Check.NONE);
        x.act(1, 0, 2, 1, 6, 1);
        Check.due("of like ones the least number", x.owner(0, 0), 1);
        x.act(1, 0, 1, 0, 1, 1);
        Check.due("the most", x.owner(0, 0), 2);
        x.dies(2);
        Check.due("a dead one too", x.owner(0, 0), 2);
        x.act(1, 0, 1, 0, 5, 1);
        Check.due("like ones again", x.owner(0, 0), 0);
        StoneVillage y = Check.village(20, 20, 20, 20, 20, 20, 20, 20, 20, 20, 20, 20, 20, 20, 20, 20);
        y.stone(2, 2);
        y.act(0, 0, 3, 0, 0, 0);
        for (int to = 4; to < 16; to++) y.act(1, 0, 3, to, 1, 0);
        Check.due("one part is the most", y.owner(3, 0), 4);
        Check.due("nobody is old", x.owner(-1, 0), Check.NONE);
    }

    private static void worth() {
        StoneVillage x = Check.village(50, 20);
        x.stone(7, 2);
        x.stone(40, 2);
        Check.due("size alone", x.worth(0, 0), 49);
        x.act(5, 0, 0, 0, 3, 0);
        Check.due("63.7 is cut down", x.worth(0, 0), 63);
        x.act(2, 0, 0, 1, 3, 0);
        Check.due("a bride stone that does not hold", x.worth(0, 0), 63);
        x.act(0, 0, 0, 0, 0, 0);
        x.act(1, 0, 0, 1, 3, 0);
        Check.due("given adds nothing", x.worth(0, 0), 63);
        x.act(2, 0, 0, 1, 3, 0);
        Check.due("a bride stone that holds", x.worth(0, 0), 88);
        x.act(5, 0, 1, 0, 20, 0);
        Check.due("a tale not known", x.worth(0, 0), 88);
        Check.due("known to 1 alone", x.worth(1, 0), 147);
        x.tell(1, 0, 5);
        Check.due("told", x.worth(0, 0), 186);
        Check.due("the other stone's is its own", x.worth(0, 1), 1600);
        Check.due("agreed", x.worth(-1, 0), 88);
    }

    private static void wealth() {
        StoneVillage x = Check.village(50, 20);
        x.stone(3, 2);
        x.stone(5, -1);
        x.stone(4, 2);
        x.act(0, 0, 0, 0, 0, 0);
        x.act(0, 1, 0, 0, 0, 0);
        x.act(0, 2, 0, 0, 0, 0);
        Check.due("all", x.wealth(0, 0), 9 + 25 + 16);
        x.act(1, 0, 0, 1, 1, 0);
        x.act(1, 1, 0, 1, 1, 0);
        Check.due("each is cut down", x.wealth(0, 1), 0 + 2);
        Check.due("the giver's", x.wealth(0, 0), 8 + 22 + 16);
        x.act(5, 2, 0, 0, 20, 0);
        Check.due("with a tale", x.wealth(0, 0), 8 + 22 + 48);
        x.act(3, 2, 0, 1, 12, 0);
        Check.due("pledged ones are the giver's", x.wealth(0, 0), 8 + 22 + 48);
        Check.due("1 knows nothing", x.wealth(1, 0), 0);
        Check.due("agreed", x.wealth(-1, 0), 8 + 22 + 48);
    }

    private static void weightAndQuarrel() {
        StoneVillage x = Check.village(50, 50, 50, 20, 20, 20);
        x.stone(2, 2);
        Check.due("none: nobody", x.quarrel(0, 3, 4), Check.NONE);
        Check.due("like ones", x.quarrel(0, 3, 3), Check.BAD);
        Check.due("weight of like ones", x.weight(0, 3, 3), Check.BAD);
        Check.due("weight of like ones of old", x.weight(0, 0, 0), Check.BAD);
        x.act(0, 0, 3, 0, 0, 7);
        Check.due("all of old", x.weight(0, 3, 4), 3);
        Check.due("weight of like ones with parts", x.weight(0, 3, 3), Check.BAD);
        Check.due("none", x.weight(0, 4, 3), 0);
        Check.due("wins", x.quarrel(0, 4, 3), 3);
        x.act(1, 0, 3, 4, 6, 1);
        Check.due("like parts count for neither", x.weight(0, 3, 4), 2);
        Check.due("nor for the other", x.weight(0, 4, 3), 0);
        x.act(1, 0, 3, 4, 7, 6);
        Check.due("two for 4", x.weight(0, 4, 3), 2);
        Check.due("none for 3", x.weight(0, 3, 4), 0);
        Check.due("4 wins", x.quarrel(0, 3, 4), 4);
        x.act(1, 0, 3, 5, 12, 0);
        Check.due("the young have no weight", x.weight(0, 5, 3), 0);
        x.dies(1);
        Check.due("nor the dead", x.weight(0, 4, 3), 1);
        Check.due("a dead one's quarrel", x.quarrel(0, 1, 4), 4);
    }

    private static void quarrelByDepth() {
        StoneVillage x = Check.village(50, 50, 20, 20, 20);
        x.stone(2, 2);
        x.act(0, 0, 2, 0, 0, 1);
        x.act(0, 0, 3, 0, 0, 0);
        x.tell(3, 1, 1);
        Check.due("like weights", x.weight(0, 2, 3) - x.weight(0, 3, 2), 0);
        Check.due("2's at depth 0, 3's at 1", x.quarrel(0, 2, 3), 2);
        Check.due("whichever is named first", x.quarrel(0, 3, 2), 2);
        x.act(5, 0, 3, 0, 1, 2);
        Check.due("any act of 3 heard at depth 0 counts", x.quarrel(0, 3, 2), Check.NONE);
        x.act(6, 0, 2, 0, 0, 2);
        Check.due("but not with one of old who is for the other", x.quarrel(0, 3, 2), Check.NONE);
        StoneVillage y = Check.village(50, 50, 20, 20, 20);
        y.stone(2, 2);
        y.act(0, 0, 2, 0, 0, 0);
        y.act(0, 0, 3, 0, 0, 0);
        y.tell(2, 0, 0);
        y.tell(3, 4, 1);
        y.tell(4, 1, 1);
        Check.due("depth 1 against depth 2", y.quarrel(0, 3, 2), 2);
        y.act(6, 0, 3, 0, 0, 1);
        Check.due("what one for the other heard counts not", y.quarrel(0, 3, 2), 2);
        y.act(6, 0, 3, 0, 0, 2);
        Check.due("a seized counts too", y.quarrel(0, 3, 2), 3);
    }

    private static void quarrelByWeightAheadOfDepth() {
        StoneVillage x = Check.village(50, 50, 50, 20, 20);
        x.stone(2, 2);
        x.act(0, 0, 3, 0, 0, 1);
        x.act(0, 0, 4, 0, 0, 0);
        x.tell(4, 1, 1);
        x.tell(4, 2, 1);
        Check.due("two who heard against one who saw", x.quarrel(0, 3, 4), 4);
        Check.due("whichever is named first", x.quarrel(0, 4, 3), 4);
    }

    private static void quarrelLooksAtGettersAndThisStone() {
        StoneVillage x = Check.village(50, 50, 20, 20, 20);
        x.stone(2, 2);
        x.stone(2, 2);
        x.act(0, 0, 2, 0, 0, 0);
        x.act(0, 0, 3, 0, 0, 0);
        x.tell(2, 0, 0);
        x.tell(3, 4, 1);
        x.tell(4, 1, 1);
        x.act(5, 1, 3, 0, 1, 2);
        Check.due("an act of another stone counts not", x.quarrel(0, 2, 3), 2);
        x.act(5, 0, 4, 3, 3, 2);
        Check.due("a tale's b is nobody", x.quarrel(0, 2, 3), 2);
        x.act(3, 0, 4, 3, 1, 2);
        Check.due("a pledge got counts, though it does not hold", x.quarrel(0, 2, 3), 3);
        StoneVillage y = Check.village(50, 50, 20, 20, 20);
        y.stone(2, 2);
        y.act(0, 0, 2, 0, 0, 0);
        y.act(0, 0, 3, 0, 0, 0);
        y.act(3, 0, 4, 2, 1, 0);
        y.act(3, 0, 4, 2, 1, 0);
        y.tell(2, 0, 0);
        y.tell(3, 4, 1);
        y.tell(4, 1, 1);
        y.act(4, 0, 4, 3, 0, 2);
        Check.due("a freed's b is an act, not one", y.quarrel(0, 2, 3), 2);
    }

    private static void split() {
        StoneVillage x = Check.village(50, 20, 20);
        x.stone(2, 2);
        x.stone(2, 2);
        x.stone(2, 2);
        x.act(0, 2, 1, 0, 0, 1);
        Check.due("one of old alone", x.split(), 0);
        x.person(40);
        Check.due("the other knows nothing", x.split(), 4);
        x.act(0, 0, 1, 0, 0, 8);
        Check.due("of two stones", x.split(), 5);
        x.person(40);
        x.tell(1, 3, 0);
        Check.due("the third differs", x.split(), 5);
        x.tell(1, 0, 1);
        x.tell(1, 4, 0);
        x.tell(1, 4, 1);
        Check.due("alike", x.split(), 0);
        x.act(3, 1, 1, 2, 4, 1);
        x.act(3, 0, 1, 2, 4, 1);
        Check.due("bound ones matter not", x.split(), 0);
        x.act(1, 0, 1, 2, 4, 8);
        Check.due("who has how many does", x.split(), 1);
        x.dies(3);
        Check.due("the dead do not", x.split(), 0);
        x.act(0, 1, 2, 0, 0, 2);
        Check.due("the young do not", x.split(), 0);
        StoneVillage y = Check.village(50, 50);
        y.stone(2, 2);
        y.act(0, 0, 0, 0, 0, 0);
        Check.due("about the first one's parts of the first stone", y.split(), 1);
    }
}
