/** Promises 12 to 20: each sentence of the document about them that names a boundary. */
public final class EdgesOfKnowingTest {
    private static final Story VILLAGE = Stories.village(), FULL = Stories.fullVillage(), LAST = Stories.lastYear();
    private static final Story TWO = Story.of("person 20; person 20; person 20; stone 1 1; stone 1 1");

    public static void main(String[] args) {
        numbers();
        theDead();
        badAheadOfNot();
        ofFullVillage();
        nothingIsKnown();
        found();
        asManyParts();
        notCountingBound();
        freed();
        talesAndSeized();
        holdsRefused();
        ownerOfLikeOnes();
        worthAndWealth();
        greatestWorth();
        agreed();
        weight();
        quarrelByWeight();
        quarrelByDepth();
        quarrelByNearest();
        quarrelOfLikeOnes();
        split();
        Check.end();
    }

    /** "(who; -1: AGREED). BAD": everybody's and everything's number just outside. */
    private static void numbers() {
        String[] ofWho = {"parts # 0 0", "bound # 0 0", "holds # 0", "owner # 0", "worth # 0", "wealth # 0"};
        for (String call : ofWho) {
            VILLAGE.takes(call, -1, 4, Check.BAD);
            FULL.takes(call, -1, 15, Check.BAD);
        }
        String[] ofStone = {"parts 0 # 0", "parts -1 # 0", "bound 0 # 0", "bound -1 # 0", "owner 0 #", "owner -1 #",
            "worth 0 #", "worth -1 #", "quarrel # 0 1", "weight # 0 1"};
        for (String call : ofStone) {
            VILLAGE.takes(call, 0, 2, Check.BAD);
            FULL.takes(call, 0, 7, Check.BAD);
        }
        String[] ofOne = {"parts 0 0 #", "parts -1 0 #", "bound 0 0 #", "bound -1 0 #", "wealth 0 #", "wealth -1 #"};
        for (String call : ofOne) {
            VILLAGE.takes(call, 0, 4, Check.BAD);
            FULL.takes(call, 0, 15, Check.BAD);
        }
        for (String call : new String[] {"holds 0 #", "holds -1 #"}) {
            VILLAGE.takes(call, 0, 6, Check.BAD);
            FULL.takes(call, 0, 59, Check.BAD);
        }
        for (String call : new String[] {"quarrel 0 # 2", "quarrel 0 2 #", "weight 0 # 2", "weight 0 2 #"}) {
            VILLAGE.takes(call, 0, 4, Check.BAD);
            FULL.takes(call, 0, 15, Check.BAD);
        }
    }

    /** "NOT: who is dead." The dead own, and may be quarrelled with, but are asked nothing. */
    private static void theDead() {
        String[] calls = {"parts 3 0 0", "bound 3 0 0", "holds 3 0", "holds 3 2", "owner 3 0", "worth 3 0", "wealth 3 0"};
        for (String call : calls) VILLAGE.refuses(call, Check.NOT);
        for (String call : calls) FULL.then("dies 3").refuses(call, Check.NOT);
        VILLAGE.answers("parts 0 0 3", 0);
        VILLAGE.answers("bound -1 0 3", 0);
        VILLAGE.answers("wealth 0 3", 0);
        VILLAGE.answers("weight 0 0 3", 3);
        VILLAGE.answers("weight 0 3 0", 0);
        VILLAGE.answers("quarrel 0 3 0", 0);
        Story dead = VILLAGE.then("dies 2");
        dead.answers("parts 0 0 2", 4);
        dead.answers("quarrel 0 2 3", 2);
        dead.answers("weight 0 2 3", 2);
        VILLAGE.then("dies 0").answers("owner 4 0", 0);
        VILLAGE.then("dies 0").answers("bound 2 0 0", 3);
        VILLAGE.then("dies 0").answers("holds 2 2", 1);
        VILLAGE.then("dies 0").answers("parts -1 0 0", 12);
        VILLAGE.then("dies 0").answers("wealth 4 0", 300);
    }

    /** "Of several the first that a call names": BAD stands ahead of NOT. */
    private static void badAheadOfNot() {
        String[] calls = {"parts 3 3 0", "parts 3 -1 0", "parts 3 0 5", "parts 3 0 -1", "bound 3 3 0", "bound 3 -1 0",
            "bound 3 0 5", "bound 3 0 -1", "holds 3 7", "holds 3 -1", "owner 3 3", "owner 3 -1", "worth 3 3", "worth 3 -1",
            "wealth 3 5", "wealth 3 -1", "holds 3 MAX", "holds 3 MIN"};
        for (String call : calls) VILLAGE.refuses(call, Check.BAD);
        // and ahead of NONE
        VILLAGE.refuses("owner 5 2", Check.BAD);
        VILLAGE.refuses("owner -2 2", Check.BAD);
        VILLAGE.refuses("holds 5 6", Check.BAD);
        VILLAGE.refuses("quarrel 2 1 5", Check.BAD);
    }

    /** 16 PEOPLE, 8 STONES, 60 ACTS: the last of each is looked at as the first is. */
    private static void ofFullVillage() {
        FULL.answers("parts 0 7 15", 11);
        FULL.answers("parts 0 7 7", 1);
        FULL.answers("parts 0 7 14", 0);
        FULL.answers("parts 15 7 15", 10);
        FULL.answers("parts 15 7 14", 1);
        FULL.answers("parts -1 7 15", 11);
        FULL.answers("holds 15 59", 1);
        FULL.refuses("holds 14 59", Check.NONE);
        FULL.refuses("holds -1 59", Check.NONE);
        FULL.answers("holds -1 58", 1);
        FULL.answers("owner 15 7", 15);
        FULL.answers("owner 0 0", 8);
        // 16 .. 58 are tales; 5 of them of stone 7
        FULL.answers("worth 0 7", 96);
        FULL.answers("wealth 0 15", 88);
        FULL.answers("wealth 15 15", 80);
        FULL.answers("wealth 15 14", 8 + 49 * 15 / 10 * 11 / 12);
        FULL.answers("weight 7 15 14", 6);
        FULL.answers("weight 7 7 14", 5);
        FULL.answers("weight 7 14 15", 0);
        FULL.answers("quarrel 7 14 15", 15);
        FULL.answers("quarrel 7 14 7", 7);
        FULL.answers("split", 128);
        FULL.then("feast 65535 15 7").answers("split", 0);
        FULL.then("dies 15").answers("split", 0);
        // one of each kind that holds, the last of 60
        Story last = TWO.times(54, "act 6 0 0 0 0 0").then("act 0 0 0 0 0 0; act 1 0 0 1 3 0; act 2 0 0 1 2 0; act 3 0 0 2 5 0")
            .then("act 4 0 0 57 0 0; act 5 0 0 0 15 0");
        for (int act = 54; act <= 59; act++) last.answers("holds 0 " + act, 1);
        last.answers("parts 0 0 0", 7);
        last.answers("parts 0 0 1", 5);
        last.answers("bound 0 0 0", 0);
        last.answers("worth 0 0", 3);
    }

    /** "Nobody, nothing": in the knowing of one who knows nothing nobody has any. */
    private static void nothingIsKnown() {
        Story s = TWO.then("act 0 0 0 0 0 0; act 3 0 0 1 5 0; act 5 0 0 0 9 0");
        s.answers("parts 1 0 0", 0);
        s.answers("bound 1 0 0", 0);
        s.refuses("owner 1 0", Check.NONE);
        s.answers("worth 1 0", 1);
        s.answers("wealth 1 0", 0);
        s.refuses("holds 1 0", Check.NONE);
        s.answers("parts -1 0 0", 0);
        s.answers("worth -1 0", 1);
        s.refuses("owner -1 0", Check.NONE);
        s.refuses("quarrel 0 0 1", Check.NONE);
        s.answers("weight 0 0 1", 0);
        s.answers("split", 0);
        LAST.refuses("owner 0 0", Check.NONE);
        LAST.answers("worth 0 0", 25);
    }

    /** "FOUND by one: all 12 PARTS are that one's", "if no FOUND of that STONE holds ahead". */
    private static void found() {
        TWO.then("act 0 0 0 0 0 0").answers("parts 0 0 0", 12);
        TWO.then("act 0 0 0 0 0 0; act 0 0 0 0 0 0").answers("holds 0 1", 0);
        TWO.then("act 0 0 0 0 0 0; act 0 0 0 0 0 0").answers("parts 0 0 0", 12);
        TWO.then("act 0 0 0 0 0 2; act 0 0 1 0 0 1").answers("holds 0 1", 0);
        TWO.then("act 0 0 0 0 0 2; act 0 0 1 0 0 1").answers("parts 1 0 1", 0);
        TWO.then("act 0 0 0 0 0 0; act 0 0 1 0 0 1").answers("holds 1 1", 1);
        TWO.then("act 0 0 0 0 0 0; act 0 0 1 0 0 1; tell 0 1 0").answers("holds 1 1", 0);
        TWO.then("act 0 0 0 0 0 0; act 0 1 1 0 0 1").answers("holds 0 1", 1);
        TWO.then("act 0 0 0 0 0 0; act 1 0 0 1 12 0; act 0 0 0 0 0 0").answers("holds 0 2", 0);
        TWO.then("act 0 0 0 0 0 0; act 0 1 0 0 0 0; act 0 0 0 0 0 0").answers("holds 0 2", 0);
    }

    /** "GIVEN, BRIDE STONE, PLEDGED, if the giver has as many PARTS". */
    private static void asManyParts() {
        for (int kind = 1; kind <= 3; kind++) {
            Story s = TWO.then("act 0 0 0 0 0 0; act 1 0 0 1 5 0");
            s.then("act " + kind + " 0 0 1 7 0").answers("holds 0 2", 1);
            s.then("act " + kind + " 0 0 1 8 0").answers("holds 0 2", 0);
            s.then("act " + kind + " 0 1 2 5 1").answers("holds 0 2", 1);
            s.then("act " + kind + " 0 1 2 6 1").answers("holds 0 2", 0);
            s.then("act " + kind + " 0 2 1 1 1").answers("holds 0 2", 0);
            s.then("act " + kind + " 1 0 1 1 0").answers("holds 0 2", 0);
            TWO.then("act 0 0 0 0 0 0; act " + kind + " 0 0 1 12 0").answers("holds 0 1", 1);
            // in their order: what is found later can't have been given
            TWO.then("act " + kind + " 0 0 1 1 0; act 0 0 0 0 0 0").answers("holds 0 0", 0);
            TWO.then("act " + kind + " 0 0 1 1 0").answers("holds 0 0", 0);
        }
        TWO.then("act 0 0 0 0 0 0; act 1 0 0 1 12 0").answers("parts 0 0 0", 0);
        TWO.then("act 0 0 0 0 0 0; act 1 0 0 1 12 0").answers("parts 0 0 1", 12);
        TWO.then("act 0 0 0 0 0 0; act 2 0 0 1 12 0").answers("parts 0 0 1", 12);
        TWO.then("act 0 0 0 0 0 0; act 3 0 0 1 12 0").answers("parts 0 0 1", 0);
        TWO.then("act 0 0 0 0 0 0; act 3 0 0 1 12 0").answers("bound 0 0 0", 12);
        TWO.then("act 0 0 0 0 0 0; act 1 0 0 1 4 0").answers("bound 0 0 0", 0);
        TWO.then("act 0 0 0 0 0 0; act 2 0 0 1 4 0").answers("bound 0 0 0", 0);
        TWO.then("act 0 0 0 0 0 0; act 2 0 0 1 4 0").answers("bound 0 0 1", 0);
        TWO.then("act 0 0 0 0 0 0; act 2 0 0 1 4 0; act 1 0 0 1 5 0").answers("parts 0 0 1", 9);
        TWO.then("act 0 0 0 0 0 0; act 2 0 0 1 4 0; act 1 0 0 1 5 0").answers("parts 0 0 0", 3);
        TWO.then("act 0 0 0 0 0 0; act 1 0 0 1 12 0; act 1 0 1 0 12 1").answers("parts 0 0 0", 12);
    }

    /** "not counting those BOUND"; "PLEDGED binds as many of the giver's till FREED". */
    private static void notCountingBound() {
        Story s = TWO.then("act 0 0 0 0 0 0; act 3 0 0 1 5 0");
        for (int kind = 1; kind <= 3; kind++) {
            s.then("act " + kind + " 0 0 1 7 0").answers("holds 0 2", 1);
            s.then("act " + kind + " 0 0 1 8 0").answers("holds 0 2", 0);
            s.then("act 4 0 0 1 0 0; act " + kind + " 0 0 1 12 0").answers("holds 0 3", 1);
            // ones got are not bound, and another's bound ones are another's
            s.then("act 1 0 0 1 7 0; act " + kind + " 0 1 2 7 1").answers("holds 0 3", 1);
            s.then("act 3 0 0 1 7 0; act " + kind + " 0 0 1 1 0").answers("holds 0 3", 0);
        }
        s.answers("bound 0 0 0", 5);
        s.answers("parts 0 0 0", 12);
        s.answers("bound 0 0 1", 0);
        s.answers("bound 0 1 0", 0);
    }

    /** "FREED, if its PLEDGE holds, and no FREED of it does yet". */
    private static void freed() {
        Story s = TWO.then("act 0 0 0 0 0 2; act 3 0 0 1 5 0; act 3 0 0 1 7 0; act 3 0 0 1 1 0");
        s.then("act 4 0 0 1 0 0").answers("holds 0 4", 1);
        s.then("act 4 0 0 1 0 0").answers("bound 0 0 0", 7);
        s.then("act 4 0 0 1 0 0; act 4 0 0 1 0 0").answers("holds 0 5", 0);
        s.then("act 4 0 0 1 0 0; act 4 0 0 1 0 0").answers("bound 0 0 0", 7);
        s.then("act 4 0 0 1 0 0; act 4 0 0 2 0 0").answers("bound 0 0 0", 0);
        s.then("act 4 0 0 1 0 0; act 4 0 0 2 0 0; act 4 0 0 1 0 0").answers("holds 0 6", 0);
        s.then("act 4 0 0 1 0 0; act 4 0 0 2 0 0; act 4 0 0 1 0 0").answers("bound 0 0 0", 0);
        s.then("act 4 0 0 3 0 0").answers("holds 0 4", 0);
        s.then("act 4 0 0 3 0 0").answers("bound 0 0 0", 12);
        s.then("act 4 0 0 1 0 2").answers("holds 1 4", 0);
        s.then("act 4 0 0 1 0 2; tell 0 1 1").answers("holds 1 4", 1);
        // a first FREED that one does not know is no FREED to that one
        s.then("act 4 0 0 1 0 0; act 4 0 0 1 0 2; tell 0 1 1").answers("holds 1 5", 1);
        s.then("act 4 0 0 1 0 0; act 4 0 0 1 0 2; tell 0 1 1").answers("holds 0 5", 0);
        // however far its pledge lies behind it, and whatever pledge it is
        Story far = TWO.then("act 0 0 0 0 0 0; act 3 0 0 1 5 0").times(31, "act 5 0 0 0 1 0").then("act 3 0 0 1 6 0");
        for (String both : new String[] {"act 4 0 0 1 0 0; act 4 0 0 33 0 0", "act 4 0 0 33 0 0; act 4 0 0 1 0 0"}) {
            far.then(both).answers("holds 0 34", 1);
            far.then(both).answers("holds 0 35", 1);
            far.then(both).answers("bound 0 0 0", 0);
        }
        far.then("act 4 0 0 1 0 0").answers("bound 0 0 0", 6);
        far.then("act 4 0 0 33 0 0").answers("bound 0 0 0", 5);
        // one that does not hold frees nothing, and does not stand in another's way
        s.then("act 4 0 0 1 0 0; act 3 0 0 1 5 0; act 4 0 0 5 0 0").answers("bound 0 0 0", 7);
    }

    /** "a TALE always; SEIZED never". */
    private static void talesAndSeized() {
        TWO.then("act 5 0 2 0 20 0").answers("holds 2 0", 1);
        TWO.then("act 5 0 2 0 20 0; act 5 0 2 0 20 0").answers("holds 2 1", 1);
        TWO.then("act 6 0 2 0 0 0").answers("holds 2 0", 0);
        TWO.then("act 0 0 2 0 0 0; act 6 0 2 0 0 0").answers("holds 2 1", 0);
        TWO.then("act 0 0 2 0 0 0; act 6 0 1 0 0 4").answers("parts 2 0 1", 0);
        TWO.then("act 6 0 2 0 0 0").answers("parts 2 0 2", 0);
        // nor is a SEIZED a FOUND ahead
        TWO.then("act 6 0 2 0 0 0; act 0 0 1 0 0 4").answers("holds 2 1", 1);
    }

    /** "1, 0; NONE: the one does not KNOW it. BAD; NOT." */
    private static void holdsRefused() {
        VILLAGE.answers("holds 0 0", 1);
        VILLAGE.answers("holds 0 4", 0);
        VILLAGE.refuses("holds 0 3", Check.NONE);
        VILLAGE.refuses("holds 0 5", Check.NONE);
        VILLAGE.refuses("holds -1 4", Check.NONE);
        VILLAGE.refuses("holds -1 3", Check.NONE);
        VILLAGE.answers("holds -1 0", 1);
        // the dead know it no more: NOT
        VILLAGE.refuses("holds 3 3", Check.NOT);
    }

    /** "Who has most PARTS (of like ones the least number). NONE: nobody has any." */
    private static void ownerOfLikeOnes() {
        Story s = TWO.then("act 0 0 1 0 0 0");
        s.then("act 1 0 1 0 6 0").answers("owner 1 0", 0);
        s.then("act 1 0 1 0 5 0").answers("owner 1 0", 1);
        s.then("act 1 0 1 0 7 0").answers("owner 1 0", 0);
        s.then("act 1 0 1 2 6 0").answers("owner 1 0", 1);
        s.then("act 1 0 1 2 7 0").answers("owner 1 0", 2);
        s.then("act 1 0 1 2 4 0; act 1 0 1 0 4 0").answers("owner 1 0", 0);
        s.then("act 3 0 1 0 12 0").answers("owner 1 0", 1);
        s.refuses("owner 1 1", Check.NONE);
        s.refuses("owner 0 0", Check.NONE);
        // nobody has more than one part
        Story spread = FULL.then("dies 15");
        Story all = Story.ofNothing().times(16, "person 1").then("stone 1 1; act 0 0 15 0 0 0");
        for (int to = 3; to < 15; to++) all = all.then("act 1 0 15 " + to + " 1 0");
        all.answers("owner 15 0", 3);
        spread.answers("owner 0 7", 15);
    }

    /** "SIZE times SIZE times (10, all hardships, 5 for each BRIDE STONE) by 10", "WORTH times PARTS by 12", "cut down". */
    private static void worthAndWealth() {
        Story s = Story.of("person 1; person 1; stone 1 1; stone 3 1; act 0 0 0 0 0 2; act 0 1 0 0 0 2");
        s.answers("worth 0 0", 1);
        s.answers("worth 0 1", 9);
        s.then("act 5 0 0 0 9 0").answers("worth 0 0", 1);
        s.then("act 5 0 0 0 10 0").answers("worth 0 0", 2);
        s.then("act 5 0 0 0 9 0; act 5 0 0 0 1 0").answers("worth 0 0", 2);
        s.then("act 5 1 0 0 1 0").answers("worth 0 1", 9);
        s.then("act 5 1 0 0 2 0").answers("worth 0 1", 10);
        s.then("act 5 1 0 0 1 0").answers("worth 1 1", 9);
        s.then("act 2 0 0 1 1 0").answers("worth 0 0", 1);
        s.then("act 2 0 0 1 1 0; act 2 0 0 1 1 0").answers("worth 0 0", 2);
        s.then("act 2 1 0 1 1 0").answers("worth 0 1", 13);
        s.then("act 2 1 0 1 12 0; act 2 1 0 1 1 0").answers("worth 0 1", 13);
        s.then("act 1 1 0 1 1 0").answers("worth 0 1", 9);
        s.then("act 6 1 0 1 1 0").answers("worth 0 1", 9);
        s.answers("wealth 0 0", 10);
        s.answers("wealth 0 1", 0);
        s.then("act 1 1 0 1 1 0").answers("wealth 0 1", 0);
        s.then("act 1 1 0 1 2 0").answers("wealth 0 1", 1);
        s.then("act 1 1 0 1 2 0").answers("wealth 0 0", 1 + 7);
        s.then("act 1 0 0 1 11 0; act 1 1 0 1 1 0").answers("wealth 0 1", 0);
        s.then("act 1 0 0 1 12 0; act 1 1 0 1 2 0").answers("wealth 0 1", 2);
    }

    /** The greatest numbers: a stone of 40 hands with 59 tales of 20. */
    private static void greatestWorth() {
        Story s = Story.of("person 1; stone 40 1; act 0 0 0 0 0 0").times(59, "act 5 0 0 0 20 0");
        s.answers("worth 0 0", 1600 * (10 + 59 * 20) / 10);
        s.answers("wealth 0 0", 1600 * (10 + 59 * 20) / 10);
        Story eight = Story.of("person 1").times(8, "stone 40 99");
        for (int i = 0; i < 8; i++) eight = eight.then("act 0 " + i + " 0 0 0 0");
        eight = eight.times(52, "act 5 7 0 0 20 0");
        eight.answers("wealth 0 0", 7 * 1600 + 1600 * (10 + 52 * 20) / 10);
    }

    /** "just the STRONG ACTS that each of OLD KNOWS now (nothing, if there are none of OLD)". */
    private static void agreed() {
        Story s = Story.of("person 40; person 40; person 39; stone 1 1; act 0 0 2 0 0 3; act 5 0 2 0 10 1; tell 2 1 1");
        s.answers("parts -1 0 2", 12);
        s.answers("holds -1 0", 1);
        s.refuses("holds -1 1", Check.NONE);
        s.answers("worth -1 0", 1);
        s.then("dies 0").answers("parts -1 0 2", 12);
        s.then("dies 0; dies 1").answers("parts -1 0 2", 0);
        s.then("dies 0; dies 1").answers("worth -1 0", 1);
        s.then("dies 0; dies 1").refuses("holds -1 0", Check.NONE);
        s.then("dies 0; dies 1").refuses("owner -1 0", Check.NONE);
        s.then("dies 0; dies 1").answers("wealth -1 2", 0);
        s.then("dies 0; dies 1; years 1").answers("parts -1 0 2", 12);
        s.then("person 39").answers("parts -1 0 2", 12);
        s.then("person 40").answers("parts -1 0 2", 0);
        s.then("person 40; tell 0 3 0").answers("parts -1 0 2", 12);
        s.then("person 39; years 1").answers("parts -1 0 2", 0);
        // each one of old has to know it, the first, one in the midst and the last
        Story three = Story.of("person 40; person 40; person 40; stone 1 1");
        three.then("act 0 0 0 0 0 6").answers("parts -1 0 0", 12);
        three.then("act 0 0 0 0 0 2; tell 1 2 0").answers("parts -1 0 0", 12);
        three.then("act 0 0 0 0 0 2").answers("parts -1 0 0", 0);
        three.then("act 0 0 0 0 0 4").answers("parts -1 0 0", 0);
        three.then("act 0 0 1 0 0 4").answers("parts -1 0 1", 0);
        // an act that is strong though no one is old is agreed on by nobody till somebody is
        Story young = Story.of("person 39; stone 1 1; act 0 0 0 0 0 0");
        young.answers("parts -1 0 0", 0);
        young.then("years 1").answers("parts -1 0 0", 12);
        // what is agreed on is added up anew, of strong acts alone
        Story weak = Story.of("person 40; person 40; stone 1 1; act 0 0 0 0 0 0; act 1 0 0 1 5 2; tell 0 1 0");
        weak.answers("about 1 6", 0);
        weak.then("act 1 0 0 1 5 2").answers("about 2 6", 1);
        weak.then("act 1 0 0 1 5 2").answers("holds -1 2", 0);
        weak.then("act 1 0 0 1 5 2").answers("parts -1 0 1", 0);
    }

    /** "how many of OLD have in their knowing more PARTS of that STONE for this one than for the other". */
    private static void weight() {
        Story s = Story.of("person 40; person 40; person 39; person 1; stone 1 1; act 0 0 3 0 0 7");
        s.answers("weight 0 3 2", 2);
        s.answers("weight 0 2 3", 0);
        s.then("years 1").answers("weight 0 3 2", 3);
        s.then("dies 0").answers("weight 0 3 2", 1);
        s.then("dies 0; dies 1").answers("weight 0 3 2", 0);
        s.then("act 1 0 3 2 6 1").answers("weight 0 3 2", 1);
        s.then("act 1 0 3 2 6 1").answers("weight 0 2 3", 0);
        s.then("act 1 0 3 2 7 1").answers("weight 0 2 3", 1);
        s.then("act 1 0 3 2 5 1").answers("weight 0 3 2", 2);
        s.then("act 3 0 3 2 12 3").answers("weight 0 3 2", 2);
        // one part more is more
        Story close = s.then("act 1 0 3 0 3 3; act 1 0 3 2 4 3");
        close.answers("weight 0 3 2", 2);
        close.answers("weight 0 2 3", 0);
        close.answers("weight 0 2 0", 2);
        close.answers("quarrel 0 3 2", 3);
        close.answers("quarrel 0 2 3", 3);
        close.answers("quarrel 0 0 2", 2);
        for (int one = 0; one < 4; one++) s.refuses("weight 0 " + one + " " + one, Check.BAD);
        for (int one = 0; one < 5; one++) VILLAGE.refuses("weight 0 " + one + " " + one, Check.BAD);
        FULL.refuses("weight 7 15 15", Check.BAD);
    }

    /** "the greater wins", "BAD: also like ones; NONE: nobody". */
    private static void quarrelByWeight() {
        Story s = Story.of("person 40; person 40; person 40; person 1; person 1; stone 1 1");
        s.refuses("quarrel 0 3 4", Check.NONE);
        for (int one = 0; one < 5; one++) s.refuses("quarrel 0 " + one + " " + one, Check.BAD);
        for (int one = 0; one < 5; one++) VILLAGE.refuses("quarrel 0 " + one + " " + one, Check.BAD);
        FULL.refuses("quarrel 7 15 15", Check.BAD);
        s.then("act 0 0 3 0 0 1").answers("quarrel 0 3 4", 3);
        s.then("act 0 0 3 0 0 1").answers("quarrel 0 4 3", 3);
        s.then("act 0 0 3 0 0 0").refuses("quarrel 0 3 4", Check.NONE);
        s.then("act 0 0 3 0 0 1; act 0 0 4 0 0 6").answers("quarrel 0 3 4", 4);
        s.then("act 0 0 3 0 0 3; act 0 0 4 0 0 4").answers("quarrel 0 4 3", 3);
        s.then("act 0 0 3 0 0 7; act 1 0 3 4 6 7").refuses("quarrel 0 3 4", Check.NONE);
        s.then("act 0 0 3 0 0 1; act 0 0 4 0 0 6; dies 1; dies 2").answers("quarrel 0 3 4", 3);
        s.then("act 0 0 3 0 0 7; dies 0; dies 1; dies 2").refuses("quarrel 0 3 4", Check.NONE);
    }

    /** "of like WEIGHTS the one for whom such a one of OLD KNOWS the STONE's ACTS of this one at the least DEPTH". */
    private static void quarrelByDepth() {
        Story s = Story.of("person 40; person 40; person 1; person 1; person 1; stone 1 1; stone 1 1")
            .then("act 0 0 2 0 0 0; act 0 0 3 0 0 0; tell 2 0 0; tell 3 4 1; tell 4 1 1");
        s.answers("weight 0 2 3", 1);
        s.answers("weight 0 3 2", 1);
        s.answers("quarrel 0 2 3", 2);
        s.answers("quarrel 0 3 2", 2);
        s.then("tell 3 1 1").refuses("quarrel 0 2 3", Check.NONE);
        s.then("tell 3 1 1").refuses("quarrel 0 3 2", Check.NONE);
        s.then("act 6 0 3 0 0 2").answers("quarrel 0 2 3", 3);
        s.then("act 6 0 3 0 0 2; act 6 0 2 0 0 1").refuses("quarrel 0 2 3", Check.NONE);
        // whatever it is that this one did, whether it holds or not
        Story pledge = s.then("act 3 0 3 4 1 0; act 3 0 2 4 1 0");
        pledge.answers("quarrel 0 2 3", 2);
        for (String did : new String[] {"0 0 3 0 0", "1 0 3 4 1", "2 0 3 4 1", "3 0 3 4 1", "4 0 3 2 0", "5 0 3 0 1", "6 0 3 0 0"}) {
            pledge.then("act " + did + " 2").answers("quarrel 0 2 3", 3);
            pledge.then("act " + did + " 2").answers("quarrel 0 3 2", 3);
            pledge.then("act " + did + " 2; act 4 0 2 3 0 1").refuses("quarrel 0 2 3", Check.NONE);
        }
        // the dead one's acts too
        s.then("dies 2").answers("quarrel 0 2 3", 2);
        s.then("dies 2; dies 3; dies 4").answers("quarrel 0 3 2", 2);
        // got, pledged to, told a tale: acts of this one; not so a tale's or a freed one's other number
        s.then("act 1 0 4 3 1 2").answers("quarrel 0 2 3", 3);
        s.then("act 2 0 4 3 1 2").answers("quarrel 0 2 3", 3);
        s.then("act 3 0 4 3 1 2").answers("quarrel 0 2 3", 3);
        s.then("act 5 0 3 0 1 2").answers("quarrel 0 2 3", 3);
        s.then("act 5 0 4 3 1 2").answers("quarrel 0 2 3", 2);
        s.then("act 6 0 4 3 1 2").answers("quarrel 0 2 3", 2);
        // of another stone, or heard by one who is for the other: they count not
        s.then("act 5 1 3 0 1 2").answers("quarrel 0 2 3", 2);
        s.then("act 5 0 3 0 1 1").answers("quarrel 0 2 3", 2);
        // the dead are not asked: then the weights are unlike
        s.then("dies 0").answers("quarrel 0 2 3", 3);
        // told as 0 is not 0's own: of like depths nobody wins
        Story zero = Story.of("person 1; person 1; person 40; person 40; person 1; stone 1 1")
            .then("act 3 0 4 1 1 0; act 0 0 0 0 0 0; act 0 0 1 0 0 0; tell 0 2 1; tell 1 3 2");
        for (String act : new String[] {"0 0 4 0 0 4", "5 0 4 0 1 4", "6 0 4 0 0 4", "4 0 4 0 0 4", "1 0 4 2 1 4", "2 0 4 1 1 4",
            "3 0 4 3 1 4"}) zero.then("act " + act).refuses("quarrel 0 0 1", Check.NONE);
        zero.then("act 3 0 4 0 1 4").answers("quarrel 0 0 1", 0);
        zero.then("act 6 0 0 0 1 4").answers("quarrel 0 0 1", 0);
    }

    /** "for whom such a one of OLD KNOWS": of two for each, the nearer, be it the first or the last. */
    private static void quarrelByNearest() {
        String begin = "person 40; person 40; person 40; person 40; person 1; person 1; person 1; stone 1 1; act 0 0 4 0 0 0;"
            + "act 0 0 5 0 0 0; tell 5 2 1; tell 5 3 1;";
        Story first = Story.of(begin + "tell 4 0 0; tell 0 6 0; tell 6 1 0; act 6 0 4 0 0 1");
        Story last = Story.of(begin + "tell 4 1 0; tell 1 6 0; tell 6 0 0; act 6 0 4 0 0 2");
        for (Story s : new Story[] {first, last}) {
            s.answers("weight 0 4 5", 2);
            s.answers("weight 0 5 4", 2);
            s.answers("quarrel 0 4 5", 4);
            s.answers("quarrel 0 5 4", 4);
            s.then("act 6 0 5 0 0 4").refuses("quarrel 0 4 5", Check.NONE);
            s.then("act 6 0 5 0 0 8").refuses("quarrel 0 4 5", Check.NONE);
        }
        first.then("dies 0; dies 2").answers("quarrel 0 4 5", 5);
        last.then("dies 1; dies 3").answers("quarrel 0 5 4", 5);
    }

    /** "of like ones (or none) nobody": at any depth, and for 0, the least number, as for others. */
    private static void quarrelOfLikeOnes() {
        Story s = Story.of("person 1; person 1; person 40; person 40; stone 1 1; act 0 0 0 0 0 4; act 0 0 1 0 0 8");
        s.refuses("quarrel 0 0 1", Check.NONE);
        s.refuses("quarrel 0 1 0", Check.NONE);
        Story heard = Story.of("person 1; person 1; person 40; person 40; stone 1 1; act 0 0 0 0 0 0; act 0 0 1 0 0 0")
            .then("tell 0 2 0; tell 1 3 1");
        heard.refuses("quarrel 0 0 1", Check.NONE);
        heard.then("act 6 0 0 0 0 4").answers("quarrel 0 1 0", 0);
        heard.then("act 6 0 1 0 0 8").answers("quarrel 0 0 1", 1);
    }

    /** "STONES about which two of OLD know unlike PARTS (of anybody): as bits." */
    private static void split() {
        Story s = Story.of("person 40; person 39; person 1; stone 1 1; stone 1 1; act 0 0 2 0 0 0; act 0 1 2 0 0 0");
        s.then("tell 2 0 0").answers("split", 0);
        s.then("tell 2 0 0; years 1").answers("split", 1);
        s.then("tell 2 0 1; years 1").answers("split", 2);
        s.then("tell 2 0 0; tell 2 1 1; years 1").answers("split", 3);
        s.then("tell 2 0 0; tell 2 1 0; years 1").answers("split", 0);
        s.then("tell 2 0 0; years 1; dies 1").answers("split", 0);
        s.then("tell 2 0 0; years 1; dies 2").answers("split", 1);
        s.then("years 1").answers("split", 0);
        s.then("years 1; act 0 0 0 0 0 0").answers("split", 1);
        Story first = Story.of("person 40; person 40; stone 1 1; act 0 0 0 0 0 0");
        first.answers("split", 1);
        first.then("tell 0 1 0").answers("split", 0);
        // what is bound or told is not parts
        s.then("tell 2 0 0; tell 2 1 0; years 1; act 3 0 2 1 4 1; act 5 0 2 0 4 1; act 6 0 2 0 0 1").answers("split", 0);
        s.then("tell 2 0 0; tell 2 1 0; years 1; act 1 0 2 1 1 1").answers("split", 1);
        Story all = Story.of("person 60; person 60; person 60").times(8, "stone 1 1");
        for (int i = 0; i < 8; i++) all = all.then("act 0 " + i + " 2 0 0 3; act 1 " + i + " 2 1 1 1");
        all.answers("split", 255);
        all.then("dies 1").answers("split", 0);
    }
}
