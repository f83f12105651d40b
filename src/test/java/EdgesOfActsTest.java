/** Promises 1 to 11: each sentence of the document about them that names a boundary. */
public final class EdgesOfActsTest {
    private static final Story VILLAGE = Stories.village(), FULL = Stories.fullVillage(), LAST = Stories.lastYear();
    private static final Story NOTHING = Story.ofNothing();

    public static void main(String[] args) {
        nobodyNothing();
        person();
        years();
        old();
        dies();
        told();
        stone();
        moves();
        actTakes();
        actOfTwo();
        actOfPledge();
        actOfTheDead();
        actWhatIsNotLookedAt();
        actStandsBy();
        actFull();
        about();
        strongByTwo();
        strongByAllOfFewer();
        strongIfItHolds();
        knows();
        tell();
        tellDepth();
        lastCall();
        Check.end();
    }

    /** "Nobody, nothing." A number that will be somebody's or something's later names nothing yet. */
    private static void nobodyNothing() {
        for (int what = 0; what <= 9; what++) NOTHING.answers("count " + what, 0);
        String[] bad = {"dies 0", "told 0 0", "worked 0", "about 0 0", "knows 0 0", "tell 0 1 0", "parts 0 0 0",
            "parts -1 0 0", "bound 0 0 0", "bound -1 0 0", "holds 0 0", "holds -1 0", "owner 0 0", "owner -1 0", "worth 0 0",
            "worth -1 0", "wealth 0 0", "wealth -1 0", "quarrel 0 0 1", "weight 0 0 1", "feast 1 0 0", "feast 0 0 0",
            "kept 0", "fewest 0", "teller 0 0", "cross 0", "works 0 0 1", "act 0 0 0 0 0 0", "act 6 0 0 0 0 0"};
        for (String call : bad) NOTHING.refuses(call, Check.BAD);
        NOTHING.refuses("moves 0 0", Check.BAD - 10);
        NOTHING.answers("split", 0);
        NOTHING.answers("ban 1", 0);
        for (int sheet = 0; sheet < 4; sheet++) {
            NOTHING.refuses("drop " + sheet, Check.NULL);
            NOTHING.refuses("item " + sheet + " 0 0 0", Check.NULL);
            NOTHING.refuses("acts " + sheet + " 0 0 0", Check.NULL);
        }
        NOTHING.answers("years 1", 1);
        NOTHING.answers("person 0", 0);
        NOTHING.answers("stone 1 0", 0);
    }

    /** "PEOPLE 0 .. 15", "AGE (0 .. 60 at first)", "FULL: 16". */
    private static void person() {
        NOTHING.takes("person #", 0, 60, Check.BAD);
        VILLAGE.takes("person #", 0, 60, Check.BAD);
        VILLAGE.then("person 0").answers("told 5 0", 0);
        VILLAGE.then("person 60").answers("told 5 0", 60);
        NOTHING.times(14, "person 7").answers("person 7", 14);
        NOTHING.times(15, "person 7").answers("person 7", 15);
        NOTHING.times(16, "person 7").refuses("person 7", Check.FULL);
        FULL.refuses("person 0", Check.FULL);
        FULL.refuses("person 60", Check.FULL);
        FULL.then("dies 15").refuses("person 60", Check.FULL);
        FULL.refuses("person 61", Check.BAD);
        FULL.refuses("person -1", Check.BAD);
    }

    /** "YEARS (1 .. 50) go by: NOW. FULL: beyond 1000." */
    private static void years() {
        NOTHING.answers("count 9", 0);
        NOTHING.takes("years #", 1, 50, Check.BAD);
        VILLAGE.takes("years #", 1, 50, Check.BAD);
        VILLAGE.answers("years 1", 6);
        VILLAGE.answers("years 50", 55);
        Story in950 = VILLAGE.times(18, "years 50").then("years 45");
        in950.answers("count 9", 950);
        in950.answers("years 50", 1000);
        in950.then("years 1").answers("years 49", 1000);
        in950.then("years 1").refuses("years 50", Check.FULL);
        in950.then("years 49").refuses("years 2", Check.FULL);
        in950.then("years 49").answers("years 1", 1000);
        LAST.answers("count 9", 1000);
        LAST.refuses("years 1", Check.FULL);
        LAST.refuses("years 50", Check.FULL);
        LAST.takes("years #", 1, 50, Check.BAD);
        LAST.answers("told 0 0", 1000);
        LAST.answers("told 1 0", 1060);
        LAST.then("act 5 0 0 0 1 0").answers("about 0 5", 1000);
        NOTHING.then("person 1; stone 1 1; act 5 0 0 0 1 0").answers("about 0 5", 0);
        LAST.then("person 39").answers("told 2 2", 0);
    }

    /** "OLD are those who live with an AGE of 40 or more." "Each who lives is a YEAR older." */
    private static void old() {
        Story two = Story.of("person 39; person 40");
        two.answers("told 0 2", 0);
        two.answers("told 1 2", 1);
        two.answers("count 2", 1);
        two.then("years 1").answers("told 0 2", 1);
        two.then("years 1").answers("count 2", 2);
        two.then("years 1; dies 0").answers("told 0 2", 0);
        two.then("years 1; dies 0").answers("count 2", 1);
        two.then("dies 0; years 1").answers("told 0 0", 39);
        two.then("dies 0; years 50").answers("told 0 2", 0);
        Story young = Story.of("person 0; years 39");
        young.answers("told 0 2", 0);
        young.then("years 1").answers("told 0 2", 1);
    }

    /** "How many ACTS are FORGOTTEN by that. BAD; NOT: is dead." */
    private static void dies() {
        VILLAGE.takes("dies #", 0, 4, Check.BAD);
        VILLAGE.refuses("dies 3", Check.NOT);
        FULL.takes("dies #", 0, 15, Check.BAD);
        FULL.answers("dies 0", 0);
        FULL.answers("dies 15", 1);
        FULL.then("dies 15").refuses("dies 15", Check.NOT);
        Story last = FULL;
        for (int who = 0; who < 15; who++) last = last.then("dies " + who);
        last.answers("dies 15", 60);
        last.then("dies 15").answers("count 5", 60);
        last.then("dies 15").answers("count 1", 0);
        last.then("dies 15").answers("count 2", 0);
        // what was forgotten before is not forgotten by that
        VILLAGE.answers("count 5", 1);
        VILLAGE.then("dies 0; dies 1; dies 4").answers("dies 2", 3);
        NOTHING.then("person 60").answers("dies 0", 0);
    }

    /** "0 AGE, 1 whether the one lives, 2 is OLD (1, 0), 3 how many ACTS the one KNOWS." "The dead KNOW nothing." */
    private static void told() {
        VILLAGE.takes("told # 0", 0, 4, Check.BAD);
        VILLAGE.takes("told 0 #", 0, 3, Check.BAD);
        VILLAGE.takes("told 3 #", 0, 3, Check.BAD);
        FULL.takes("told # 3", 0, 15, Check.BAD);
        int[] dead = {30 + 5, 0, 0, 0}, old = {50 + 5, 1, 1, 4}, young = {20 + 5, 1, 0, 3};
        for (int what = 0; what <= 3; what++) {
            VILLAGE.answers("told 3 " + what, dead[what]);
            VILLAGE.answers("told 0 " + what, old[what]);
            VILLAGE.answers("told 2 " + what, young[what]);
        }
        FULL.answers("told 15 3", 60);
        FULL.answers("told 0 3", 59);
        NOTHING.then("person 9").answers("told 0 3", 0);
    }

    /** "STONES 0 .. 7", "SIZE (1 .. 40 hands)", "PLACE 0 .. 99, or in THE SEA", "FULL: 8". */
    private static void stone() {
        NOTHING.takes("stone # 0", 1, 40, Check.BAD);
        NOTHING.takes("stone 1 #", -1, 99, Check.BAD);
        VILLAGE.takes("stone # 0", 1, 40, Check.BAD);
        VILLAGE.takes("stone 1 #", -1, 99, Check.BAD);
        VILLAGE.then("stone 1 -1").answers("count 7", 2);
        VILLAGE.then("stone 1 0").answers("count 7", 1);
        VILLAGE.then("stone 1 0").answers("moves 3 1", 0);
        VILLAGE.then("stone 1 99").answers("moves 3 1", 99);
        VILLAGE.then("stone 1 0").answers("worth 0 3", 1);
        VILLAGE.then("stone 40 0").answers("worth 0 3", 1600);
        VILLAGE.times(4, "stone 1 1").answers("stone 40 99", 7);
        VILLAGE.times(5, "stone 1 1").refuses("stone 40 99", Check.FULL);
        FULL.refuses("stone 1 -1", Check.FULL);
        FULL.then("moves 7 -1").refuses("stone 1 -1", Check.FULL);
        FULL.refuses("stone 0 0", Check.BAD);
        FULL.refuses("stone 41 0", Check.BAD);
        FULL.refuses("stone 1 -2", Check.BAD);
        FULL.refuses("stone 1 100", Check.BAD);
    }

    /** "-1: it sinks", "BAD less 10 (-11); NOT less 10 (-12): it is in THE SEA." "All that is told of them holds there, too." */
    private static void moves() {
        VILLAGE.takes("moves # 7", 0, 2, -11);
        VILLAGE.takes("moves 0 #", -1, 99, -11);
        VILLAGE.takes("moves 1 #", -1, 99, -11);
        FULL.takes("moves # -1", 0, 7, -11);
        for (int place : new int[] {-1, 0, 99}) VILLAGE.refuses("moves 1 " + place, -12);
        VILLAGE.refuses("moves 3 -2", -11);
        VILLAGE.answers("moves 0 -1", 5);
        VILLAGE.answers("moves 2 99", 99);
        VILLAGE.then("moves 0 0").answers("moves 0 1", 0);
        VILLAGE.then("moves 0 -1").refuses("moves 0 5", -12);
        VILLAGE.then("moves 0 -1").answers("count 7", 2);
        Story sunk = VILLAGE.then("moves 0 -1");
        sunk.answers("parts 0 0 2", 4);
        sunk.answers("worth 1 0", 300);
        sunk.answers("act 1 0 0 2 5 0", 7);
        sunk.answers("cross 0", 10);
        sunk.answers("feast 23 0 0", 4);
        sunk.answersAs(VILLAGE, Stories.OF_STONE_0);
        Story open = VILLAGE.then("ban 0; feast 3 0 0");
        open.then("moves 0 -1").answersAs(open, Stories.OF_STONE_0);
        open.then("moves 0 98").answersAs(open, Stories.OF_STONE_0);
        // a cross is moved with its stone, and sinks with it
        Story painted = VILLAGE.then("cross 0; works 0 0 3");
        painted.answers("moves 0 5", 5);
        painted.then("moves 0 7").answers("works 0 0 1", 6);
        painted.then("moves 0 -1").answers("works 0 0 1", 6);
        painted.then("moves 0 -1").answers("count 8", 2);
        painted.then("moves 0 -1").refuses("cross 0", Check.NOT);
        VILLAGE.answers("works 0 1 1", 1);
        FULL.then("moves 0 -1; moves 1 -1; moves 2 -1; moves 3 -1; moves 4 -1; moves 5 -1; moves 6 -1; moves 7 -1")
            .answers("count 7", 8);
    }

    /** "KINDS: 0 .. 6", "some PARTS (1 .. 12)", "a number 1 .. 20 of hardship". */
    private static void actTakes() {
        // of kind 4, 2 is a pledge of 0; so each kind is as told here
        for (int kind = 0; kind <= 6; kind++) VILLAGE.answers("act " + kind + " 0 0 2 12 0", 7);
        VILLAGE.takes("act # 0 0 2 12 0", 0, 6, Check.BAD);
        for (int kind : new int[] {0, 1, 2, 3, 5, 6}) {
            VILLAGE.takes("act " + kind + " # 0 2 12 0", 0, 2, Check.BAD);
            VILLAGE.takes("act " + kind + " 0 # 2 12 0", 0, kind >= 1 && kind <= 3 ? 1 : 2, Check.BAD);
        }
        for (int kind = 1; kind <= 3; kind++) {
            VILLAGE.takes("act " + kind + " 0 0 2 # 0", 1, 12, Check.BAD);
            VILLAGE.takes("act " + kind + " 0 4 # 12 0", 0, 2, Check.BAD);
            VILLAGE.takes("act " + kind + " 0 0 # 12 0", 1, 2, Check.BAD);
        }
        VILLAGE.takes("act 4 # 0 2 0 0", 0, 0, Check.BAD);
        VILLAGE.takes("act 4 0 # 2 0 0", 0, 0, Check.BAD);
        VILLAGE.takes("act 4 0 0 # 0 0", 2, 2, Check.BAD);
        VILLAGE.takes("act 5 0 0 0 # 0", 1, 20, Check.BAD);
        VILLAGE.then("act 5 0 0 0 20 0").answers("about 7 4", 20);
        VILLAGE.then("act 1 0 0 2 12 0").answers("about 7 4", 12);
    }

    /** "from one to another": "BAD: also b is a". */
    private static void actOfTwo() {
        for (int kind = 1; kind <= 3; kind++) {
            VILLAGE.refuses("act " + kind + " 0 0 0 1 0", Check.BAD);
            VILLAGE.refuses("act " + kind + " 1 4 4 1 0", Check.BAD);
            FULL.refuses("act " + kind + " 7 15 15 1 0", Check.BAD);
        }
        // a pledge's number and the giver's may be like ones
        Story pledge = Story.of("person 1; person 2; stone 1 1; act 3 0 0 1 1 0");
        pledge.answers("act 4 0 0 0 0 0", 1);
        for (int kind : new int[] {0, 5, 6}) VILLAGE.answers("act " + kind + " 0 1 1 1 0", 7);
    }

    /** "FREED by the giver: a PLEDGE (an ACT)", "BAD: also a PLEDGE of another STONE, of another giver". */
    private static void actOfPledge() {
        Story s = VILLAGE.then("act 3 1 4 0 2 0");
        s.answers("act 4 0 0 2 0 0", 8);
        s.answers("act 4 1 4 7 0 0", 8);
        s.refuses("act 4 1 0 2 0 0", Check.BAD);
        s.refuses("act 4 0 4 7 0 0", Check.BAD);
        s.refuses("act 4 0 1 2 0 0", Check.BAD);
        s.refuses("act 4 1 0 7 0 0", Check.BAD);
        s.refuses("act 4 0 4 2 0 0", Check.BAD);
        for (int other : new int[] {0, 1, 4, 6}) s.refuses("act 4 0 0 " + other + " 0 0", Check.BAD);
        // its own number, which it does not have yet
        s.refuses("act 4 0 0 8 0 0", Check.BAD);
        // a freed one is not a pledge, and a freed pledge is one
        Story freed = s.then("act 4 0 0 2 0 0");
        freed.refuses("act 4 0 0 8 0 0", Check.BAD);
        freed.answers("act 4 0 0 2 0 0", 9);
        // whose getter may be dead, and the giver not
        s.then("dies 1").answers("act 4 0 0 2 0 0", 8);
        s.then("dies 0").refuses("act 4 0 0 2 0 0", Check.BAD);
    }

    /** "ACTS are done by those who live": "BAD: also a dead one does it, or gets". */
    private static void actOfTheDead() {
        for (int kind = 0; kind <= 6; kind++) VILLAGE.refuses("act " + kind + " 0 3 2 1 0", Check.BAD);
        for (int kind = 1; kind <= 3; kind++) VILLAGE.refuses("act " + kind + " 0 0 3 1 0", Check.BAD);
        for (int kind : new int[] {0, 5, 6}) VILLAGE.answers("act " + kind + " 0 0 3 1 0", 7);
        FULL.then("dies 15").refuses("act 0 7 15 0 0 0", Check.BAD);
    }

    /** "Those that are not looked at are told as 0." */
    private static void actWhatIsNotLookedAt() {
        for (int kind : new int[] {0, 6}) {
            for (String odd : new String[] {"MIN", "-1", "16", "60", "MAX"}) {
                Story s = VILLAGE.then("act " + kind + " 0 0 " + odd + " " + odd + " 0");
                s.answers("about 7 3", 0);
                s.answers("about 7 4", 0);
            }
        }
        for (String odd : new String[] {"MIN", "-1", "16", "60", "MAX"}) {
            VILLAGE.then("act 5 0 0 " + odd + " 9 0").answers("about 7 3", 0);
            VILLAGE.then("act 5 0 0 " + odd + " 9 0").answers("about 7 4", 9);
            VILLAGE.then("act 4 0 0 2 " + odd + " 0").answers("about 7 3", 2);
            VILLAGE.then("act 4 0 0 2 " + odd + " 0").answers("about 7 4", 0);
        }
    }

    /** "Who else STANDS BY (bits of those who live)". "KNOWN at a DEPTH: 0 to those who STOOD BY." */
    private static void actStandsBy() {
        for (int kind = 0; kind <= 6; kind++) {
            for (String by : new String[] {"8", "31", "32", "65536", "-1", "MIN", "MAX"}) {
                VILLAGE.refuses("act " + kind + " 0 0 2 1 " + by, Check.BAD);
            }
        }
        VILLAGE.answers("act 0 0 0 0 0 23", 7);
        VILLAGE.then("act 0 0 0 0 0 0").answers("about 7 7", 1);
        VILLAGE.then("act 0 0 4 0 0 0").answers("about 7 7", 16);
        VILLAGE.then("act 0 0 4 0 0 16").answers("about 7 7", 16);
        VILLAGE.then("act 0 0 4 0 0 7").answers("about 7 7", 23);
        VILLAGE.then("act 0 0 4 0 0 7").answers("knows 4 7", 0);
        VILLAGE.then("act 0 0 4 0 0 7").answers("knows 2 7", 0);
        VILLAGE.then("act 1 0 0 2 1 0").answers("knows 2 7", Check.NONE);
        FULL.answers("about 58 7", 65535);
        FULL.answers("about 59 7", 32768);
    }

    /** "ACTS 0 .. 59", "FULL: 60", which stands behind BAD. */
    private static void actFull() {
        Story one = Story.of("person 50; person 50; stone 1 1").times(59, "act 3 0 0 1 1 2");
        one.answers("act 6 0 0 0 0 0", 59);
        Story full = one.then("act 6 0 0 0 0 0");
        for (int kind = 0; kind <= 6; kind++) full.refuses("act " + kind + " 0 0 1 1 0", Check.FULL);
        full.refuses("act 7 0 0 1 1 0", Check.BAD);
        full.refuses("act -1 0 0 1 1 0", Check.BAD);
        full.refuses("act 0 1 0 0 0 0", Check.BAD);
        full.refuses("act 0 0 2 0 0 0", Check.BAD);
        full.refuses("act 1 0 0 0 1 0", Check.BAD);
        full.refuses("act 1 0 0 1 13 0", Check.BAD);
        full.refuses("act 5 0 0 0 21 0", Check.BAD);
        full.refuses("act 4 0 0 59 0 0", Check.BAD);
        full.refuses("act 4 0 0 60 0 0", Check.BAD);
        full.refuses("act 0 0 0 0 0 4", Check.BAD);
        full.then("dies 1").refuses("act 1 0 0 1 1 0", Check.BAD);
        full.then("dies 0; dies 1").answers("count 5", 60);
        FULL.refuses("act 6 7 15 0 0 65535", Check.FULL);
    }

    /** "0 KIND .. 8 how many who live KNOW it. BAD." */
    private static void about() {
        VILLAGE.takes("about # 0", 0, 6, Check.BAD);
        VILLAGE.takes("about 0 #", 0, 8, Check.BAD);
        VILLAGE.takes("about 3 #", 0, 8, Check.BAD);
        FULL.takes("about # 8", 0, 59, Check.BAD);
        for (int what = -1; what <= 9; what++) NOTHING.refuses("about 0 " + what, Check.BAD);
        // a forgotten one is still told of
        int[] forgotten = {5, 1, 3, 0, 7, 0, 0, 8, 0};
        for (int what = 0; what <= 8; what++) VILLAGE.answers("about 3 " + what, forgotten[what]);
        int[] last = {1, 7, 15, 14, 1, 0, 0, 32768, 1};
        for (int what = 0; what <= 8; what++) FULL.answers("about 59 " + what, last[what]);
        FULL.answers("about 0 8", 16);
        FULL.then("dies 15").answers("about 59 8", 0);
    }

    /** "2 of OLD at least KNOW it": "as soon as it is done", "it stays so, or not, for ever", "a SEIZED never is". */
    private static void strongByTwo() {
        Story s = Story.of("person 40; person 40; person 40; person 39; stone 1 1");
        s.then("act 5 0 3 0 1 1").answers("about 0 6", 0);
        s.then("act 5 0 3 0 1 3").answers("about 0 6", 1);
        s.then("act 5 0 3 0 1 7").answers("about 0 6", 1);
        s.then("act 5 0 0 0 1 0").answers("about 0 6", 0);
        s.then("act 5 0 0 0 1 8").answers("about 0 6", 0);
        s.then("act 5 0 0 0 1 2").answers("about 0 6", 1);
        s.then("act 6 0 0 0 0 15").answers("about 0 6", 0);
        s.then("act 5 0 0 0 1 8; years 1").answers("about 0 6", 0);
        s.then("act 5 0 0 0 1 0; tell 0 1 0; tell 0 2 0").answers("about 0 6", 0);
        s.then("act 5 0 0 0 1 0; feast 7 0 0").answers("about 0 6", 0);
        s.then("act 5 0 0 0 1 0; feast 7 0 0; act 5 0 0 0 1 2").answers("count 6", 1);
        s.then("act 5 0 0 0 1 0; dies 1; dies 2").answers("about 0 6", 0);
        s.then("act 5 0 0 0 1 2; dies 1; dies 0").answers("about 0 6", 1);
        s.then("act 5 0 0 0 1 2; dies 1; dies 0").answers("count 6", 1);
    }

    /** "(or all of OLD, if those are less)". */
    private static void strongByAllOfFewer() {
        Story one = Story.of("person 40; person 39; stone 1 1");
        one.then("act 5 0 1 0 1 1").answers("about 0 6", 1);
        one.then("act 5 0 0 0 1 0").answers("about 0 6", 1);
        one.then("act 5 0 1 0 1 0").answers("about 0 6", 0);
        one.then("act 6 0 0 0 0 0").answers("about 0 6", 0);
        one.then("act 1 0 0 1 1 0").answers("about 0 6", 0);
        one.then("years 1; act 5 0 0 0 1 0").answers("about 0 6", 0);
        one.then("years 1; act 5 0 0 0 1 2").answers("about 0 6", 1);
        Story none = Story.of("person 39; person 39; stone 1 1");
        none.then("act 5 0 0 0 1 0").answers("about 0 6", 1);
        none.then("act 6 0 0 0 1 3").answers("about 0 6", 0);
        none.then("person 40; dies 2; act 5 0 0 0 1 0").answers("about 0 6", 1);
    }

    /** "and have it HOLD in their knowing": two who know it are too few if it holds with one of them alone. */
    private static void strongIfItHolds() {
        Story s = Story.of("person 40; person 40; person 40; stone 1 1; act 0 0 0 0 0 2");
        for (int kind = 1; kind <= 3; kind++) {
            s.then("act " + kind + " 0 0 1 12 6").answers("about 1 6", 1);
            s.then("act " + kind + " 0 0 1 12 2").answers("about 1 6", 1);
            s.then("act " + kind + " 0 0 1 12 4").answers("about 1 6", 0);
        }
        s.then("act 3 0 0 1 12 2; act 4 0 0 1 0 2").answers("about 2 6", 1);
        s.then("act 3 0 0 1 12 2; act 4 0 0 1 0 4").answers("about 2 6", 0);
        s.then("act 3 0 0 1 12 0; act 4 0 0 1 0 2").answers("about 2 6", 0);
        s.then("act 1 0 0 1 12 0; act 1 0 0 1 1 2").answers("about 2 6", 0);
        s.then("act 1 0 0 1 11 0; act 1 0 0 1 1 2").answers("about 2 6", 1);
        s.then("act 0 0 1 0 0 1").answers("about 1 6", 0);
        s.then("act 0 0 2 0 0 1").answers("about 1 6", 0);
    }

    /** "The DEPTH at which one KNOWS an ACT. BAD; NONE: not, or dead." */
    private static void knows() {
        VILLAGE.takes("knows # 0", 0, 4, Check.BAD);
        VILLAGE.takes("knows 0 #", 0, 6, Check.BAD);
        VILLAGE.refuses("knows 1 2", Check.NONE);
        VILLAGE.refuses("knows 3 0", Check.NONE);
        VILLAGE.refuses("knows 3 3", Check.NONE);
        VILLAGE.refuses("knows 3 7", Check.BAD);
        VILLAGE.answers("knows 4 0", 0);
        FULL.takes("knows # 58", 0, 15, Check.BAD);
        FULL.takes("knows 15 #", 0, 59, Check.BAD);
        FULL.answers("knows 15 59", 0);
        FULL.refuses("knows 14 59", Check.NONE);
        FULL.refuses("knows 16 60", Check.BAD);
    }

    /** "BAD: also to oneself; NOT: the teller does not KNOW it, one of both is dead, it is BANNED." */
    private static void tell() {
        VILLAGE.takes("tell # 4 0", 0, 3, Check.BAD);
        VILLAGE.takes("tell 0 # 0", 1, 4, Check.BAD);
        VILLAGE.takes("tell 0 1 #", 0, 6, Check.BAD);
        VILLAGE.refuses("tell 0 0 0", Check.BAD);
        VILLAGE.refuses("tell 4 4 0", Check.BAD);
        VILLAGE.refuses("tell 2 4 1", Check.NOT);
        VILLAGE.refuses("tell 3 4 0", Check.NOT);
        VILLAGE.refuses("tell 3 4 3", Check.NOT);
        VILLAGE.refuses("tell 0 3 0", Check.NOT);
        VILLAGE.refuses("tell 0 4 4", Check.NOT);
        VILLAGE.answers("tell 0 4 1", 1);
        // whose act it was may be dead
        VILLAGE.then("dies 0").answers("tell 1 4 1", 1);
        VILLAGE.then("dies 2").answers("tell 0 4 1", 1);
        // BAD stands ahead of each NOT
        VILLAGE.refuses("tell 3 3 0", Check.BAD);
        VILLAGE.refuses("tell 2 2 1", Check.BAD);
        VILLAGE.refuses("tell 0 0 4", Check.BAD);
        VILLAGE.refuses("tell 3 5 0", Check.BAD);
        VILLAGE.refuses("tell 5 3 0", Check.BAD);
        VILLAGE.refuses("tell 0 3 7", Check.BAD);
        // each kind is banned by its own bit alone
        int[] actOfKind = {0, 1, 7, 2, 8, 6, 4};
        Story all = VILLAGE.then("act 2 0 0 2 1 2; act 4 0 0 2 0 0; tell 1 0 6; person 7; ban 0");
        for (int kind = 0; kind <= 6; kind++) {
            all.then("ban " + (1 << kind)).refuses("tell 0 5 " + actOfKind[kind], Check.NOT);
            all.then("ban " + (127 - (1 << kind))).answers("tell 0 5 " + actOfKind[kind], kind == 5 ? 2 : 1);
        }
        FULL.answers("tell 15 14 59", 1);
        FULL.answers("tell 15 0 59", 1);
        FULL.refuses("tell 14 15 59", Check.NOT);
        FULL.then("ban 127").refuses("tell 15 14 59", Check.NOT);
    }

    /** "At the teller's DEPTH and 1 (if that is less than it was)". */
    private static void tellDepth() {
        Story s = Story.ofNothing();
        for (int i = 0; i < 16; i++) s = s.then("person 1");
        s = s.then("stone 1 1; act 5 0 0 0 1 0");
        for (int i = 1; i < 15; i++) s = s.then("tell " + (i - 1) + " " + i + " 0");
        s.answers("tell 14 15 0", 15);
        s.answers("feast 65535 14 0", 1);
        s.then("feast 65535 14 0").answers("knows 15 0", 15);
        s.then("feast 65535 14 0").answers("knows 13 0", 13);
        Story deepest = s.then("tell 14 15 0");
        deepest.answers("knows 15 0", 15);
        deepest.answers("tell 13 15 0", 14);
        deepest.answers("tell 0 15 0", 1);
        deepest.answers("tell 14 15 0", 15);
        deepest.answers("tell 15 0 0", 0);
        deepest.answers("tell 15 1 0", 1);
        deepest.answers("tell 12 13 0", 13);
        // one dies who told it: it stays as deep
        deepest.then("dies 0").answers("knows 1 0", 1);
    }

    /** "An object is used for at most 512 calls": the last of them is answered as the first one is. */
    private static void lastCall() {
        Story s = Story.of("person 50; person 20; stone 7 7; act 0 0 0 0 0 2").times(40, "act 5 0 0 0 1 2");
        s.times(467, "tell 0 1 40").answers("worth 1 0", 245);
        s.times(467, "tell 0 1 40").answers("told 1 3", 41);
    }
}
