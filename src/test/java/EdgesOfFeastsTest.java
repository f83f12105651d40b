/** Promises 21 to 29: each sentence of the document about them that names a boundary. */
public final class EdgesOfFeastsTest {
    private static final Story VILLAGE = Stories.village(), FULL = Stories.fullVillage(), NOTHING = Story.ofNothing();

    public static void main(String[] args) {
        ban();
        bannedKinds();
        feastRefused();
        feastCounts();
        feastDepth();
        kept();
        fewest();
        fewestOfMany();
        fewestAfterBan();
        teller();
        tellersByNumbers();
        count();
        countEdges();
        cross();
        works();
        worked();
        Check.end();
    }

    /** "KINDS of ACTS (bits 0 .. 127): what was. BAD." "none at first" */
    private static void ban() {
        NOTHING.takes("ban #", 0, 127, Check.BAD);
        VILLAGE.takes("ban #", 0, 127, Check.BAD);
        FULL.takes("ban #", 0, 127, Check.BAD);
        NOTHING.answers("ban 127", 0);
        NOTHING.then("ban 127").answers("ban 0", 127);
        NOTHING.then("ban 127; ban 0").answers("ban 1", 0);
        VILLAGE.answers("ban 0", 64);
        VILLAGE.answers("ban 64", 64);
    }

    /** "all that the teller KNOWS of it but those that are BANNED": each bit bans its own kind alone. */
    private static void bannedKinds() {
        Story s = Story.of("person 1; person 1; person 1; stone 1 1; act 0 0 0 0 0 0; act 1 0 0 1 1 0; act 2 0 0 1 1 0")
            .then("act 3 0 0 1 1 0; act 4 0 0 3 0 0; act 5 0 0 0 1 0; act 6 0 0 0 0 0");
        s.answers("feast 3 0 0", 7);
        for (int kind = 0; kind <= 6; kind++) {
            int bit = 1 << kind;
            s.then("ban " + bit).answers("feast 3 0 0", 6);
            s.then("ban " + bit + "; feast 3 0 0").answers("knows 1 " + kind, Check.NONE);
            s.then("ban " + (127 - bit)).answers("feast 3 0 0", 1);
            s.then("ban " + (127 - bit) + "; feast 3 0 0").answers("knows 1 " + kind, 1);
            s.then("feast 7 0 0; ban " + bit).answers("about " + kind + " 8", 3);
        }
        s.then("ban 127").answers("feast 3 0 0", 0);
        s.then("ban 127; ban 0").answers("feast 3 0 0", 7);
        // those who stand by know what is banned, and it is done, and counts, as ever
        for (String act : new String[] {"0 0 0 0 0", "1 0 0 1 1", "2 0 0 1 1", "3 0 0 1 1", "4 0 0 3 0", "5 0 0 0 1", "6 0 0 0 0"}) {
            s.then("ban 127").answers("act " + act + " 2", 7);
            s.then("ban 127; act " + act + " 2").answers("knows 1 7", 0);
        }
        Story open = VILLAGE.then("ban 0; feast 3 0 0");
        for (String call : Stories.OF_STONE_0) {
            boolean tells = call.startsWith("tell") || call.startsWith("feast") || call.startsWith("fewest");
            if (!tells) open.then("ban 127").answersAs(open, call);
        }
        Story quarrel = Story.of("person 40; person 40; person 1; person 1; stone 1 1; act 0 0 2 0 0 1; act 0 0 3 0 0 0; tell 3 1 1");
        quarrel.answers("quarrel 0 2 3", 2);
        quarrel.then("ban 127").answers("quarrel 0 3 2", 2);
    }

    /** "BAD (bits of those who live, one at least); NOT: the teller is not there." */
    private static void feastRefused() {
        for (String there : new String[] {"0", "8", "9", "31", "32", "65536", "-1", "MIN", "MAX"}) {
            VILLAGE.refuses("feast " + there + " 0 0", Check.BAD);
        }
        VILLAGE.takes("feast 23 # 0", 0, 4, Check.BAD);
        VILLAGE.takes("feast 23 0 #", 0, 2, Check.BAD);
        VILLAGE.refuses("feast 22 0 0", Check.NOT);
        VILLAGE.refuses("feast 1 4 0", Check.NOT);
        VILLAGE.refuses("feast 16 0 0", Check.NOT);
        // a dead one is not there
        VILLAGE.refuses("feast 23 3 0", Check.NOT);
        // BAD stands ahead of NOT
        VILLAGE.refuses("feast 0 3 0", Check.BAD);
        VILLAGE.refuses("feast 8 3 0", Check.BAD);
        VILLAGE.refuses("feast 22 0 3", Check.BAD);
        VILLAGE.refuses("feast 22 0 -1", Check.BAD);
        VILLAGE.refuses("feast 30 0 0", Check.BAD);
        VILLAGE.refuses("feast 22 5 0", Check.BAD);
        // bits beyond 31 are none of those who are there
        for (int teller : new int[] {32, 33, 64, -32}) VILLAGE.refuses("feast 1 " + teller + " 0", Check.BAD);
        FULL.takes("feast 65535 # 7", 0, 15, Check.BAD);
        FULL.takes("feast 65535 15 #", 0, 7, Check.BAD);
        FULL.takes("feast # 0 7", 1, 65535, Check.BAD);
        FULL.refuses("feast 32767 15 7", Check.NOT);
        FULL.then("dies 15").refuses("feast 65535 0 7", Check.BAD);
    }

    /** "how many who were there KNOW an ACT more, counted ACT by ACT" */
    private static void feastCounts() {
        VILLAGE.answers("feast 1 0 0", 0);
        VILLAGE.answers("feast 3 0 0", 1);
        VILLAGE.answers("feast 5 0 0", 1);
        VILLAGE.answers("feast 17 0 0", 2);
        VILLAGE.answers("feast 23 0 2", 0);
        VILLAGE.then("ban 0").answers("feast 23 0 2", 2);
        VILLAGE.then("feast 23 0 0").answers("feast 23 0 0", 0);
        VILLAGE.then("feast 3 0 0").answers("knows 4 1", Check.NONE);
        // what the teller does not know, and what is forgotten, is not told
        VILLAGE.then("feast 23 0 0").answers("knows 0 6", Check.NONE);
        VILLAGE.answers("feast 23 4 1", 2);
        VILLAGE.then("feast 23 4 1").answers("about 3 8", 0);
        FULL.answers("feast 65535 15 7", 15);
        FULL.answers("feast 65535 14 7", 0);
        FULL.answers("feast 65535 15 0", 0);
        FULL.answers("feast 32768 15 7", 0);
        Story most = NOTHING.times(16, "person 1").then("stone 1 1").times(60, "act 6 0 15 0 0 0");
        most.answers("feast 65535 15 0", 15 * 60);
        most.then("feast 65535 15 0").answers("told 0 3", 60);
        most.then("feast 65535 15 0").answers("knows 0 59", 1);
    }

    /** "told on by one who KNOWS it, at the teller's DEPTH and 1 (if that is less than it was)" */
    private static void feastDepth() {
        Story s = Story.of("person 1; person 1; person 1; person 1; stone 1 1; act 6 0 0 0 0 0")
            .then("tell 0 1 0; tell 1 2 0; tell 2 3 0");
        s.answers("feast 15 1 0", 0);
        s.then("feast 15 1 0").answers("knows 0 0", 0);
        s.then("feast 15 1 0").answers("knows 1 0", 1);
        s.then("feast 15 1 0").answers("knows 2 0", 2);
        s.then("feast 15 1 0").answers("knows 3 0", 2);
        s.then("feast 15 0 0").answers("knows 3 0", 1);
        s.then("feast 15 3 0").answers("knows 1 0", 1);
        s.then("feast 15 3 0").answers("knows 3 0", 3);
        s.then("person 1; feast 31 3 0").answers("knows 4 0", 4);
        s.then("ban 64; feast 15 0 0").answers("knows 3 0", 3);
    }

    /** "How many who live KNOW all of a STONE's ACTS that anybody who lives KNOWS. BAD." */
    private static void kept() {
        VILLAGE.takes("kept #", 0, 2, Check.BAD);
        FULL.takes("kept #", 0, 7, Check.BAD);
        NOTHING.then("stone 1 1").answers("kept 0", 0);
        NOTHING.then("stone 1 1; person 1").answers("kept 0", 1);
        VILLAGE.answers("kept 0", 0);
        VILLAGE.answers("kept 1", 2);
        VILLAGE.answers("kept 2", 2);
        FULL.answers("kept 7", 1);
        FULL.answers("kept 0", 16);
        FULL.then("dies 15").answers("kept 7", 15);
        FULL.then("dies 15").answers("kept 0", 15);
        VILLAGE.then("dies 0; dies 2").answers("kept 2", 2);
        VILLAGE.then("dies 0; dies 1; dies 2; dies 4").answers("kept 0", 0);
        VILLAGE.then("ban 127").answers("kept 1", 2);
        // an act of each kind is one to keep
        Story both = Story.of("person 1; person 1; stone 1 1; act 0 0 0 0 0 2; act 3 0 0 1 1 2");
        both.answers("kept 0", 2);
        for (int kind = 0; kind <= 6; kind++) {
            Story one = both.then("act " + kind + " 0 0 1 1 0");
            one.answers("kept 0", 1);
            one.answers("fewest 0", 1);
            one.answers("teller 0 0", 0);
            one.answers("feast 3 0 0", 1);
        }
    }

    /** "FEWEST: (0 .. 4)", "how many. BAD; NONE: not by 4." */
    private static void fewest() {
        VILLAGE.takes("fewest #", 0, 2, Check.BAD);
        FULL.takes("fewest #", 0, 7, Check.BAD);
        NOTHING.then("stone 1 1").answers("fewest 0", 0);
        NOTHING.then("stone 1 1; person 1; act 6 0 0 0 0 0").answers("fewest 0", 0);
        NOTHING.then("stone 1 1; person 1; act 6 0 0 0 0 0; dies 0").answers("fewest 0", 0);
        Story s = NOTHING.times(6, "person 1").then("stone 1 1; stone 1 1");
        for (int feasts = 0; feasts <= 4; feasts++) {
            s.answers("fewest 0", feasts);
            s.answers("fewest 1", 0);
            s = s.then("act 5 0 " + feasts + " 0 1 0");
        }
        s.refuses("fewest 0", Check.NONE);
        s.then("act 5 0 5 0 1 0").refuses("fewest 0", Check.NONE);
        s.then("tell 4 3 4").answers("fewest 0", 4);
        s.then("dies 4").answers("fewest 0", 4);
        s.then("dies 5; dies 4; dies 3; dies 2; dies 1").answers("fewest 0", 0);
        s.then("feast 63 0 0").answers("fewest 0", 4);
        // now 1 tells of 0's too
        s.then("feast 31 0 0").answers("fewest 0", 4);
        s.then("feast 31 0 0").answers("teller 0 0", 1);
    }

    private static void fewestOfMany() {
        FULL.answers("fewest 7", 1);
        FULL.answers("fewest 0", 0);
        FULL.then("dies 15").answers("fewest 7", 0);
        // 60 acts, each known to one of the last four
        Story apart = NOTHING.times(16, "person 1").then("stone 1 1");
        for (int i = 0; i < 60; i++) apart = apart.then("act 6 0 " + (12 + i % 4) + " 0 0 0");
        apart.answers("fewest 0", 4);
        for (int i = 0; i < 4; i++) apart.answers("teller 0 " + i, 12 + i);
        apart.then("tell 15 11 59").answers("fewest 0", 4);
        // one who knows nothing is enough for a feast to be needed
        Story child = Story.of("person 1; person 1; stone 1 1; act 6 0 0 0 0 2");
        child.answers("fewest 0", 0);
        child.then("person 0").answers("fewest 0", 1);
        child.then("person 0; dies 2").answers("fewest 0", 0);
    }

    /** "BANNED ones are not told": what is banned and not known by all is kept by no feast. */
    private static void fewestAfterBan() {
        Story s = Story.of("person 1; person 1; stone 1 1; act 5 0 0 0 1 0; act 6 0 1 0 0 0");
        s.answers("fewest 0", 2);
        s.then("ban 32").refuses("fewest 0", Check.NONE);
        s.then("ban 64").refuses("fewest 0", Check.NONE);
        s.then("ban 31").answers("fewest 0", 2);
        s.then("tell 0 1 0; ban 32").answers("fewest 0", 1);
        s.then("tell 0 1 0; ban 32").answers("teller 0 0", 1);
        s.then("tell 0 1 0; tell 1 0 1; ban 127").answers("fewest 0", 0);
        s.then("ban 127; dies 0").answers("fewest 0", 0);
        VILLAGE.refuses("fewest 2", Check.NONE);
        VILLAGE.then("ban 0").answers("fewest 2", 1);
        VILLAGE.then("ban 0").answers("teller 2 0", 0);
    }

    /** "The i-th teller of it. BAD: also there is no such; NONE: not by 4." */
    private static void teller() {
        VILLAGE.takes("teller # 0", 0, 2, Check.BAD);
        for (String no : new String[] {"-1", "8", "MIN", "MAX"}) FULL.refuses("teller " + no + " 0", Check.BAD);
        Story s = NOTHING.times(6, "person 1").then("stone 1 1; stone 1 1");
        for (int feasts = 0; feasts <= 4; feasts++) {
            for (int i = 0; i < feasts; i++) s.answers("teller 0 " + i, i);
            for (String no : new String[] {"-1", "MIN", "" + feasts, "4", "5", "60", "MAX"}) s.refuses("teller 0 " + no, Check.BAD);
            s.refuses("teller 1 0", Check.BAD);
            s = s.then("act 5 0 " + feasts + " 0 1 0");
        }
        for (String i : new String[] {"0", "1", "2", "3", "4", "5", "60", "MAX"}) s.refuses("teller 0 " + i, Check.NONE);
        for (String i : new String[] {"-1", "MIN"}) s.refuses("teller 0 " + i, Check.BAD);
        s.refuses("teller 1 0", Check.BAD);
        s.refuses("teller 2 0", Check.BAD);
        s.refuses("teller -1 0", Check.BAD);
        for (String i : new String[] {"0", "3", "4", "MAX"}) VILLAGE.refuses("teller 2 " + i, Check.NONE);
        VILLAGE.refuses("teller 3 0", Check.BAD);
        FULL.answers("teller 7 0", 15);
        FULL.refuses("teller 7 1", Check.BAD);
        FULL.refuses("teller 0 0", Check.BAD);
    }

    /** "the tellers, the first such by numbers" */
    private static void tellersByNumbers() {
        Story s = NOTHING.times(16, "person 1").then("stone 1 1");
        // 14 and 15 did it; with 0 behind, or 1 ahead, the first ones change
        Story two = s.then("act 5 0 14 0 1 0; act 5 0 15 0 1 0");
        two.answers("teller 0 0", 14);
        two.answers("teller 0 1", 15);
        two.then("tell 15 0 1").answers("teller 0 0", 0);
        two.then("tell 15 0 1").answers("teller 0 1", 14);
        two.then("tell 15 0 1; tell 14 0 0").answers("teller 0 0", 0);
        two.then("tell 15 0 1; tell 14 0 0").refuses("teller 0 1", Check.BAD);
        two.then("tell 14 13 0; tell 15 13 1").answers("fewest 0", 1);
        two.then("tell 14 13 0; tell 15 13 1").answers("teller 0 0", 13);
        two.then("tell 14 5 0; tell 15 5 1; dies 5").answers("teller 0 0", 14);
        Story four = s.then("act 5 0 3 0 1 16; act 5 0 5 0 1 64; act 5 0 7 0 1 256; act 5 0 9 0 1 1024");
        for (int i = 0; i < 4; i++) four.answers("teller 0 " + i, 3 + 2 * i);
        four.then("tell 9 0 3").answers("teller 0 0", 0);
        four.then("tell 9 0 3").answers("teller 0 3", 7);
        four.then("dies 3").answers("teller 0 0", 4);
        four.then("tell 9 3 3").answers("fewest 0", 3);
        four.then("tell 9 3 3").refuses("teller 0 3", Check.BAD);
    }

    /** "0 PEOPLE, 1 who live, 2 OLD, 3 STONES, 4 ACTS, 5 FORGOTTEN, 6 STRONG, 7 in THE SEA, 8 CROSSES, 9 NOW. BAD." */
    private static void count() {
        NOTHING.takes("count #", 0, 9, Check.BAD);
        VILLAGE.takes("count #", 0, 9, Check.BAD);
        FULL.takes("count #", 0, 9, Check.BAD);
        int[] village = {5, 4, 3, 3, 7, 1, 2, 1, 1, 5}, full = {16, 16, 6, 8, 60, 0, 59, 0, 0, 0};
        for (int what = 0; what <= 9; what++) {
            VILLAGE.answers("count " + what, village[what]);
            FULL.answers("count " + what, full[what]);
        }
    }

    /** "FORGOTTEN is an ACT that nobody who lives KNOWS." */
    private static void countEdges() {
        VILLAGE.then("dies 4").answers("count 5", 1);
        VILLAGE.then("dies 4; dies 1").answers("count 5", 3);
        VILLAGE.then("dies 4; dies 1; dies 0").answers("count 5", 4);
        VILLAGE.then("dies 4; dies 1; dies 0; dies 2").answers("count 5", 7);
        VILLAGE.then("dies 4; dies 1; dies 0; dies 2").answers("count 1", 0);
        VILLAGE.then("dies 4; dies 1; dies 0; dies 2").answers("count 0", 5);
        VILLAGE.then("dies 4; dies 1; dies 0; dies 2").answers("count 6", 2);
        FULL.then("dies 15").answers("count 5", 1);
        FULL.then("dies 15").answers("count 2", 5);
        FULL.then("years 40").answers("count 2", 16);
        FULL.then("years 39").answers("count 2", 15);
        FULL.then("years 4").answers("count 2", 7);
        FULL.then("years 3").answers("count 2", 6);
    }

    /** "paints one on a STONE (not two)", "as many DAYS of work as SIZE tells", "it changes nobody's right". */
    private static void cross() {
        VILLAGE.takes("cross #", 0, 2, Check.BAD);
        FULL.takes("cross #", 0, 7, Check.BAD);
        VILLAGE.refuses("cross 1", Check.NOT);
        VILLAGE.answers("cross 2", 40);
        VILLAGE.then("cross 2").refuses("cross 2", Check.NOT);
        VILLAGE.then("works 0 1 1").refuses("cross 1", Check.NOT);
        VILLAGE.then("works 0 1 2").answers("cross 1", 3);
        VILLAGE.then("works 0 1 1").answers("count 8", 1);
        VILLAGE.then("works 0 1 2").answers("count 8", 0);
        VILLAGE.then("cross 0").answers("parts 0 0 0", 8);
        VILLAGE.then("cross 0").answers("worth 0 0", 100);
        VILLAGE.then("cross 0").answers("owner -1 0", 0);
        Story open = VILLAGE.then("ban 0; feast 3 0 0");
        open.then("cross 0").answersAs(open, Stories.OF_STONE_0);
        open.then("cross 0; works 0 0 100").answersAs(open, Stories.OF_STONE_0);
        NOTHING.then("stone 1 1").answers("cross 0", 1);
        NOTHING.then("stone 40 1").answers("cross 0", 40);
        Story all = FULL;
        for (int stone = 0; stone < 8; stone++) {
            all.answers("count 8", stone);
            all = all.then("cross " + stone);
        }
        all.answers("count 8", 8);
        all.refuses("cross 7", Check.NOT);
    }

    /** "DAYS (1 .. 100) of work of one who lives", "BAD; NOT: dead, or no cross; more DAYS than OWED are not counted." */
    private static void works() {
        VILLAGE.takes("works # 1 1", 0, 4, Check.BAD);
        VILLAGE.takes("works 0 # 1", 0, 2, Check.BAD);
        VILLAGE.takes("works 0 1 #", 1, 100, Check.BAD);
        FULL.then("cross 7").takes("works # 7 1", 0, 15, Check.BAD);
        FULL.takes("works 15 # 1", 0, 7, Check.BAD);
        VILLAGE.refuses("works 3 1 1", Check.NOT);
        VILLAGE.refuses("works 0 0 1", Check.NOT);
        VILLAGE.refuses("works 3 0 1", Check.NOT);
        VILLAGE.then("works 0 1 2").refuses("works 0 1 1", Check.NOT);
        // BAD stands ahead of each NOT
        for (String call : new String[] {"works 3 1 0", "works 3 1 101", "works 3 3 1", "works 3 -1 1", "works 0 0 0",
            "works 0 0 101", "works 5 0 1", "works -1 0 1"}) VILLAGE.refuses(call, Check.BAD);
        int[] left = {1, 0, 0};
        for (int days = 1; days <= 3; days++) VILLAGE.answers("works 0 1 " + days, left[days - 1]);
        VILLAGE.answers("works 0 1 100", 0);
        Story painted = VILLAGE.then("cross 2");
        painted.answers("works 0 2 39", 1);
        painted.answers("works 0 2 40", 0);
        painted.answers("works 0 2 41", 0);
        painted.then("works 0 2 39").answers("count 8", 2);
        painted.then("works 0 2 40").answers("count 8", 1);
        painted.then("works 0 2 41").answers("worked 0", 40);
        painted.then("works 0 2 100").answers("worked 0", 40);
        painted.then("works 0 2 100").answers("works 0 1 1", 1);
        painted.then("works 0 2 39; works 1 2 100").answers("worked 1", 1);
        FULL.then("cross 7").answers("works 0 7 7", 1);
    }

    /** "DAYS that one has worked so far. BAD." */
    private static void worked() {
        VILLAGE.takes("worked #", 0, 4, Check.BAD);
        FULL.takes("worked #", 0, 15, Check.BAD);
        VILLAGE.answers("worked 0", 0);
        VILLAGE.answers("worked 2", 1);
        VILLAGE.answers("worked 3", 0);
        VILLAGE.then("works 2 1 1").answers("worked 2", 2);
        VILLAGE.then("works 2 1 1; dies 2").answers("worked 2", 2);
        VILLAGE.then("works 2 1 100").answers("worked 2", 3);
        VILLAGE.then("works 2 1 2; cross 1; works 2 1 3").answers("worked 2", 6);
        VILLAGE.then("years 50").answers("worked 2", 1);
    }
}
