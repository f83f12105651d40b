/** Promises 30 to 33: each sentence of the document about them that names a boundary. */
public final class EdgesOfSheetsTest {
    private static final Story VILLAGE = Stories.village(), FULL = Stories.fullVillage(), NOTHING = Story.ofNothing();
    private static final Story FULL_OF_PEOPLE = NOTHING.times(16, "person 20").then("stone 1 1");
    private static final String[] ODD = {"-1", "7", "37", "MIN", "MAX"};

    public static void main(String[] args) {
        sheet();
        sheetIsNew();
        drop();
        item();
        itemInOrder();
        lowestBits();
        actsTake();
        actsInOrder();
        actsFromThere();
        actsTillRefused();
        actsTillFull();
        actsAsAct();
        Check.end();
    }

    /** "sheets 0 .. 3", "a LANE: 0 bytes, 1 shorts, 2 ints", "0 to 36 items", "BAD: also n above 36; SIZE: n below 0." */
    private static void sheet() {
        for (Story s : new Story[] {NOTHING, VILLAGE, FULL}) {
            s.takes("sheet # 0 1", 0, 3, Check.BAD);
            s.takes("sheet 0 # 1", 0, 2, Check.BAD);
            for (int lane = 0; lane <= 2; lane++) {
                s.answers("sheet 3 " + lane + " 0", 0);
                s.answers("sheet 3 " + lane + " 36", 36);
                s.refuses("sheet 3 " + lane + " 37", Check.BAD);
                s.refuses("sheet 3 " + lane + " MAX", Check.BAD);
                s.refuses("sheet 3 " + lane + " -1", Check.SIZE);
                s.refuses("sheet 3 " + lane + " MIN", Check.SIZE);
            }
            // SIZE stands behind BAD
            for (String odd : ODD) {
                s.refuses("sheet " + odd + " 0 -1", Check.BAD);
                s.refuses("sheet 0 " + odd + " -1", Check.BAD);
            }
        }
    }

    /** "A SHEET holds a new row of a LANE": nothing of the one before is left, and the others stay. */
    private static void sheetIsNew() {
        Story s = VILLAGE.then("sheet 0 0 6");
        s.answers("drop 0", 6);
        s.answers("drop 1", 12);
        s.answers("drop 2", 6);
        s.refuses("drop 3", Check.NULL);
        s.refuses("item 0 0 6 1", Check.INDEX);
        s.refuses("item 0 1 0 1", Check.CAST);
        VILLAGE.then("acts 0 0 0 1").answers("about 7 0", 5);
        s.then("acts 0 0 0 1").answers("about 7 0", 0);
        VILLAGE.then("drop 0; sheet 0 0 6; acts 0 0 0 1").answers("about 7 0", 0);
        VILLAGE.then("sheet 0 2 6").answers("item 0 2 0 1", 1);
        VILLAGE.then("sheet 0 2 6").refuses("item 0 0 0 1", Check.CAST);
        VILLAGE.then("sheet 0 0 0").answers("drop 0", 0);
    }

    /** "A SHEET holds nothing: how many items it had. BAD; NULL." "nothing (at first)" */
    private static void drop() {
        NOTHING.takes("drop #", 0, 3, Check.BAD);
        VILLAGE.takes("drop #", 0, 3, Check.BAD);
        FULL.takes("drop #", 0, 3, Check.BAD);
        for (int sheet = 0; sheet <= 3; sheet++) NOTHING.refuses("drop " + sheet, Check.NULL);
        VILLAGE.refuses("drop 3", Check.NULL);
        VILLAGE.answers("drop 0", 36);
        VILLAGE.then("drop 0").refuses("drop 0", Check.NULL);
        VILLAGE.then("drop 0").refuses("item 0 0 0 0", Check.NULL);
        VILLAGE.then("drop 0").refuses("acts 0 0 0 0", Check.NULL);
        VILLAGE.then("drop 0").answers("drop 1", 12);
        VILLAGE.then("sheet 3 2 0").answers("drop 3", 0);
        VILLAGE.then("sheet 3 2 0; drop 3").refuses("drop 3", Check.NULL);
        FULL.answers("drop 3", 36);
    }

    /** "Item i of a SHEET, taken as a row of a LANE, becomes v, its lowest bits: 1. BAD; NULL; CAST; INDEX." */
    private static void item() {
        VILLAGE.takes("item # 0 0 0", 0, 3, Check.BAD);
        VILLAGE.takes("item 0 # 0 0", 0, 2, Check.BAD);
        VILLAGE.takes("item 0 0 # 0", 0, 35, Check.INDEX);
        VILLAGE.takes("item 1 1 # 0", 0, 11, Check.INDEX);
        VILLAGE.takes("item 2 2 # 0", 0, 5, Check.INDEX);
        FULL.takes("item 3 0 # 0", 0, 35, Check.INDEX);
        VILLAGE.then("sheet 3 0 1").takes("item 3 0 # 0", 0, 0, Check.INDEX);
        for (int lane = 0; lane <= 2; lane++) {
            for (String i : new String[] {"-1", "0", "1", "MIN", "MAX"}) {
                VILLAGE.then("sheet 3 " + lane + " 0").refuses("item 3 " + lane + " " + i + " 0", Check.INDEX);
            }
            for (String v : new String[] {"MIN", "-32769", "-129", "-1", "128", "32768", "MAX"}) {
                VILLAGE.then("sheet 3 " + lane + " 36").answers("item 3 " + lane + " 35 " + v, 1);
            }
        }
    }

    /** "NULL -11, CAST -12, INDEX -13, SIZE -14, in this order, behind BAD". */
    private static void itemInOrder() {
        for (String odd : ODD) {
            VILLAGE.refuses("item " + odd + " 0 -1 0", Check.BAD);
            VILLAGE.refuses("item 3 " + odd + " -1 0", Check.BAD);
            VILLAGE.refuses("item 0 " + odd + " -1 0", Check.BAD);
            for (int lane = 0; lane <= 2; lane++) {
                VILLAGE.refuses("item 3 " + lane + " " + odd + " 0", Check.NULL);
                VILLAGE.then("drop 0").refuses("item 0 " + lane + " " + odd + " 0", Check.NULL);
                if (lane != 0) VILLAGE.refuses("item 0 " + lane + " " + odd + " 0", Check.CAST);
                if (lane != 1) VILLAGE.refuses("item 1 " + lane + " " + odd + " 0", Check.CAST);
                if (lane != 2) VILLAGE.refuses("item 2 " + lane + " " + odd + " 0", Check.CAST);
            }
        }
        VILLAGE.then("sheet 3 0 0").refuses("item 3 1 0 0", Check.CAST);
    }

    /** "v, its lowest bits": 8 of bytes, 16 of shorts, 32 of ints, the highest of them its sign. */
    private static void lowestBits() {
        String[][] becomes = {
            {"0", "127", "127"}, {"0", "128", "-128"}, {"0", "255", "-1"}, {"0", "256", "0"}, {"0", "261", "5"},
            {"0", "-1", "-1"}, {"0", "-128", "-128"}, {"0", "-129", "127"}, {"0", "-251", "5"}, {"0", "MAX", "-1"}, {"0", "MIN", "0"},
            {"1", "127", "127"}, {"1", "261", "261"}, {"1", "32767", "32767"}, {"1", "32768", "-32768"}, {"1", "65535", "-1"},
            {"1", "65536", "0"}, {"1", "65541", "5"}, {"1", "-32768", "-32768"}, {"1", "-32769", "32767"}, {"1", "MAX", "-1"},
            {"1", "MIN", "0"},
            {"2", "32767", "32767"}, {"2", "65535", "65535"}, {"2", "65541", "65541"}, {"2", "MAX", "MAX"}, {"2", "MIN", "MIN"},
        };
        for (String[] c : becomes) {
            Story row = FULL_OF_PEOPLE.then("sheet 1 " + c[0] + " 6; item 1 " + c[0] + " 5 " + c[1]);
            String same = "act 0 0 0 0 0 " + c[2];
            // a row's item is taken as it became: a row of people, or none, who stand by
            row.answers("acts 1 " + c[0] + " 0 1", isRowOfPeople(c[2]) ? 1 : 0);
            if (!isRowOfPeople(c[2])) FULL_OF_PEOPLE.refuses(same, Check.BAD);
            else row.then("acts 1 " + c[0] + " 0 1").answers("about 0 7", Integer.parseInt(c[2]) | 1);
        }
    }

    private static boolean isRowOfPeople(String word) {
        return !word.startsWith("M") && Integer.parseInt(word) >= 0 && Integer.parseInt(word) <= 65535;
    }

    /** "n ACTS (0 .. 6) from a SHEET, taken as a row of a LANE, from an item on. BAD; NULL; CAST; INDEX." */
    private static void actsTake() {
        VILLAGE.takes("acts # 0 0 1", 0, 3, Check.BAD);
        VILLAGE.takes("acts 0 # 0 1", 0, 2, Check.BAD);
        VILLAGE.takes("acts 0 0 0 #", 0, 6, Check.BAD);
        VILLAGE.takes("acts 1 1 0 #", 0, 6, Check.BAD);
        FULL.takes("acts 3 0 0 #", 0, 6, Check.BAD);
        for (int n = 0; n <= 6; n++) {
            VILLAGE.takes("acts 0 0 # " + n, 0, 36 - 6 * n, Check.INDEX);
            FULL.takes("acts 3 0 # " + n, 0, 36 - 6 * n, Check.INDEX);
        }
        for (int n = 0; n <= 2; n++) VILLAGE.takes("acts 1 1 # " + n, 0, 12 - 6 * n, Check.INDEX);
        for (int n = 3; n <= 6; n++) VILLAGE.refuses("acts 1 1 0 " + n, Check.INDEX);
        Story five = VILLAGE.then("sheet 3 2 5");
        five.answers("acts 3 2 5 0", 0);
        five.refuses("acts 3 2 0 1", Check.INDEX);
        Story none = VILLAGE.then("sheet 3 2 0");
        none.answers("acts 3 2 0 0", 0);
        none.refuses("acts 3 2 1 0", Check.INDEX);
        none.refuses("acts 3 2 0 1", Check.INDEX);
    }

    /** "NULL -11, CAST -12, INDEX -13 .. in this order, behind BAD". */
    private static void actsInOrder() {
        for (String odd : ODD) {
            VILLAGE.refuses("acts " + odd + " 0 -1 0", Check.BAD);
            VILLAGE.refuses("acts 3 " + odd + " -1 0", Check.BAD);
            VILLAGE.refuses("acts 0 " + odd + " -1 0", Check.BAD);
            VILLAGE.refuses("acts 3 0 -1 " + odd, Check.BAD);
            VILLAGE.refuses("acts 0 1 -1 " + odd, Check.BAD);
            VILLAGE.refuses("acts 0 0 -1 " + odd, Check.BAD);
            for (int lane = 0; lane <= 2; lane++) {
                VILLAGE.refuses("acts 3 " + lane + " " + odd + " 6", Check.NULL);
                if (lane != 0) VILLAGE.refuses("acts 0 " + lane + " " + odd + " 6", Check.CAST);
                if (lane != 1) VILLAGE.refuses("acts 1 " + lane + " " + odd + " 6", Check.CAST);
                if (lane != 2) VILLAGE.refuses("acts 2 " + lane + " " + odd + " 6", Check.CAST);
            }
        }
        for (int n = 0; n <= 6; n++) {
            VILLAGE.refuses("acts 3 0 0 " + n, Check.NULL);
            VILLAGE.refuses("acts 0 1 0 " + n, Check.CAST);
        }
    }

    /** "from an item on": the first and the last six of 36. */
    private static void actsFromThere() {
        Story s = VILLAGE.then("item 0 0 30 5; item 0 0 34 20; item 0 0 31 2; item 0 0 32 4; item 0 0 35 1");
        s.answers("acts 0 0 30 1", 1);
        int[] last = {5, 2, 4, 0, 20, 5, 1, 17, 2};
        for (int what = 0; what <= 8; what++) s.then("acts 0 0 30 1").answers("about 7 " + what, last[what]);
        int[] first = {5, 0, 1, 0, 11, 5, 0, 6, 2};
        for (int what = 0; what <= 8; what++) s.then("acts 0 0 0 1").answers("about 7 " + what, first[what]);
        s.answers("acts 0 0 0 6", 6);
        s.then("acts 0 0 0 6").answers("about 12 4", 20);
        s.then("acts 0 0 0 6").answers("count 4", 13);
        s.then("acts 0 0 0 0").answers("count 4", 7);
        VILLAGE.then("acts 1 1 0 2").answers("about 8 3", 1);
        VILLAGE.then("acts 2 2 0 1").answers("about 7 7", 23);
        VILLAGE.then("acts 2 2 0 1").answers("drop 2", 6);
        // the row stays, to be taken again
        VILLAGE.then("acts 0 0 0 1; acts 0 0 0 1").answers("about 8 0", 5);
        VILLAGE.then("acts 0 0 0 1; acts 0 0 0 1").answers("about 8 4", 11);
    }

    /** "how many were done till the first that is refused": what was done ahead of it stays. */
    private static void actsTillRefused() {
        for (int refused = 0; refused < 6; refused++) {
            Story s = VILLAGE.then("item 0 0 " + (6 * refused) + " 7");
            s.answers("acts 0 0 0 6", refused);
            s.then("acts 0 0 0 6").answers("count 4", 7 + refused);
            s.answers("acts 0 0 " + 6 * refused + " 1", 0);
        }
        // one refused at once is no act
        VILLAGE.then("item 0 0 0 7").refuses("acts 0 0 0 6", 0);
        VILLAGE.refuses("acts 0 0 0 0", 0);
        VILLAGE.then("item 0 0 1 3").refuses("acts 0 0 0 1", 0);
        VILLAGE.then("item 0 0 2 3").refuses("acts 0 0 0 1", 0);
        VILLAGE.then("item 0 0 4 21").refuses("acts 0 0 0 1", 0);
        VILLAGE.then("item 0 0 4 -1").refuses("acts 0 0 0 1", 0);
        VILLAGE.then("item 0 0 5 8").refuses("acts 0 0 0 1", 0);
    }

    /** "FULL: 60" of ACTS, in the midst of a row. */
    private static void actsTillFull() {
        FULL.refuses("acts 0 0 0 1", 0);
        FULL.refuses("acts 3 0 0 6", 0);
        Story s = NOTHING.then("person 1; stone 1 1; sheet 0 0 36; sheet 1 2 0").times(9, "acts 0 0 0 6");
        s.answers("count 4", 54);
        s.answers("acts 0 0 0 6", 6);
        for (int ahead = 1; ahead <= 6; ahead++) {
            s = s.then("act 6 0 0 0 0 0");
            s.answers("acts 0 0 0 6", 6 - ahead);
            s.then("acts 0 0 0 6").answers("count 4", 60);
        }
        s.refuses("acts 0 0 0 1", 0);
        s.refuses("acts 0 0 0 7", Check.BAD);
        s.refuses("acts 2 0 0 1", Check.NULL);
        s.refuses("acts 1 0 0 1", Check.CAST);
        s.refuses("acts 0 0 31 1", Check.INDEX);
    }

    /** "each as act()": a later one of a row looks at the ones ahead. */
    private static void actsAsAct() {
        Story s = NOTHING.then("person 50; person 40; stone 1 1; sheet 0 2 18; item 0 2 5 2")
            .then("item 0 2 6 3; item 0 2 9 1; item 0 2 10 5; item 0 2 11 2; item 0 2 12 4; item 0 2 15 1");
        s.answers("acts 0 2 0 3", 3);
        s.then("acts 0 2 0 3").answers("bound 0 0 0", 0);
        s.then("acts 0 2 0 3").answers("bound 1 0 0", 5);
        s.then("acts 0 2 0 2").answers("bound 0 0 0", 5);
        s.then("acts 0 2 0 3").answers("about 1 6", 1);
        s.then("acts 0 2 0 3").answers("about 2 6", 0);
        s.then("acts 0 2 0 3").answers("holds 0 2", 1);
        s.answers("acts 0 2 12 1", 0);
        s.answers("acts 0 2 6 2", 1);
        s.then("dies 0").refuses("acts 0 2 0 3", 0);
    }
}
