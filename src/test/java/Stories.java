/** The villages that the tests of edges begin with. */
final class Stories {
    /** Calls about stone 0 of the village. */
    static final String[] OF_STONE_0 = {"parts 0 0 2", "parts -1 0 0", "bound 2 0 0", "holds 0 1", "holds -1 0", "owner 1 0",
        "owner -1 0", "worth 1 0", "wealth 0 0", "wealth -1 0", "quarrel 0 0 2", "weight 0 0 2", "split", "tell 0 4 1",
        "feast 23 0 0", "kept 0", "fewest 0", "teller 0 0", "act 0 0 0 0 0 0", "act 1 0 0 2 5 0", "act 2 0 0 2 5 0",
        "act 3 0 0 2 5 0", "act 4 0 0 2 0 0", "act 5 0 0 0 5 0", "act 6 0 0 0 0 0", "acts 0 0 0 1", "about 2 8", "knows 4 0",
        "told 0 3", "count 2", "count 5", "count 6", "dies 0"};

    private Stories() {
    }

    /**
     * Five people, of whom 0, 1 and 4 are old and 3 is dead; three stones, one in the sea and with a cross; seven acts,
     * one forgotten; tales can be told, seized can't; rows of each lane in sheets 0 to 2, nothing in sheet 3.
     */
    static Story village() {
        return Story.of("person 50; person 45; person 20; person 30; person 39")
            .then("stone 10 5; stone 3 -1; stone 40 99")
            .then("act 0 0 0 0 0 31; act 1 0 0 2 4 2; act 3 0 0 1 3 4; act 5 1 3 0 7 0")
            .then("act 6 2 2 0 0 1; act 0 1 4 0 0 2; act 5 0 1 0 20 16")
            .then("years 5; dies 3; cross 1; works 2 1 1; ban 64")
            .then("sheet 0 0 36; item 0 0 0 5; item 0 0 2 1; item 0 0 4 11; item 0 0 5 4; item 0 0 35 1")
            .then("sheet 1 1 12; item 1 1 6 1; item 1 1 9 1; item 1 1 10 2; item 1 1 11 16")
            .then("sheet 2 2 6; item 2 2 0 6; item 2 2 5 23");
    }

    /**
     * 16 people of 0, 4, .. 60 years, the last six of them old; 8 stones of 1 .. 8 hands; 60 acts: 8 + s found stone s
     * before all, 8 + s gave 1 part of it to s, tales of all stones told by all, and at last 15 alone gave 14 a part
     * of stone 7. All sheets hold rows of 36.
     */
    static Story fullVillage() {
        Story s = Story.ofNothing();
        for (int i = 0; i < 16; i++) s = s.then("person " + i * 4);
        for (int i = 0; i < 8; i++) s = s.then("stone " + (i + 1) + " " + i);
        for (int i = 0; i < 8; i++) s = s.then("act 0 " + i + " " + (8 + i) + " 0 0 65535");
        for (int i = 0; i < 8; i++) s = s.then("act 1 " + i + " " + (8 + i) + " " + i + " 1 65535");
        for (int i = 16; i < 59; i++) s = s.then("act 5 " + i % 8 + " " + i % 16 + " 0 1 65535");
        return s.then("act 1 7 15 14 1 0; sheet 0 0 36; sheet 1 1 36; sheet 2 2 36; sheet 3 0 36; item 3 0 35 9");
    }

    /** One was a child and one old at first; a stone; now is 1000. */
    static Story lastYear() {
        return Story.of("person 0; person 60; stone 5 5").times(20, "years 50");
    }
}
