/** What the tests share: compares answers, prints those that are not as due, ends the test. */
final class Check {
    static final int BAD = -1, NOT = -2, FULL = -3, NONE = -4, NULL = -11, CAST = -12, INDEX = -13, SIZE = -14;
    private static int wrong = 0;

    private Check() {
    }

    static void due(String call, long got, long want) {
        if (got == want) return;
        wrong++;
        System.out.println(call + " answered " + got + ", due is " + want);
    }

    static void due(String call, boolean holds) {
        due(call, holds ? 1 : 0, 1);
    }

    static void due(String what, String got, String want) {
        if (got.equals(want)) return;
        wrong++;
        System.out.println(what + ": is " + got + ", due is " + want);
    }

    static int wrong() {
        return wrong;
    }

    static void end() {
        if (wrong != 0) System.exit(1);
    }

    /** A village of people of these ages. */
    static StoneVillage village(int... ages) {
        StoneVillage x = new StoneVillage();
        for (int i = 0; i < ages.length; i++) due("person " + i, x.person(ages[i]), i);
        return x;
    }
}
