/** Promises 30 to 33: sheet, drop, item, acts. */
public final class SheetsTest {
    private static final int MAX = Integer.MAX_VALUE, MIN = Integer.MIN_VALUE;

    public static void main(String[] args) {
        sheet();
        drop();
        item();
        lowestBits();
        actsRefused();
        acts();
        actsTillRefused();
        newRowIsEmpty();
        Check.end();
    }

    private static void sheet() {
        StoneVillage x = new StoneVillage();
        Check.due("sheet -1", x.sheet(-1, 0, 1), Check.BAD);
        Check.due("sheet 4", x.sheet(4, 0, 1), Check.BAD);
        Check.due("lane -1", x.sheet(0, -1, 1), Check.BAD);
        Check.due("lane 3", x.sheet(0, 3, 1), Check.BAD);
        Check.due("n 37", x.sheet(0, 0, 37), Check.BAD);
        Check.due("n MAX", x.sheet(0, 0, MAX), Check.BAD);
        Check.due("n -1", x.sheet(0, 0, -1), Check.SIZE);
        Check.due("n MIN", x.sheet(0, 0, MIN), Check.SIZE);
        Check.due("BAD ahead of SIZE", x.sheet(0, 3, -1), Check.BAD);
        Check.due("nothing yet", x.drop(0), Check.NULL);
        Check.due("n 0", x.sheet(0, 0, 0), 0);
        Check.due("n 36", x.sheet(3, 2, 36), 36);
        Check.due("refused", x.sheet(3, 2, -1), Check.SIZE);
        Check.due("the row stays", x.drop(3), 36);
    }

    private static void drop() {
        StoneVillage x = new StoneVillage();
        Check.due("sheet -1", x.drop(-1), Check.BAD);
        Check.due("sheet 4", x.drop(4), Check.BAD);
        Check.due("nothing", x.drop(0), Check.NULL);
        x.sheet(0, 1, 5);
        x.sheet(1, 1, 0);
        Check.due("five", x.drop(0), 5);
        Check.due("nothing any more", x.drop(0), Check.NULL);
        Check.due("an empty row is one", x.drop(1), 0);
        Check.due("nothing there too", x.drop(1), Check.NULL);
        Check.due("item of it", x.item(0, 1, 0, 0), Check.NULL);
    }

    private static void item() {
        StoneVillage x = new StoneVillage();
        Check.due("nothing", x.item(0, 0, 0, 0), Check.NULL);
        Check.due("NULL ahead of INDEX", x.item(0, 0, -1, 0), Check.NULL);
        x.sheet(0, 1, 5);
        Check.due("sheet -1", x.item(-1, 1, 0, 0), Check.BAD);
        Check.due("sheet 4", x.item(4, 1, 0, 0), Check.BAD);
        Check.due("lane -1", x.item(0, -1, 0, 0), Check.BAD);
        Check.due("lane 3", x.item(0, 3, 0, 0), Check.BAD);
        Check.due("BAD ahead of NULL", x.item(1, 3, 0, 0), Check.BAD);
        Check.due("another lane", x.item(0, 0, 0, 0), Check.CAST);
        Check.due("another lane above", x.item(0, 2, 0, 0), Check.CAST);
        Check.due("CAST ahead of INDEX", x.item(0, 2, 5, 0), Check.CAST);
        Check.due("item -1", x.item(0, 1, -1, 0), Check.INDEX);
        Check.due("item 5", x.item(0, 1, 5, 0), Check.INDEX);
        Check.due("item MAX", x.item(0, 1, MAX, 0), Check.INDEX);
        Check.due("item MIN", x.item(0, 1, MIN, 0), Check.INDEX);
        Check.due("item 0", x.item(0, 1, 0, MAX), 1);
        Check.due("item 4", x.item(0, 1, 4, MIN), 1);
        x.sheet(0, 2, 0);
        Check.due("of an empty row", x.item(0, 2, 0, 0), Check.INDEX);
    }

    /** A row's items show by the acts that are done from it. */
    private static void lowestBits() {
        int[][] laneValueWant = {
            {0, 256 + 7, 7}, {0, 65536 + 7, 7}, {0, -256 + 9, 9}, {0, 128, 0}, {0, 255, 0}, {0, 127, 127},
            {1, 256 + 7, 263}, {1, 65536 + 7, 7}, {1, -65536 + 9, 9}, {1, 32768, 0}, {1, 65535, 0}, {1, 32767, 32767},
            {2, 65535, 65535}, {2, 65536 + 7, 0}, {2, MIN, 0},
        };
        for (int[] c : laneValueWant) {
            StoneVillage x = new StoneVillage();
            for (int i = 0; i < 16; i++) x.person(20);
            x.stone(2, 2);
            x.sheet(2, c[0], 6);
            x.item(2, c[0], 0, 6);
            x.item(2, c[0], 5, c[1]);
            String call = "lane " + c[0] + " takes " + c[1];
            // a row's negative number is no row of people's bits, and is refused
            boolean refused = c[2] == 0;
            Check.due(call, x.acts(2, c[0], 0, 1), refused ? 0 : 1);
            Check.due(call + " as", x.about(0, 7), refused ? Check.BAD : c[2] | 1);
        }
    }

    private static void actsRefused() {
        StoneVillage x = Check.village(50);
        x.stone(2, 2);
        Check.due("nothing", x.acts(0, 0, 0, 1), Check.NULL);
        Check.due("BAD ahead of NULL: n", x.acts(0, 0, 0, 7), Check.BAD);
        Check.due("n -1", x.acts(0, 0, 0, -1), Check.BAD);
        Check.due("n MAX", x.acts(0, 0, 0, MAX), Check.BAD);
        Check.due("sheet -1", x.acts(-1, 0, 0, 0), Check.BAD);
        Check.due("sheet 4", x.acts(4, 0, 0, 0), Check.BAD);
        Check.due("lane 3", x.acts(0, 3, 0, 0), Check.BAD);
        Check.due("lane -1", x.acts(0, -1, 0, 0), Check.BAD);
        Check.due("NULL ahead of INDEX", x.acts(0, 0, -1, 0), Check.NULL);
        x.sheet(0, 2, 13);
        Check.due("another lane", x.acts(0, 1, 0, 1), Check.CAST);
        Check.due("CAST ahead of INDEX", x.acts(0, 1, -1, 1), Check.CAST);
        Check.due("from -1", x.acts(0, 2, -1, 0), Check.INDEX);
        Check.due("from MIN", x.acts(0, 2, MIN, 6), Check.INDEX);
        Check.due("from MAX", x.acts(0, 2, MAX, 6), Check.INDEX);
        Check.due("from 8", x.acts(0, 2, 8, 1), Check.INDEX);
        Check.due("from 2", x.acts(0, 2, 2, 2), Check.INDEX);
        Check.due("from 0, three", x.acts(0, 2, 0, 3), Check.INDEX);
        Check.due("from 14, none", x.acts(0, 2, 14, 0), Check.INDEX);
        Check.due("nothing was done", x.count(4), 0);
        Check.due("from 13, none", x.acts(0, 2, 13, 0), 0);
        Check.due("from 7, one", x.acts(0, 2, 7, 1), 1);
        Check.due("from 1, two", x.acts(0, 2, 1, 2), 2);
        x.sheet(1, 0, 36);
        Check.due("six", x.acts(1, 0, 0, 6), 6);
        Check.due("all done", x.count(4), 9);
    }

    private static void fill(StoneVillage x, int sheet, int lane, int from, int... items) {
        for (int i = 0; i < items.length; i++) Check.due("item", x.item(sheet, lane, from + i, items[i]), 1);
    }

    private static void acts() {
        StoneVillage x = Check.village(50, 20, 20);
        x.stone(2, 2);
        x.sheet(3, 1, 36);
        fill(x, 3, 1, 4, 0, 0, 0, 5, 5, 3);
        fill(x, 3, 1, 10, 3, 0, 0, 1, 4, 0);
        fill(x, 3, 1, 16, 4, 0, 0, 1, 4, 2);
        fill(x, 3, 1, 22, 5, 0, 2, 9, 17, 7);
        Check.due("four acts", x.acts(3, 1, 4, 4), 4);
        int[][] want = {{0, 0, 0, 0, 0, 0, 1, 3, 2}, {3, 0, 0, 1, 4, 0, 1, 1, 1}, {4, 0, 0, 1, 0, 0, 1, 3, 2}, {5, 0, 2, 0, 17, 0, 1, 7, 3}};
        for (int act = 0; act < want.length; act++) {
            for (int what = 0; what <= 8; what++) Check.due("about " + act + ", " + what, x.about(act, what), want[act][what]);
        }
        Check.due("again", x.acts(3, 1, 16, 2), 2);
        Check.due("acts", x.count(4), 6);
    }

    private static void actsTillRefused() {
        StoneVillage x = Check.village(50);
        x.stone(2, 2);
        x.sheet(0, 0, 18);
        fill(x, 0, 0, 0, 6, 0, 0, 0, 0, 0);
        fill(x, 0, 0, 6, 1, 0, 0, 0, 1, 0);
        fill(x, 0, 0, 12, 6, 0, 0, 0, 0, 0);
        Check.due("the second is refused", x.acts(0, 0, 0, 3), 1);
        Check.due("and the third not done", x.count(4), 1);
        Check.due("the third alone", x.acts(0, 0, 12, 1), 1);
        Check.due("the second alone", x.acts(0, 0, 6, 2), 0);
        x.sheet(0, 0, 36);
        fill(x, 0, 0, 0, 6);
        for (int i = 0; i < 9; i++) x.acts(0, 0, 0, 6);
        Check.due("till 56", x.count(4), 56);
        Check.due("till full", x.acts(0, 0, 0, 6), 4);
        Check.due("full", x.acts(0, 0, 0, 6), 0);
        Check.due("sixty", x.count(4), 60);
    }

    private static void newRowIsEmpty() {
        StoneVillage x = Check.village(50);
        x.stone(2, 2);
        x.sheet(0, 0, 6);
        x.sheet(1, 0, 6);
        fill(x, 0, 0, 0, 5, 0, 0, 0, 4, 0);
        Check.due("a sheet of its own", x.acts(1, 0, 0, 1), 1);
        Check.due("found", x.about(0, 0), 0);
        Check.due("a tale", x.acts(0, 0, 0, 1), 1);
        Check.due("a tale's kind", x.about(1, 0), 5);
        x.sheet(0, 0, 6);
        Check.due("a new row", x.acts(0, 0, 0, 1), 1);
        Check.due("of zeros", x.about(2, 0), 0);
        x.item(0, 0, 0, 6);
        x.drop(0);
        x.sheet(0, 0, 6);
        Check.due("and after a drop", x.acts(0, 0, 0, 1), 1);
        Check.due("of zeros too", x.about(3, 0), 0);
    }
}
