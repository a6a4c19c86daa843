/** Promises 26 to 31: sheets. */
final class SheetsTest {
    private static final Due due = new Due();

    public static void main(String[] args) {
        fit();
        fitOfRows();
        fitRefusals();
        film();
        filmRefusals();
        sheet();
        drop();
        item();
        itemOfLanes();
        copy();
        copyRefusals();
        due.end();
    }

    /** These items in a new row of a LANE. */
    private static void fill(WellMoods x, int sheet, int lane, long... items) {
        x.sheet(sheet, lane, items.length);
        for (int i = 0; i < items.length; i++) {
            x.item(sheet, lane, i, items[i]);
        }
    }

    private static void fit() {
        WellMoods x = Due.well("p+2,s-1,m+3,v");
        fill(x, 0, 1, 0, 4, 1, 6, 2, 2, 3, 2);
        due.is("fit of one", x.fit(0, 1, 0, 1), 1 << 9);
        due.is("fit of two", x.fit(0, 1, 0, 2), 1 << 9);
        due.is("fit of three", x.fit(0, 1, 0, 3), 1 << 9);
        due.is("fit of four", x.fit(0, 1, 0, 4), 1 << 9);
        due.is("fit from the third on", x.fit(0, 1, 4, 1), 1 << 9);
        due.is("fit from an odd place", x.fit(0, 1, 1, 1), WellMoods.NOT);
        x.item(0, 1, 7, 3);
        due.is("fit of no mood", x.fit(0, 1, 0, 4), 0);
        fill(x, 1, 0, 0, 0);
        due.is("fit of no pails", x.fit(1, 0, 0, 1), 63);
        fill(x, 1, 2, 1, 9);
        due.is("fit of nine", x.fit(1, 2, 0, 1), 0x7e000);
        x.set(1, 0);
        due.is("fit: the level being enough", x.fit(1, 2, 0, 1), 0x7e000);
        x.quarrel(0, 1, true);
        due.is("fit: quarrels nothing", x.fit(0, 1, 0, 2), 1 << 9);
    }

    private static void fitOfRows() {
        WellMoods x = Due.well("s+3r9,m+3");
        fill(x, 0, 0, 0, 0, 0, 0, 0, 4, 0, 6, 0, 8, 0, 9, 0, 9, 0, 9);
        due.is("fit of eight, rest nothing", x.fit(0, 0, 0, 8), 1);
        fill(x, 1, 2, 1, 9, 1, 7, 1, 5, 1, 3, 1, 1, 1, 0);
        int set = 0;
        for (int mood = -9; mood <= 9; mood++) {
            int m = mood;
            boolean fits = true;
            for (int want : new int[] {9, 7, 5, 3, 1, 0}) {
                fits = fits && Math.max(0, Math.min(9, 2 + m)) == want;
                m = Math.max(-9, m - 3);
                m += m > 0 ? -1 : m < 0 ? 1 : 0;
            }
            set |= fits ? 1 << (mood + 9) : 0;
        }
        due.is("fit of the masked", x.fit(1, 2, 0, 6), set);
        WellMoods y = Due.well("m+3,m-3");
        fill(y, 0, 1, 0, 9, 0, 5, 1, 2, 1, 4);
        due.is("fit of both ways", y.fit(0, 1, 0, 2), 1 << 16);
        due.is("fit of both ways", y.fit(0, 1, 0, 4), 1 << 16);
        y.item(0, 1, 7, 5);
        due.is("fit of both ways, but the last", y.fit(0, 1, 0, 3), 1 << 16);
        due.is("fit of both ways, with the last", y.fit(0, 1, 0, 4), 0);
        y.item(0, 1, 7, 4);
        due.is("fit of both ways", y.fit(0, 1, 4, 2), 1 << 9);
    }

    private static void fitRefusals() {
        WellMoods x = Due.well("p-1,s");
        x.sheet(0, 1, 16);
        due.is("fit: sheet -1", x.fit(-1, 1, 0, 1), WellMoods.BAD);
        due.is("fit: sheet 4", x.fit(4, 1, 0, 1), WellMoods.BAD);
        due.is("fit: lane -1", x.fit(0, -1, 0, 1), WellMoods.BAD);
        due.is("fit: lane 3", x.fit(0, 3, 0, 1), WellMoods.BAD);
        due.is("fit: n 0", x.fit(0, 1, 0, 0), WellMoods.BAD);
        due.is("fit: n 9", x.fit(0, 1, 0, 9), WellMoods.BAD);
        due.is("fit: bad ahead of null", x.fit(1, 1, 0, 9), WellMoods.BAD);
        due.is("fit: null", x.fit(1, 1, 99, 1), WellMoods.NULL);
        due.is("fit: cast ahead of index", x.fit(0, 2, 99, 1), WellMoods.CAST);
        due.is("fit: index", x.fit(0, 1, 1, 8), WellMoods.INDEX);
        due.is("fit: index below 0", x.fit(0, 1, -1, 1), WellMoods.INDEX);
        due.is("fit: index far above", x.fit(0, 1, Integer.MAX_VALUE, 1), WellMoods.INDEX);
        due.is("fit: to the end", x.fit(0, 1, 0, 8), 63);
        x.item(0, 1, 15, -1);
        due.is("fit: pails below 0", x.fit(0, 1, 0, 8), WellMoods.NOT);
        due.is("fit: those ahead are fine", x.fit(0, 1, 0, 7), 63);
        due.is("fit: index ahead of not", x.fit(0, 1, 1, 8), WellMoods.INDEX);
        fill(x, 2, 2, 2, 4);
        due.is("fit: nobody", x.fit(2, 2, 0, 1), WellMoods.NOT);
        fill(x, 2, 2, 1, 10);
        due.is("fit: ten pails", x.fit(2, 2, 0, 1), WellMoods.NOT);
        fill(x, 2, 2, 1L << 32, 4);
        due.is("fit: nobody of a long", x.fit(2, 2, 0, 1), WellMoods.NOT);
        fill(x, 2, 2, 0, 1L << 33);
        due.is("fit: pails of a long", x.fit(2, 2, 0, 1), WellMoods.NOT);
        fill(x, 2, 2, -1, 4);
        due.is("fit: nobody below 0", x.fit(2, 2, 0, 1), WellMoods.NOT);
        due.is("fit: nobody at all", fitOfNobody(), WellMoods.NOT);
    }

    private static int fitOfNobody() {
        WellMoods x = new WellMoods();
        x.sheet(0, 0, 2);
        return x.fit(0, 0, 0, 1);
    }

    /** Item i of sheet 0 (bytes), found by fits: it comes as PAILS behind who is 0, s; -1: none fits. */
    private static int pailsAt(WellMoods x, int i) {
        x.sheet(3, 0, 2);
        x.copy(0, i, 3, 1, 1);
        int set = x.fit(3, 0, 0, 1);
        for (int pails = 0; pails <= 9; pails++) {
            x.item(3, 0, 1, pails);
            if (x.fit(3, 0, 0, 1) == set) {
                return pails;
            }
        }
        return -1;
    }

    private static void film() {
        WellMoods x = Due.well("s,v");
        x.sheet(0, 0, 24);
        due.is("film", x.film(0, 0, 0, 5), 19);
        for (int i = 0; i < 24; i++) {
            int want = i < 5 ? 0 : x.gives(0, i - 14);
            due.is("film: item " + i, pailsAt(x, i), want);
        }
        x.set(1, 3);
        due.is("film of a low level", x.film(0, 0, 0, 0), 19);
        for (int i = 0; i < 19; i++) {
            due.is("film of a low level: item " + i, pailsAt(x, i), x.gives(0, i - 9));
        }
        due.is("film of salt", x.film(1, 0, 0, 0), 19);
        for (int i = 0; i < 19; i++) {
            due.is("film of salt: 10 more, item " + i, pailsAt(x, i), -1);
        }
        due.is("film of salt: none behind it", pailsAt(x, 19), 9);
    }

    private static void filmRefusals() {
        WellMoods x = Due.well("s-1");
        x.sheet(0, 1, 24);
        x.sheet(1, 1, 18);
        due.is("film: nobody", x.film(1, 0, 1, 0), WellMoods.BAD);
        due.is("film: nobody below 0", x.film(-1, 0, 1, 0), WellMoods.BAD);
        due.is("film: sheet 4", x.film(0, 4, 1, 0), WellMoods.BAD);
        due.is("film: sheet -1", x.film(0, -1, 1, 0), WellMoods.BAD);
        due.is("film: lane 3", x.film(0, 0, 3, 0), WellMoods.BAD);
        due.is("film: lane -1", x.film(0, 0, -1, 0), WellMoods.BAD);
        due.is("film: bad ahead of null", x.film(1, 2, 1, 0), WellMoods.BAD);
        due.is("film: null", x.film(0, 2, 1, 99), WellMoods.NULL);
        due.is("film: cast", x.film(0, 0, 2, 99), WellMoods.CAST);
        due.is("film: index", x.film(0, 0, 1, 6), WellMoods.INDEX);
        due.is("film: index below 0", x.film(0, 0, 1, -1), WellMoods.INDEX);
        due.is("film: index far above", x.film(0, 0, 1, Integer.MAX_VALUE), WellMoods.INDEX);
        due.is("film: too few items", x.film(0, 1, 1, 0), WellMoods.INDEX);
        due.is("film refused: all stays", x.fit(0, 1, 0, 8), 31);
        due.is("film: to the end", x.film(0, 0, 1, 5), 19);
    }

    private static void sheet() {
        WellMoods x = Due.well("p");
        due.is("sheet -1", x.sheet(-1, 0, 1), WellMoods.BAD);
        due.is("sheet 4", x.sheet(4, 0, 1), WellMoods.BAD);
        due.is("sheet: lane -1", x.sheet(0, -1, 1), WellMoods.BAD);
        due.is("sheet: lane 3", x.sheet(0, 3, 1), WellMoods.BAD);
        due.is("sheet: n 25", x.sheet(0, 0, 25), WellMoods.BAD);
        due.is("sheet: n below 0", x.sheet(0, 0, -1), WellMoods.SIZE);
        due.is("sheet: bad ahead of size", x.sheet(4, 0, -1), WellMoods.BAD);
        due.is("sheet: bad lane ahead of size", x.sheet(0, 3, Integer.MIN_VALUE), WellMoods.BAD);
        due.is("sheet refused: nothing", x.drop(0), WellMoods.NULL);
        due.is("sheet of none", x.sheet(0, 0, 0), 0);
        due.is("sheet of none: no item", x.item(0, 0, 0, 1), WellMoods.INDEX);
        due.is("sheet of none: it is there", x.drop(0), 0);
        due.is("sheet of 24", x.sheet(3, 2, 24), 24);
        x.item(3, 2, 0, 7);
        x.item(3, 2, 1, 7);
        due.is("sheet anew", x.sheet(3, 2, 2), 2);
        due.is("sheet anew: items are 0", x.fit(3, 2, 0, 1), 63);
        due.is("sheet anew: no third", x.item(3, 2, 2, 1), WellMoods.INDEX);
        due.is("sheet refused", x.sheet(3, 0, -1), WellMoods.SIZE);
        due.is("sheet refused: stays of its lane", x.item(3, 2, 1, 1), 1);
        due.is("sheet of another lane", x.sheet(3, 0, 2), 2);
        due.is("sheet of another lane: cast", x.item(3, 2, 1, 1), WellMoods.CAST);
    }

    private static void drop() {
        WellMoods x = new WellMoods();
        due.is("drop(-1)", x.drop(-1), WellMoods.BAD);
        due.is("drop(4)", x.drop(4), WellMoods.BAD);
        due.is("drop of nothing", x.drop(2), WellMoods.NULL);
        x.sheet(2, 1, 7);
        x.sheet(1, 1, 3);
        due.is("drop", x.drop(2), 7);
        due.is("drop again", x.drop(2), WellMoods.NULL);
        due.is("drop: the other stays", x.drop(1), 3);
    }

    private static void item() {
        WellMoods x = Due.well("p");
        x.sheet(1, 1, 2);
        due.is("item", x.item(1, 1, 1, 4), 1);
        due.is("item: is there", x.fit(1, 1, 0, 1), 1 << 9);
        due.is("item: sheet -1", x.item(-1, 1, 0, 4), WellMoods.BAD);
        due.is("item: sheet 4", x.item(4, 1, 0, 4), WellMoods.BAD);
        due.is("item: lane -1", x.item(1, -1, 0, 4), WellMoods.BAD);
        due.is("item: lane 3", x.item(1, 3, 0, 4), WellMoods.BAD);
        due.is("item: bad ahead of null", x.item(0, 3, 0, 4), WellMoods.BAD);
        due.is("item: null", x.item(0, 1, 99, 4), WellMoods.NULL);
        due.is("item: cast", x.item(1, 0, 99, 4), WellMoods.CAST);
        due.is("item: index", x.item(1, 1, 2, 4), WellMoods.INDEX);
        due.is("item: index below 0", x.item(1, 1, -1, 4), WellMoods.INDEX);
        due.is("item: index far above", x.item(1, 1, Integer.MAX_VALUE, 4), WellMoods.INDEX);
        due.is("item refused: stays", x.fit(1, 1, 0, 1), 1 << 9);
    }

    private static void itemOfLanes() {
        // Of each: a LANE, what an item becomes, what a fit then answers (4 PAILS: mood 0; below 0 and above 9: NOT).
        long[][] rows = {{0, 0x104L, 512}, {0, 0x84L, WellMoods.NOT}, {0, -252L, 512}, {0, 0xffL, WellMoods.NOT},
            {1, 0x10004L, 512}, {1, 0x104L, WellMoods.NOT}, {1, 0x8004L, WellMoods.NOT}, {1, 0x7fff0004L, 512},
            {2, 4L, 512}, {2, 0x10004L, WellMoods.NOT}, {2, 0x100000004L, WellMoods.NOT}, {2, Long.MIN_VALUE + 4, WellMoods.NOT}};
        WellMoods x = Due.well("p");
        for (long[] r : rows) {
            int lane = (int) r[0];
            x.sheet(0, lane, 2);
            due.is("item of lane " + lane, x.item(0, lane, 1, r[1]), 1);
            due.is("item of lane " + lane + " from " + r[1], x.fit(0, lane, 0, 1), r[2]);
        }
    }

    private static void copy() {
        WellMoods x = Due.well("s");
        fill(x, 0, 0, 1, 2, 3, 4, 5, 6);
        due.is("copy behind", x.copy(0, 0, 0, 1, 4), 4);
        int[] behind = {1, 1, 2, 3, 4, 6};
        for (int i = 0; i < 6; i++) {
            due.is("copy behind: item " + i, pailsAt(x, i), behind[i]);
        }
        fill(x, 0, 0, 1, 2, 3, 4, 5, 6);
        due.is("copy ahead", x.copy(0, 2, 0, 0, 4), 4);
        int[] ahead = {3, 4, 5, 6, 5, 6};
        for (int i = 0; i < 6; i++) {
            due.is("copy ahead: item " + i, pailsAt(x, i), ahead[i]);
        }
        fill(x, 1, 0, 7, 8, 9);
        due.is("copy to another", x.copy(1, 0, 0, 3, 3), 3);
        int[] another = {3, 4, 5, 7, 8, 9};
        for (int i = 0; i < 6; i++) {
            due.is("copy to another: item " + i, pailsAt(x, i), another[i]);
        }
        due.is("copy: it is its own", x.item(1, 0, 0, 1), 1);
        due.is("copy: it is its own", pailsAt(x, 3), 7);
    }

    private static void copyRefusals() {
        WellMoods x = Due.well("s");
        x.sheet(0, 1, 6);
        x.sheet(1, 1, 3);
        x.sheet(2, 0, 3);
        int[][] rows = {{-1, 0, 0, 0, 0, WellMoods.BAD}, {4, 0, 0, 0, 0, WellMoods.BAD}, {0, 0, -1, 0, 0, WellMoods.BAD},
            {0, 0, 4, 0, 0, WellMoods.BAD}, {3, 0, 4, 0, 0, WellMoods.BAD}, {3, 0, 0, 0, 0, WellMoods.NULL},
            {0, 0, 3, 0, 0, WellMoods.NULL}, {2, -1, 3, 0, 0, WellMoods.NULL}, {0, 0, 2, 0, 0, WellMoods.CAST},
            {0, -1, 2, 0, -1, WellMoods.CAST}, {0, 0, 1, 0, -1, WellMoods.INDEX}, {0, 0, 1, 0, 4, WellMoods.INDEX},
            {1, 0, 0, 0, 4, WellMoods.INDEX}, {0, -1, 1, 0, 1, WellMoods.INDEX}, {0, 0, 1, -1, 1, WellMoods.INDEX},
            {0, 6, 1, 3, 0, 0}, {0, 7, 1, 3, 0, WellMoods.INDEX}, {0, 6, 1, 4, 0, WellMoods.INDEX},
            {0, -1, 1, 0, 0, WellMoods.INDEX}, {0, 0, 1, -1, 0, WellMoods.INDEX}, {0, 3, 1, 0, 3, 3},
            {0, 0, 1, 0, Integer.MAX_VALUE, WellMoods.INDEX}, {0, Integer.MAX_VALUE, 1, 0, 1, WellMoods.INDEX},
            {0, 0, 1, Integer.MAX_VALUE, Integer.MAX_VALUE, WellMoods.INDEX}, {0, 0, 1, 0, Integer.MIN_VALUE, WellMoods.INDEX},
            {0, Integer.MIN_VALUE, 1, 0, Integer.MIN_VALUE, WellMoods.INDEX}, {0, 0, 0, 0, 6, 6}};
        for (int[] r : rows) {
            String call = "copy(" + r[0] + ", " + r[1] + ", " + r[2] + ", " + r[3] + ", " + r[4] + ")";
            due.is(call, x.copy(r[0], r[1], r[2], r[3], r[4]), r[5]);
        }
    }
}
