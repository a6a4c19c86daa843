/** Promises 18 to 25: what was. */
final class WhatWasTest {
    private static final Due due = new Due();

    public static void main(String[] args) {
        gives();
        stranger();
        liar();
        other();
        drawn();
        drawnRefusals();
        seed();
        image();
        imageKeepsAll();
        due.end();
    }

    private static void gives() {
        WellMoods x = Due.well("p,s,v,m");
        int[] base = {4, 5, 4, 2};
        for (int one = 0; one < 4; one++) {
            for (int mood = -9; mood <= 9; mood++) {
                boolean sweet = one == 1 || one == 0 && mood >= 0;
                int pails = Math.max(0, Math.min(9, base[one] + mood));
                due.is("gives(" + one + ", " + mood + ")", x.gives(one, mood), sweet ? pails : pails + 10);
            }
        }
        int[][] bad = {{-1, 0}, {4, 0}, {9, 0}, {0, -10}, {0, 10}, {Integer.MAX_VALUE, 0}, {0, Integer.MIN_VALUE}};
        for (int[] b : bad) {
            due.is("gives bad", x.gives(b[0], b[1]), WellMoods.BAD);
        }
        x.set(1, 3);
        due.is("gives: no more than the level", x.gives(1, 9), 3);
        due.is("gives: no more than the level, salt", x.gives(2, 9), 13);
        x.set(1, 200);
        x.quarrel(0, 1, true);
        x.draw(0);
        due.is("gives: whoever drew ahead", x.gives(1, 0), 5);
        WellMoods y = Due.well("sr9");
        y.draw(0);
        due.is("gives: without rest", y.gives(0, 0), 5);
    }

    private static void stranger() {
        WellMoods x = Due.well("p,s,v,m+3");
        int[][] rows = {{-1, 0, 4, 56}, {0, 0, 4, 28}, {3, 0, 4, 3}, {9, 0, 9, 127}, {-9, 0, 0, 127}, {0, 1, 5, 28},
            {0, 3, 4, 64}, {-4, 0, 4, 64}, {9, 1, 9, 127}, {9, 0, 4, 0}, {0, 2, 6, 64}, {0, 2, 5, 32}, {8, 3, 8, 4},
            {8, 3, 9, 0x78}, {-9, 1, 0, 127}, {-5, 1, 3, 32}};
        for (int[] r : rows) {
            due.is("stranger(" + r[0] + ", " + r[1] + ", " + r[2] + ")", x.stranger(r[0], r[1], r[2]), r[3]);
        }
        x.set(1, 0);
        due.is("stranger: the level being enough", x.stranger(0, 0, 4), 28);
        int[][] bad = {{-10, 0, 4}, {10, 0, 4}, {0, -1, 4}, {0, 4, 4}, {0, 0, -1}, {0, 0, 10}};
        for (int[] b : bad) {
            due.is("stranger bad", x.stranger(b[0], b[1], b[2]), WellMoods.BAD);
        }
    }

    private static void liar() {
        WellMoods x = Due.well("p,s,v,m");
        due.is("liar: none", x.liar(0, 0, 4, 1, 0, 5), 0);
        due.is("liar: the first", x.liar(0, 0, 5, 1, 0, 5), 1);
        due.is("liar: the other", x.liar(0, 0, 4, 1, 0, 4), 2);
        due.is("liar: both", x.liar(2, 3, 4, 3, 9, 0), 3);
        due.is("liar: at like moods", x.liar(2, -9, 0, 3, 9, 9), 0);
        x.set(1, 0);
        x.quarrel(0, 1, true);
        due.is("liar: level enough, quarrels nothing", x.liar(0, 0, 4, 1, 0, 5), 0);
        int[][] bad = {{0, 0, 4, 0, 0, 4}, {-1, 0, 4, 1, 0, 5}, {0, 0, 4, 4, 0, 5}, {0, -10, 4, 1, 0, 5},
            {0, 10, 4, 1, 0, 5}, {0, 0, -1, 1, 0, 5}, {0, 0, 10, 1, 0, 5}, {0, 0, 4, 1, -10, 5}, {0, 0, 4, 1, 10, 5},
            {0, 0, 4, 1, 0, -1}, {0, 0, 4, 1, 0, 10}, {0, 0, 4, -1, 0, 5}};
        for (int[] b : bad) {
            due.is("liar bad", x.liar(b[0], b[1], b[2], b[3], b[4], b[5]), WellMoods.BAD);
        }
    }

    private static void other() {
        WellMoods x = Due.well("s,pr2");
        x.set(0, 4);
        due.is("most at 4", x.most(1), 9);
        due.is("other at 4", x.other(1), 1);
        due.is("other at 4 in two", x.other(2), 1 + 2);
        due.is("other: the mood stays", x.is(0), 4);
        x.set(0, -4);
        due.is("most at -4", x.most(1), 1);
        due.is("other at -4", x.other(1), 9);
        due.is("other at -4 in two", x.other(2), 9 + 8);
        x.set(0, 0);
        due.is("other at 0", x.other(5), x.most(5));
        due.is("other(0)", x.other(0), WellMoods.BAD);
        due.is("other(6)", x.other(6), WellMoods.BAD);
        due.is("other of nobody", new WellMoods().other(3), 0);
    }

    /** THE DRAW as the document tells it. */
    private static long next(long lots) {
        return (lots * 1103515245L + 12345L) % 2147483648L;
    }

    private static void drawn() {
        WellMoods x = Due.well("p+1,sr3,v-2,m+2,sr2");
        WellMoods y = Due.well("p+1,sr3,v-2,m+2,sr2");
        x.quarrel(0, 2, true);
        y.quarrel(0, 2, true);
        long lots = 1;
        int pails = 0;
        for (int i = 0; i < 60; i++) {
            lots = next(lots);
            int one = (int) (lots / 65536 % 6);
            pails += y.draw(one < 5 && (y.may() >> one & 1) == 1 ? one : 9);
        }
        due.is("drawn(60)", x.drawn(60), pails);
        for (int what = 0; what < 9; what++) {
            due.is("drawn: is(" + what + ")", x.is(what), y.is(what));
        }
        due.is("drawn: the draw", x.seed(0), lots);
        WellMoods none = new WellMoods();
        due.is("drawn of nobody", none.drawn(2), 0);
        due.is("drawn of nobody: hour", none.is(5), 2);
        due.is("drawn of nobody: the draw", none.seed(0), next(next(1)));
        none.drawn(1);
        due.is("drawn: the draw behind 0", none.seed(2147483647), 12345);
        none.drawn(1);
        due.is("drawn: the draw behind the greatest", none.seed(0), next(2147483647L));
        none.draw(9);
        none.pass(3);
        due.is("drawn: no other hour moves the draw", none.seed(0), 0);
    }

    private static void drawnRefusals() {
        WellMoods x = Due.well("s");
        due.is("drawn(0)", x.drawn(0), WellMoods.BAD);
        due.is("drawn(61)", x.drawn(61), WellMoods.BAD);
        due.is("drawn(-1)", x.drawn(-1), WellMoods.BAD);
        while (x.is(5) < 9960) {
            x.pass(60);
        }
        due.is("drawn above 9999", x.drawn(40), WellMoods.FULL);
        due.is("drawn: bad ahead of full", x.drawn(61), WellMoods.BAD);
        due.is("drawn refused: hour", x.is(5), 9960);
        due.is("drawn refused: the draw", x.seed(1), 1);
        x.drawn(39);
        due.is("drawn to 9999", x.is(5), 9999);
        due.is("drawn full", x.drawn(1), WellMoods.FULL);
    }

    private static void seed() {
        WellMoods x = new WellMoods();
        due.is("seed", x.seed(0), 1);
        due.is("seed", x.seed(Integer.MAX_VALUE), 0);
        due.is("seed below 0", x.seed(-1), WellMoods.BAD);
        due.is("seed below 0", x.seed(Integer.MIN_VALUE), WellMoods.BAD);
        due.is("seed: what it was", x.seed(5), Integer.MAX_VALUE);
    }

    private static void image() {
        WellMoods x = Due.well("p");
        due.is("restore without image", x.restore(), WellMoods.NONE);
        due.is("restore without image: folk", x.is(6), 1);
        due.is("image", x.image(), 1);
        x.draw(0);
        due.is("restore", x.restore(), 1);
        due.is("restore: hour", x.is(5), 0);
        x.draw(0);
        due.is("restore again", x.restore(), 1);
        due.is("restore again: hour", x.is(5), 0);
        x.draw(0);
        due.is("image anew", x.image(), 1);
        x.draw(0);
        x.restore();
        due.is("restore of the new one", x.is(5), 1);
    }

    private static void imageKeepsAll() {
        WellMoods x = Due.well("p+1r2,s-2r9,v");
        x.quarrel(0, 1, true);
        Due.plan(x, "0.1");
        x.set(1, 300);
        x.set(2, 5);
        x.draw(1);
        x.draw(0);
        x.seed(99);
        Due.type(x, "2.");
        x.sheet(0, 0, 3);
        x.image();
        Due.type(x, "2");
        x.sheet(1, 2, 4);
        x.plan();
        Due.village(x, "m-1r4");
        x.folk(2, 2, 3);
        x.set(0, 9);
        x.set(1, 70);
        x.set(2, 0);
        x.drawn(2);
        x.draw(x.folk(1, 0, 1));
        Due.type(x, "0");
        due.is("restore", x.restore(), 1);
        int[] at = {0, 300 - 5 + 5 + 5, 5, 5, 0, 2, 3, 3, 0};
        for (int what = 0; what < at.length; what++) {
            due.is("restore: is(" + what + ")", x.is(what), at[what]);
        }
        int[][] told = {{0, 1, 2, 1, 2}, {1, -2, 9, 7, 1}, {2, 0, 1, 0, 0}};
        for (int one = 0; one < 3; one++) {
            for (int what = 0; what < 5; what++) {
                due.is("restore: told(" + one + ", " + what + ")", x.told(one, what), told[one][what]);
            }
        }
        due.is("restore: the draw", x.seed(99), 99);
        due.is("restore: sheets stay", x.drop(1), 4);
        due.is("restore: the tape stays", x.type('.', 1), 2);
        x.plan();
        x.restore();
        due.is("restore: the plan's run ends at one who rests", x.run(), 0);
        x.pass(7);
        due.is("restore: the plan's run", x.run(), 3);
        due.is("restore: the plan's last", x.is(8), 1);
    }
}
