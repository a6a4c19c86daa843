/** Promises 10 to 17: hours. */
final class HoursTest {
    private static final Due due = new Due();

    public static void main(String[] args) {
        may();
        drawByKind();
        drawBounds();
        drawRefusals();
        drawOfThoseWhoQuarrel();
        mood();
        pass();
        run();
        most();
        mostOfRestsAndLevel();
        row();
        fewest();
        peace();
        peaceOfLaterHours();
        due.end();
    }

    /** A well of this one at a MOOD. */
    private static WellMoods at(String folk, int mood) {
        WellMoods x = Due.well(folk);
        x.set(0, mood);
        return x;
    }

    private static void toHour(WellMoods x, int hour) {
        while (x.is(5) < hour) {
            x.pass(Math.min(60, hour - x.is(5)));
        }
    }

    private static void may() {
        WellMoods x = Due.well("p,sr2,vr3,m");
        due.is("may: all", x.may(), 15);
        x.draw(2);
        due.is("may: not 2", x.may(), 11);
        x.draw(1);
        due.is("may: not 1, 2", x.may(), 9);
        x.draw(0);
        due.is("may: all again", x.may(), 15);
    }

    private static void drawByKind() {
        String[] kinds = {"p", "s", "v", "m"};
        int[] base = {4, 5, 4, 2};
        for (int kind = 0; kind < 4; kind++) {
            for (int mood = -9; mood <= 9; mood++) {
                WellMoods x = at(kinds[kind], mood);
                int pails = Math.max(0, Math.min(9, base[kind] + mood));
                boolean sweet = kind == 1 || kind == 0 && mood >= 0;
                String call = "draw of " + kinds[kind] + " at " + mood;
                due.is(call, x.draw(0), pails);
                due.is(call + ": sweet", x.is(3), sweet ? pails : 0);
                due.is(call + ": salt", x.is(4), sweet ? 0 : pails);
                due.is(call + ": level", x.is(1), 200 - pails + 1);
            }
        }
    }

    private static void drawBounds() {
        WellMoods x = Due.well("s");
        x.set(1, 3);
        x.set(2, 0);
        due.is("draw: no more than the level", x.draw(0), 3);
        due.is("draw: level", x.is(1), 0);
        due.is("draw of an empty well", x.draw(0), 0);
        x.set(2, 9);
        due.is("draw ahead of the rain", x.draw(0), 0);
        due.is("draw behind the rain", x.draw(0), 5);
        x.set(1, 999);
        x.draw(9);
        due.is("draw: level 999 at most", x.is(1), 999);
        x.draw(0);
        due.is("draw: level 999 at most", x.is(1), 999);
        x.set(2, 0);
        x.draw(0);
        due.is("draw: level without rain", x.is(1), 994);
    }

    private static void drawRefusals() {
        WellMoods x = Due.well("pr2,s");
        int[] bad = {-1, 2, 8, 10, Integer.MIN_VALUE, Integer.MAX_VALUE};
        for (int one : bad) {
            due.is("draw(" + one + ")", x.draw(one), WellMoods.BAD);
        }
        due.is("draw", x.draw(0), 4);
        due.is("draw of one who may not", x.draw(0), WellMoods.NOT);
        due.is("draw refused: hour", x.is(5), 1);
        due.is("draw refused: who drew ahead", x.is(8), 0);
        due.is("draw of none", x.draw(9), 0);
        due.is("draw of none: who drew ahead", x.is(8), 9);
        due.is("draw of none: hour", x.is(5), 2);
        toHour(x, 9998);
        due.is("draw in hour 9998", x.draw(0), 4);
        due.is("draw in hour 9999", x.draw(1), WellMoods.FULL);
        due.is("draw of none in hour 9999", x.draw(9), WellMoods.FULL);
        due.is("draw: not ahead of full", x.draw(0), WellMoods.NOT);
        due.is("draw: bad ahead of full", x.draw(2), WellMoods.BAD);
        due.is("draw: hour 9999", x.is(5), 9999);
    }

    private static void drawOfThoseWhoQuarrel() {
        WellMoods x = Due.well("s+3,s,s");
        x.quarrel(0, 1, true);
        due.is("quarrel: ahead", x.draw(1), 5);
        due.is("quarrel: nothing behind", x.draw(0), 0);
        due.is("quarrel: sweet", x.is(3), 5);
        due.is("quarrel: level", x.is(1), 200 - 5 + 2);
        due.is("quarrel: the mood moves all the same", x.is(0), 2);
        due.is("quarrel: who drew ahead all the same", x.is(8), 0);
        due.is("quarrel: not with oneself", x.draw(0), 7);
        due.is("quarrel: nothing behind, the other way", x.draw(1), 0);
        due.is("quarrel: not with the third", x.draw(2), 8);
        x.draw(0);
        x.pass(1);
        due.is("quarrel: not an hour later", x.draw(1) > 0 ? 1 : 0, 1);
        WellMoods y = Due.well("sr3,s");
        y.quarrel(0, 1, true);
        y.draw(1);
        y.draw(0);
        due.is("quarrel: rests all the same", y.draw(0), WellMoods.NOT);
    }

    private static void mood() {
        int[][] rows = {{0, 3, 0, 2}, {0, -3, 0, -2}, {0, 3, 3, -2}, {0, -3, 3, 2}, {9, 3, 1, 8}, {-9, -3, 2, -8},
            {-9, 3, 3, -8}, {9, -3, 3, 8}, {1, 0, 0, 0}, {-1, 0, 1, 0}, {0, 0, 2, 0}, {2, -3, 0, 0}, {-1, 2, 1, 0}};
        for (int[] r : rows) {
            WellMoods x = new WellMoods();
            x.folk(r[2], r[1], 1);
            x.set(0, r[0]);
            x.draw(0);
            due.is("mood " + r[0] + " behind one of kind " + r[2] + " who feels " + r[1], x.is(0), r[3]);
        }
    }

    private static void pass() {
        WellMoods x = Due.well("pr9,s");
        x.draw(0);
        x.set(0, -5);
        x.set(2, 2);
        due.is("pass(0)", x.pass(0), WellMoods.BAD);
        due.is("pass(61)", x.pass(61), WellMoods.BAD);
        due.is("pass(-1)", x.pass(-1), WellMoods.BAD);
        due.is("pass: nothing passed", x.is(5), 1);
        due.is("pass(3)", x.pass(3), 4);
        due.is("pass: mood", x.is(0), -2);
        due.is("pass: level", x.is(1), 197 + 6);
        due.is("pass: wait", x.told(0, 3), 5);
        due.is("pass: who drew ahead", x.is(8), 9);
        due.is("pass(60)", x.pass(60), 64);
        due.is("pass: mood", x.is(0), 0);
        toHour(x, 9950);
        due.is("pass above 9999", x.pass(50), WellMoods.FULL);
        due.is("pass: bad ahead of full", x.pass(61), WellMoods.BAD);
        due.is("pass to 9999", x.pass(49), 9999);
        due.is("pass full", x.pass(1), WellMoods.FULL);
        due.is("pass: level", x.is(1), 999);
    }

    private static void run() {
        WellMoods x = Due.well("p,sr4");
        due.is("run of no plan", x.run(), 0);
        Due.plan(x, "01.01");
        due.is("run to one who may not", x.run(), 4);
        due.is("run: hour", x.is(5), 4);
        due.is("run: who drew ahead", x.is(8), 0);
        due.is("run: sweet", x.is(3), 4 + 5 + 4);
        due.is("run again", x.run(), 4);
        Due.plan(x, "1");
        due.is("run of one hour who may not", x.run(), 0);
        due.is("run: hour", x.is(5), 8);
        toHour(x, 9996);
        Due.plan(x, "1100");
        due.is("run full, though it would end early", x.run(), WellMoods.FULL);
        Due.plan(x, "0.0");
        due.is("run to 9999", x.run(), 3);
        due.is("run full", x.run(), WellMoods.FULL);
        due.is("run: hour", x.is(5), 9999);
        due.is("run: none is full in hour 9999", Due.village(x, "p"), 1);
        due.is("run of no plan in hour 9999", x.run(), 0);
    }

    private static void most() {
        WellMoods x = Due.well("p+2,s-1,m+3");
        int[] most = {5, 10, 16, 23, 31};
        for (int n = 1; n <= 5; n++) {
            due.is("most(" + n + ")", x.most(n), most[n - 1]);
        }
        due.is("most(0)", x.most(0), WellMoods.BAD);
        due.is("most(6)", x.most(6), WellMoods.BAD);
        due.is("most(-1)", x.most(-1), WellMoods.BAD);
        due.is("most: nothing passed", x.is(5), 0);
        due.is("most: nothing drawn", x.is(1), 200);
        due.is("most of nobody", new WellMoods().most(5), 0);
        due.is("most of the vain", Due.well("v+3,m-3").most(5), 0);
        toHour(x, 9999);
        due.is("most beyond hour 9999", x.most(5), 31);
        WellMoods shower = Due.well("s,m-3");
        due.is("most by one who draws salt ahead", shower.most(2), 10);
        due.is("most by one who draws salt ahead", shower.most(3), 15);
        shower.set(0, -9);
        due.is("most by one who lifts the mood", shower.most(5), 4 + 5 + 5);
    }

    private static void mostOfRestsAndLevel() {
        WellMoods x = Due.well("sr4");
        due.is("most of one who rests", x.most(4), 5);
        due.is("most of one who rests", x.most(5), 10);
        x.draw(0);
        due.is("most of one who has not rested", x.most(3), 0);
        due.is("most of one who has not rested", x.most(4), 5);
        WellMoods y = Due.well("s");
        y.set(1, 2);
        due.is("most of the level and the rain", y.most(4), 2 + 1 + 1 + 1);
        y.set(2, 9);
        due.is("most of the level and more rain", y.most(3), 2 + 5 + 5);
        WellMoods z = Due.well("s,p");
        z.quarrel(0, 1, true);
        z.draw(1);
        due.is("most behind one who quarrels", z.most(1), 4);
        due.is("most behind one who quarrels: row", z.row(1, 0), 1);
        due.is("most behind one who quarrels", z.most(2), 8);
        WellMoods late = Due.well("pr9,sr2");
        late.quarrel(0, 1, true);
        late.draw(0);
        late.draw(1);
        due.is("most behind none: whoever drew ahead of that", late.most(2), 5);
    }

    private static void row() {
        WellMoods x = Due.well("p+2,s-1,m+3");
        int[] five = new int[5];
        for (int i = 0; i < 5; i++) {
            five[i] = x.row(5, i);
        }
        due.is("row: its first", five[0], 0);
        due.is("row: its last", five[4], 1);
        for (int one : five) {
            x.draw(one);
        }
        due.is("row: makes most", x.is(3), 31);
        due.is("row(0, 0)", x.row(0, 0), WellMoods.BAD);
        due.is("row(6, 0)", x.row(6, 0), WellMoods.BAD);
        due.is("row(3, 3)", x.row(3, 3), WellMoods.BAD);
        due.is("row(3, -1)", x.row(3, -1), WellMoods.BAD);
        due.is("row of nobody", new WellMoods().row(2, 1), 9);
        WellMoods vain = Due.well("v,v");
        due.is("row: one of folk ahead of none", vain.row(2, 0), 0);
        due.is("row: one of folk ahead of none", vain.row(2, 1), 0);
        WellMoods tired = Due.well("sr3");
        tired.draw(0);
        due.is("row: none who has not rested", tired.row(3, 0), 9);
        due.is("row: none who has not rested", tired.row(3, 1), 9);
        due.is("row: then one", tired.row(3, 2), 0);
        WellMoods wary = Due.well("s-3,s");
        wary.set(0, -9);
        due.is("row: of like ones the first", wary.row(1, 0), 0);
        due.is("row: the last is no worse", wary.row(5, 4), 0);
    }

    private static void fewest() {
        WellMoods x = Due.well("p+2,s-1,m+3");
        int[][] rows = {{0, 0}, {1, 1}, {5, 1}, {6, 2}, {10, 2}, {11, 3}, {16, 3}, {17, 4}, {23, 4}, {24, 5}, {31, 5},
            {32, WellMoods.NONE}, {99, WellMoods.NONE}, {-1, WellMoods.BAD}, {100, WellMoods.BAD}};
        for (int[] r : rows) {
            due.is("fewest(" + r[0] + ")", x.fewest(r[0]), r[1]);
        }
        due.is("fewest(0) of nobody", new WellMoods().fewest(0), 0);
        due.is("fewest(1) of nobody", new WellMoods().fewest(1), WellMoods.NONE);
    }

    private static void peace() {
        due.is("peace of nobody", new WellMoods().peace(), WellMoods.NONE);
        WellMoods x = Due.well("sr2,sr2,vr2,vr2");
        due.is("peace: none quarrel", x.peace(), WellMoods.NONE);
        x.quarrel(2, 3, true);
        due.is("peace: no more by it", x.peace(), WellMoods.NONE);
        x.quarrel(1, 0, true);
        due.is("peace", x.peace(), 1);
        due.is("peace: they quarrel still", x.told(0, 4), 2);
        due.is("peace: they quarrel still", x.told(1, 4), 1);
        due.is("peace: most as it is", x.most(4), 10);
        WellMoods y = Due.well("v,sr2,p-3r2,s-1r2");
        y.quarrel(1, 2, true);
        y.quarrel(2, 3, true);
        y.quarrel(1, 3, true);
        due.is("peace: that which makes most", y.peace(), 13);
        WellMoods z = Due.well("sr2,sr2,sr2");
        z.quarrel(0, 1, true);
        z.quarrel(0, 2, true);
        z.quarrel(1, 2, true);
        due.is("peace: of like ones the first", z.peace(), 1);
        z.quarrel(0, 1, false);
        z.quarrel(0, 1, true);
        z.draw(2);
        due.is("peace: with who drew ahead", z.peace(), 2);
    }

    /** All of them drew, one behind the other, and quarrel with all: each rests 4. */
    private static WellMoods tired(String folk) {
        WellMoods x = Due.well(folk);
        for (int one = 0; one < x.is(6); one++) {
            x.draw(one);
        }
        for (int a = 0; a < x.is(6); a++) {
            for (int b = a + 1; b < x.is(6); b++) {
                x.quarrel(a, b, true);
            }
        }
        return x;
    }

    private static void peaceOfLaterHours() {
        WellMoods x = tired("sr4,sr4");
        due.is("peace: most in 3 as it is", x.most(3), 5);
        due.is("peace: most in 4 as it is", x.most(4), 5);
        due.is("peace: most in 5 as it is", x.most(5), 10);
        due.is("peace: in 4 hours", x.peace(), 1);
        WellMoods y = tired("sr4,sr4,sr4");
        due.is("peace: most as it is", y.most(4), 10);
        due.is("peace: of one pair alone no more", y.peace(), WellMoods.NONE);
        y.quarrel(0, 1, false);
        due.is("peace: of the second pair more", y.peace(), 12);
    }
}
