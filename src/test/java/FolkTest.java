/** Promises 1 to 9: folk, the well. */
final class FolkTest {
    private static final Due due = new Due();
    private static final int APART = -100001;

    public static void main(String[] args) {
        newObject();
        folk();
        told();
        quarrel();
        set();
        is();
        type();
        village();
        villageFaults();
        villageLeaves();
        plan();
        planFaults();
        due.end();
    }

    private static void newObject() {
        WellMoods x = new WellMoods();
        int[] at = {0, 200, 1, 0, 0, 0, 0, 0, 9};
        for (int what = 0; what < at.length; what++) {
            due.is("new: is(" + what + ")", x.is(what), at[what]);
        }
        due.is("new: may", x.may(), 0);
        due.is("new: type", x.type('p', 1), 1);
        due.is("new: seed", x.seed(7), 1);
        due.is("new: restore", x.restore(), WellMoods.NONE);
        for (int sheet = 0; sheet < 4; sheet++) {
            due.is("new: drop " + sheet, x.drop(sheet), WellMoods.NULL);
        }
    }

    private static void folk() {
        WellMoods x = new WellMoods();
        int[][] bad = {{-1, 0, 1}, {4, 0, 1}, {0, -4, 1}, {0, 4, 1}, {0, 0, 0}, {0, 0, 10},
            {Integer.MIN_VALUE, 0, 1}, {0, Integer.MAX_VALUE, 1}, {0, 0, Integer.MIN_VALUE}};
        for (int[] b : bad) {
            due.is("folk bad", x.folk(b[0], b[1], b[2]), WellMoods.BAD);
        }
        due.is("folk bad: nobody came", x.is(6), 0);
        for (int one = 0; one < 6; one++) {
            due.is("folk " + one, x.folk(one % 4, one - 3, one == 0 ? 9 : one), one);
            due.is("folk: how many", x.is(6), one + 1);
        }
        due.is("folk full", x.folk(0, 0, 1), WellMoods.FULL);
        due.is("folk bad ahead of full", x.folk(4, 0, 1), WellMoods.BAD);
        due.is("folk: how many", x.is(6), 6);
        due.is("folk: all may draw", x.may(), 63);
    }

    private static void told() {
        WellMoods x = new WellMoods();
        x.folk(3, -3, 4);
        x.folk(1, 3, 9);
        x.quarrel(0, 1, true);
        x.draw(0);
        int[] first = {3, -3, 4, 3, 2};
        int[] second = {1, 3, 9, 0, 1};
        for (int what = 0; what < 5; what++) {
            due.is("told(0, " + what + ")", x.told(0, what), first[what]);
            due.is("told(1, " + what + ")", x.told(1, what), second[what]);
            due.is("told(2, " + what + ")", x.told(2, what), APART);
            due.is("told(-1, " + what + ")", x.told(-1, what), APART);
        }
        due.is("told(0, 5)", x.told(0, 5), APART);
        due.is("told(0, -1)", x.told(0, -1), APART);
        for (int wait = 3; wait >= 0; wait--) {
            due.is("told: wait", x.told(0, 3), wait);
            x.pass(1);
        }
        due.is("told: wait no less than none", x.told(0, 3), 0);
    }

    private static void quarrel() {
        WellMoods x = Due.well("p,s,v");
        due.is("quarrel", x.quarrel(0, 2, true), 0);
        due.is("quarrel again", x.quarrel(2, 0, true), 1);
        due.is("quarrel: set of 0", x.told(0, 4), 4);
        due.is("quarrel: set of 1", x.told(1, 4), 0);
        due.is("quarrel: set of 2", x.told(2, 4), 1);
        x.quarrel(1, 2, true);
        due.is("quarrel: set of 2", x.told(2, 4), 3);
        due.is("quarrel no more", x.quarrel(2, 0, false), 1);
        due.is("quarrel: set of 0", x.told(0, 4), 0);
        due.is("quarrel: set of 2", x.told(2, 4), 2);
        due.is("quarrel: not again", x.quarrel(0, 2, false), 0);
        int[][] bad = {{0, 0}, {0, 3}, {3, 0}, {-1, 0}, {0, -1}, {9, 9}, {0, Integer.MAX_VALUE}, {Integer.MIN_VALUE, 0}};
        for (int[] b : bad) {
            due.is("quarrel bad", x.quarrel(b[0], b[1], true), WellMoods.BAD);
        }
        due.is("quarrel bad: set of 0", x.told(0, 4), 0);
    }

    private static void set() {
        WellMoods x = new WellMoods();
        due.is("set mood", x.set(0, -9), 0);
        due.is("set mood", x.set(0, 9), -9);
        due.is("set level", x.set(1, 0), 200);
        due.is("set level", x.set(1, 999), 0);
        due.is("set rain", x.set(2, 9), 1);
        due.is("set rain", x.set(2, 0), 9);
        int[][] bad = {{0, -10}, {0, 10}, {1, -1}, {1, 1000}, {2, -1}, {2, 10}, {3, 0}, {-1, 0},
            {0, Integer.MIN_VALUE}, {1, Integer.MAX_VALUE}};
        for (int[] b : bad) {
            due.is("set bad", x.set(b[0], b[1]), APART);
        }
        due.is("set bad: mood", x.is(0), 9);
        due.is("set bad: level", x.is(1), 999);
        due.is("set bad: rain", x.is(2), 0);
    }

    private static void is() {
        WellMoods x = Due.well("p-3,s+2,v");
        Due.plan(x, "01.");
        x.set(2, 3);
        x.draw(1);
        x.draw(2);
        int[] at = {0, 200 - 5 + 3 - 5 + 3, 3, 5, 5, 2, 3, 3, 2};
        for (int what = 0; what < at.length; what++) {
            due.is("is(" + what + ")", x.is(what), at[what]);
        }
        x.set(0, -4);
        due.is("is: mood below 0", x.is(0), -4);
        due.is("is(-1)", x.is(-1), APART);
        due.is("is(9)", x.is(9), APART);
    }

    private static void type() {
        WellMoods x = new WellMoods();
        due.is("type n 0", x.type('p', 0), WellMoods.BAD);
        due.is("type n 9", x.type(0x7070707070707070L, 9), WellMoods.BAD);
        due.is("type n below 0", x.type('p', -1), WellMoods.BAD);
        due.is("type byte 31", x.type(31, 1), WellMoods.BAD);
        due.is("type byte 127", x.type(127, 1), WellMoods.BAD);
        due.is("type byte 255", x.type(255, 1), WellMoods.BAD);
        due.is("type a bad byte within", x.type(0x700070L, 3), WellMoods.BAD);
        due.is("type a bad byte ahead of them", x.type(0x0070L, 1), 1);
        due.is("type w below 0", x.type(-1L, 8), WellMoods.BAD);
        due.is("type highest first", x.type(0x2b33L, 2), 3);
        due.is("type: village", x.village(), 1);
        due.is("type: feels", x.told(0, 1), 3);
        due.is("type 32", x.type(32, 1), 1);
        due.is("type 126", x.type(126, 1), 2);
        for (int i = 0; i < 7; i++) {
            x.type(0x2020202020202020L, 8);
        }
        due.is("type above 60", x.type(0x202020L, 3), WellMoods.FULL);
        due.is("type bad ahead of full", x.type(0x1f2020L, 3), WellMoods.BAD);
        due.is("type to 60", x.type(0x2020L, 2), 60);
        due.is("type full", x.type(32, 1), WellMoods.FULL);
        due.is("type: fault at 126", x.village(), -21);
        due.is("type: empty then", x.type(32, 1), 1);
        due.is("type: fault at the end", x.plan(), -21);
    }

    private static void village() {
        WellMoods x = new WellMoods();
        due.is("village", Due.village(x, "p,s+3,v-2r9,mr1,s-0,p+1r5"), 6);
        int[][] told = {{0, 0, 1}, {1, 3, 1}, {2, -2, 9}, {3, 0, 1}, {1, 0, 1}, {0, 1, 5}};
        for (int one = 0; one < 6; one++) {
            for (int what = 0; what < 3; what++) {
                due.is("village: told(" + one + ", " + what + ")", x.told(one, what), told[one][what]);
            }
            due.is("village: rested", x.told(one, 3), 0);
            due.is("village: no quarrel", x.told(one, 4), 0);
        }
        due.is("village of blanks between", Due.village(x, "  m  -  1  r  7  ,  v  "), 2);
        due.is("village: feels", x.told(0, 1), -1);
        due.is("village: rests", x.told(0, 2), 7);
        due.is("village: kind", x.told(1, 0), 2);
        due.is("village: the third is none", x.told(2, 0), APART);
        due.is("village of an empty tape", x.village(), -20);
        due.is("village: those told stay", x.is(6), 2);
    }

    private static void villageFaults() {
        WellMoods x = Due.well("s");
        String[] texts = {" ", "x", "P", ",", "p+", "p+4", "p+ 4", "p-r2", "pr", "pr0", "pr1r", "p,", "p, ", "p,,s",
            "p+1+1", "p2", "p s", "p+1r2-3", "p+12", "p,s,v,m,p,s,", "p,s,v,m,p,s,v", "p,s,v,m,p,sr", "~", "p+3 "};
        int[] at = {1, 0, 0, 0, 2, 2, 3, 2, 2, 2, 3, 2, 3, 2, 3, 1, 2, 5, 3, 11, 11, 12, 0, -1};
        for (int i = 0; i < texts.length; i++) {
            int want = at[i] < 0 ? 1 : -20 - at[i];
            due.is("village of '" + texts[i] + "'", Due.village(x, texts[i]), want);
            due.is("village of '" + texts[i] + "': kind told", x.told(0, 0), at[i] < 0 ? 0 : 1);
            due.is("village: the tape is empty", x.type(32, 1), 1);
            x.plan();
        }
    }

    private static void villageLeaves() {
        WellMoods x = Due.well("p+2r9,s");
        x.quarrel(0, 1, true);
        Due.plan(x, "0.1");
        x.set(1, 500);
        x.seed(77);
        x.draw(0);
        due.is("village: a fault", Due.village(x, "q"), -20);
        due.is("village: a fault leaves the plan", x.is(7), 3);
        due.is("village: a fault leaves who drew", x.is(8), 0);
        due.is("village: a fault leaves rests", x.told(0, 3), 8);
        due.is("village: a fault leaves quarrels", x.told(0, 4), 2);
        due.is("village anew", Due.village(x, "p+2r9,s"), 2);
        int[] at = {1, 497, 1, 4, 0, 1, 2, 0, 9};
        for (int what = 0; what < at.length; what++) {
            due.is("village anew: is(" + what + ")", x.is(what), at[what]);
        }
        due.is("village anew: rested", x.told(0, 3), 0);
        due.is("village anew: no quarrel", x.told(0, 4), 0);
        due.is("village anew: the draw stays", x.seed(1), 77);
        x.quarrel(0, 1, true);
        x.draw(0);
        Due.village(x, "p");
        due.is("village, then folk", x.folk(1, 0, 1), 1);
        due.is("village, then folk: no quarrel", x.told(1, 4), 0);
        due.is("village, then folk: may", x.may(), 3);
    }

    private static void plan() {
        WellMoods x = Due.well("p,s");
        due.is("plan of one", Due.plan(x, "."), 1);
        due.is("plan with blanks", Due.plan(x, "  0 1 .  . "), 4);
        due.is("plan: hours", x.is(7), 4);
        due.is("plan of 24", Due.plan(x, "........................"), 24);
        due.is("plan of 24 with blanks", Due.plan(x, " 0 1 0 1 0 1 0 1 0 1 0 1 0 1 0 1 0 1 0 1 0 1 0 1 "), 24);
        due.is("plan: run of it", x.run(), 24);
        due.is("plan: hour", x.is(5), 24);
        due.is("plan: stays behind its run", x.is(7), 24);
        due.is("plan of folk who came later", x.folk(0, 0, 1), 2);
        due.is("plan of folk who came later", Due.plan(x, "2"), 1);
    }

    private static void planFaults() {
        WellMoods x = Due.well("p,s");
        Due.plan(x, "01");
        String[] texts = {"2", "9", " 02", "0,1", "x", "   ", ".........................", "........................  0", "0 -"};
        int[] at = {0, 0, 2, 1, 0, 3, 24, 26, 2};
        for (int i = 0; i < texts.length; i++) {
            due.is("plan of '" + texts[i] + "'", Due.plan(x, texts[i]), -20 - at[i]);
            due.is("plan of '" + texts[i] + "': the one told stays", x.is(7), 2);
            due.is("plan: the tape is empty", x.type(32, 1), 1);
            x.village();
        }
        due.is("plan of an empty tape", x.plan(), -20);
        due.is("plan: the one told is run", x.run(), 2);
        due.is("plan: by its last one", x.is(8), 1);
        due.is("plan of nobody's", Due.plan(new WellMoods(), "0"), -20);
    }
}
