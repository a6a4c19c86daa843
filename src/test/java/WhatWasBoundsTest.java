/** The boundaries that promises 18 to 25 name; a test each. */
final class WhatWasBoundsTest extends Bounds {
    public static void main(String[] args) {
        runAll(WhatWasBoundsTest.class);
    }

    private static final String EACH = "p,s,v,m";
    private static final int P = 0, S = 1, V = 2, M = 3;

    /** As settled, with another LEVEL. */
    private static Past level(int level) {
        return x -> {
            settled(x);
            x.set(1, level);
        };
    }

    // ---- 18 gives

    static void p18_oneBelow0_isBad() {
        refused(Bounds::lived, x -> x.gives(-1, 0), BAD);
    }

    static void p18_oneBehindTheLast_isBad() {
        refused(Bounds::lived, x -> x.gives(4, 0), BAD);
    }

    static void p18_none9_isBad() {
        refused(Bounds::six, x -> x.gives(9, 0), BAD);
    }

    static void p18_nobodyThere_isBad() {
        refused(Bounds::nothing, x -> x.gives(0, 0), BAD);
    }

    static void p18_moodBelowMinus9_isBad() {
        refused(Bounds::lived, x -> x.gives(0, -10), BAD);
    }

    static void p18_moodAbove9_isBad() {
        refused(Bounds::lived, x -> x.gives(0, 10), BAD);
    }

    static void p18_farOut_isBad() {
        refused(Bounds::lived, x -> x.gives(MIN, 0), BAD);
        refused(Bounds::lived, x -> x.gives(MAX, 0), BAD);
        refused(Bounds::lived, x -> x.gives(0, MIN), BAD);
        refused(Bounds::lived, x -> x.gives(0, MAX), BAD);
    }

    static void p18_moodMinus9_noFewerThan0() {
        asked(Bounds::settled, x -> x.gives(S, -9), 0);
    }

    static void p18_mood9_noMoreThan9() {
        asked(Bounds::settled, x -> x.gives(S, 9), 9);
    }

    static void p18_plainAtMood0_sweet() {
        asked(Bounds::settled, x -> x.gives(P, 0), 4);
    }

    static void p18_plainAtMoodMinus1_salt10More() {
        asked(Bounds::settled, x -> x.gives(P, -1), 13);
    }

    static void p18_plainWithoutPails_salt10More() {
        asked(Bounds::settled, x -> x.gives(P, -9), 10);
    }

    static void p18_vainWithoutPails_salt10More() {
        asked(Bounds::settled, x -> x.gives(V, -4), 10);
    }

    static void p18_maskedWithoutPails_salt10More() {
        asked(Bounds::settled, x -> x.gives(M, -2), 10);
    }

    static void p18_vainAtMood9_19() {
        asked(Bounds::settled, x -> x.gives(V, 9), 19);
    }

    static void p18_level0_noPails() {
        asked(level(0), x -> x.gives(S, 9), 0);
        asked(level(0), x -> x.gives(P, 9), 0);
    }

    static void p18_level0_saltWithoutPails10More() {
        asked(level(0), x -> x.gives(V, 9), 10);
    }

    static void p18_levelOneLess_noMoreThanTheLevel() {
        asked(level(4), x -> x.gives(S, 0), 4);
    }

    static void p18_levelAsMuch_allOfIt() {
        asked(level(5), x -> x.gives(S, 0), 5);
    }

    static void p18_foeOfWhoDrewAhead_pails() {
        due("who drew ahead", after(Bounds::settled).is(8), P);
        due("he quarrels with", after(Bounds::settled).told(P, 4), 1 << S);
        asked(Bounds::settled, x -> x.gives(S, 0), 5);
    }

    static void p18_oneWhoMayNot_pails() {
        due("he may not", after(Bounds::settled).may() & 1, 0);
        asked(Bounds::settled, x -> x.gives(P, 5), 9);
    }

    static void p18_hour9999_pails() {
        asked(Bounds::lastHour, x -> x.gives(S, 0), 5);
    }

    // ---- 19 stranger

    static void p19_moodBelowMinus9_isBad() {
        refused(Bounds::lived, x -> x.stranger(-10, 0, 4), BAD);
    }

    static void p19_moodAbove9_isBad() {
        refused(Bounds::lived, x -> x.stranger(10, 0, 4), BAD);
    }

    static void p19_oneBelow0_isBad() {
        refused(Bounds::lived, x -> x.stranger(0, -1, 4), BAD);
    }

    static void p19_oneBehindTheLast_isBad() {
        refused(Bounds::lived, x -> x.stranger(0, 4, 4), BAD);
    }

    static void p19_nobodyThere_isBad() {
        refused(Bounds::nothing, x -> x.stranger(0, 0, 4), BAD);
    }

    static void p19_pailsBelow0_isBad() {
        refused(Bounds::lived, x -> x.stranger(0, 0, -1), BAD);
    }

    static void p19_pailsAbove9_isBad() {
        refused(Bounds::lived, x -> x.stranger(0, 0, 10), BAD);
    }

    static void p19_farOut_isBad() {
        refused(Bounds::lived, x -> x.stranger(MIN, 0, 4), BAD);
        refused(Bounds::lived, x -> x.stranger(MAX, 0, 4), BAD);
        refused(Bounds::lived, x -> x.stranger(0, MIN, 4), BAD);
        refused(Bounds::lived, x -> x.stranger(0, MAX, 4), BAD);
        refused(Bounds::lived, x -> x.stranger(0, 0, MIN), BAD);
        refused(Bounds::lived, x -> x.stranger(0, 0, MAX), BAD);
    }

    static void p19_feltMinus3Alone_bit0() {
        asked(village(EACH), x -> x.stranger(0, S, 3), 1);
    }

    static void p19_felt3Alone_bit6() {
        asked(village(EACH), x -> x.stranger(0, S, 7), 64);
    }

    static void p19_moodWanedTo0FromBothSides_bits2To4() {
        asked(village(EACH), x -> x.stranger(0, S, 5), 28);
    }

    static void p19_noFeelingMakesIt_emptySet() {
        asked(village(EACH), x -> x.stranger(0, S, 2), 0);
        asked(village(EACH), x -> x.stranger(0, S, 8), 0);
    }

    static void p19_mood9Pails9_allBits() {
        asked(village(EACH), x -> x.stranger(9, S, 9), 127);
    }

    static void p19_moodMinus9Pails0_allBits() {
        asked(village(EACH), x -> x.stranger(-9, P, 0), 127);
    }

    static void p19_mood9OfMasked() {
        asked(village(EACH), x -> x.stranger(9, M, 7), 1);
        asked(village(EACH), x -> x.stranger(9, M, 8), 2);
        asked(village(EACH), x -> x.stranger(9, M, 9), 124);
    }

    static void p19_level0_isEnough() {
        asked(level(0), x -> x.stranger(0, S, 7), 64);
    }

    static void p19_oneWhoMayNotOrQuarrels_isAsked() {
        asked(Bounds::settled, x -> x.stranger(0, P, 6), 64);
        asked(Bounds::settled, x -> x.stranger(0, S, 7), 64);
    }

    // ---- 20 liar

    static void p20_firstBelow0_isBad() {
        refused(Bounds::lived, x -> x.liar(-1, 0, 4, S, 0, 5), BAD);
    }

    static void p20_firstBehindTheLast_isBad() {
        refused(Bounds::lived, x -> x.liar(4, 0, 4, S, 0, 5), BAD);
    }

    static void p20_otherBelow0_isBad() {
        refused(Bounds::lived, x -> x.liar(P, 0, 4, -1, 0, 5), BAD);
    }

    static void p20_otherBehindTheLast_isBad() {
        refused(Bounds::lived, x -> x.liar(P, 0, 4, 4, 0, 5), BAD);
    }

    static void p20_oneAlike_isBad() {
        refused(Bounds::lived, x -> x.liar(P, 0, 4, P, 0, 4), BAD);
    }

    static void p20_nobodyThere_isBad() {
        refused(Bounds::nothing, x -> x.liar(0, 0, 4, 1, 0, 5), BAD);
    }

    static void p20_firstMoodBelowMinus9_isBad() {
        refused(Bounds::lived, x -> x.liar(P, -10, 0, S, 0, 5), BAD);
    }

    static void p20_firstMoodAbove9_isBad() {
        refused(Bounds::lived, x -> x.liar(P, 10, 9, S, 0, 5), BAD);
    }

    static void p20_otherMoodBelowMinus9_isBad() {
        refused(Bounds::lived, x -> x.liar(P, 0, 4, S, -10, 0), BAD);
    }

    static void p20_otherMoodAbove9_isBad() {
        refused(Bounds::lived, x -> x.liar(P, 0, 4, S, 10, 9), BAD);
    }

    static void p20_firstPailsBelow0_isBad() {
        refused(Bounds::lived, x -> x.liar(P, 0, -1, S, 0, 5), BAD);
    }

    static void p20_firstPailsAbove9_isBad() {
        refused(Bounds::lived, x -> x.liar(P, 0, 10, S, 0, 5), BAD);
    }

    static void p20_otherPailsBelow0_isBad() {
        refused(Bounds::lived, x -> x.liar(P, 0, 4, S, 0, -1), BAD);
    }

    static void p20_otherPailsAbove9_isBad() {
        refused(Bounds::lived, x -> x.liar(P, 0, 4, S, 0, 10), BAD);
    }

    static void p20_farOut_isBad() {
        for (int far : new int[] {MIN, MAX}) {
            refused(Bounds::lived, x -> x.liar(far, 0, 4, S, 0, 5), BAD);
            refused(Bounds::lived, x -> x.liar(P, far, 4, S, 0, 5), BAD);
            refused(Bounds::lived, x -> x.liar(P, 0, far, S, 0, 5), BAD);
            refused(Bounds::lived, x -> x.liar(P, 0, 4, far, 0, 5), BAD);
            refused(Bounds::lived, x -> x.liar(P, 0, 4, S, far, 5), BAD);
            refused(Bounds::lived, x -> x.liar(P, 0, 4, S, 0, far), BAD);
        }
    }

    static void p20_neitherLies_0() {
        asked(village(EACH), x -> x.liar(P, 0, 4, S, 0, 5), 0);
    }

    static void p20_firstLies_bit0() {
        asked(village(EACH), x -> x.liar(P, 0, 5, S, 0, 5), 1);
    }

    static void p20_otherLies_bit1() {
        asked(village(EACH), x -> x.liar(P, 0, 4, S, 0, 4), 2);
    }

    static void p20_bothLie_3() {
        asked(village(EACH), x -> x.liar(P, 0, 3, S, 0, 6), 3);
    }

    static void p20_leastMoodAndPails() {
        asked(village(EACH), x -> x.liar(V, -9, 0, M, -9, 0), 0);
        asked(village(EACH), x -> x.liar(V, -9, 1, M, -9, 1), 3);
    }

    static void p20_greatestMoodAndPails() {
        asked(village(EACH), x -> x.liar(V, 9, 9, M, 9, 9), 0);
        asked(village(EACH), x -> x.liar(V, 9, 8, M, 9, 8), 3);
    }

    static void p20_level0_isEnough() {
        asked(level(0), x -> x.liar(P, 0, 4, V, 0, 4), 0);
    }

    static void p20_quarrels_areNothing() {
        asked(Bounds::settled, x -> x.liar(P, 0, 4, S, 0, 5), 0);
    }

    // ---- 21 other

    static void p21_n0_isBad() {
        refused(Bounds::lived, x -> x.other(0), BAD);
    }

    static void p21_nBelow0_isBad() {
        refused(Bounds::lived, x -> x.other(-1), BAD);
    }

    static void p21_nAbove5_isBad() {
        refused(Bounds::lived, x -> x.other(6), BAD);
    }

    static void p21_nFarOut_isBad() {
        refused(Bounds::lived, x -> x.other(MIN), BAD);
        refused(Bounds::lived, x -> x.other(MAX), BAD);
    }

    private static Past mood(String text, int mood) {
        return x -> {
            Due.village(x, text);
            x.set(0, mood);
        };
    }

    static void p21_mood0_asMost() {
        asked(mood("s+1", 0), x -> x.other(5), 25);
    }

    static void p21_mood9_asAtMinus9() {
        asked(mood("s", 9), x -> x.other(1), 0);
        asked(mood("s", 9), x -> x.other(5), 0);
    }

    static void p21_moodMinus9_asAt9() {
        asked(mood("s", -9), x -> x.other(1), 9);
        asked(mood("s", -9), x -> x.other(5), 45);
    }

    static void p21_moodMinus1_asAt1() {
        asked(mood("p", -1), x -> x.other(1), 5);
    }

    static void p21_mood1_asAtMinus1() {
        asked(mood("p", 1), x -> x.other(1), 0);
    }

    static void p21_nobodyThere_0() {
        asked(Bounds::nothing, x -> x.other(5), 0);
    }

    static void p21_restLevelAndWhoDrewAhead_asTheyAre() {
        Past past = x -> {
            Due.village(x, "v,s,sr9");
            x.quarrel(0, 1, true);
            x.draw(2);
            x.draw(0);
            x.set(0, -2);
            x.set(1, 6);
            x.set(2, 0);
        };
        asked(past, x -> x.other(1), 0);
        asked(past, x -> x.other(2), 6);
    }

    static void p21_beyondHour9999() {
        asked(Bounds::lastHour, x -> x.other(1), 5);
    }

    // ---- 22 drawn

    static void p22_n0_isBad() {
        refused(Bounds::lived, x -> x.drawn(0), BAD);
    }

    static void p22_nBelow0_isBad() {
        refused(Bounds::lived, x -> x.drawn(-1), BAD);
    }

    static void p22_nAbove60_isBad() {
        refused(Bounds::lived, x -> x.drawn(61), BAD);
    }

    static void p22_nFarOut_isBad() {
        refused(Bounds::lived, x -> x.drawn(MIN), BAD);
        refused(Bounds::lived, x -> x.drawn(MAX), BAD);
    }

    static void p22_n1_passes() {
        WellMoods x = after(Bounds::settled);
        x.drawn(1);
        due("hour", x.is(5), 4);
    }

    static void p22_n60_passes() {
        WellMoods x = after(Bounds::settled);
        x.drawn(60);
        due("hour", x.is(5), 63);
    }

    static void p22_to9999_passes() {
        WellMoods x = after(hour(9939));
        x.drawn(60);
        due("hour", x.is(5), 9999);
    }

    static void p22_above9999_isFull() {
        refused(hour(9940), x -> x.drawn(60), FULL);
        refused(hour(9998), x -> x.drawn(2), FULL);
    }

    static void p22_hour9999_isFull() {
        refused(Bounds::lastHour, x -> x.drawn(1), FULL);
    }

    static void p22_badIsAheadOfFull() {
        refused(Bounds::lastHour, x -> x.drawn(0), BAD);
        refused(Bounds::lastHour, x -> x.drawn(61), BAD);
    }

    static void p22_nobodyThere_0PailsAndTheHoursPass() {
        WellMoods x = new WellMoods();
        due("pails", x.drawn(60), 0);
        due("hour", x.is(5), 60);
        due("who drew", x.is(8), NOBODY);
    }

    static void p22_pailsOfThoseWhoQuarrel_none() {
        WellMoods x = Due.well("s,s");
        x.quarrel(0, 1, true);
        x.draw(1);
        x.seed(0);
        due("0 by 3: the first", x.drawn(1), 0);
        due("who drew", x.is(8), 0);
    }

    static void p22_saltPailsToo() {
        WellMoods x = Due.well("v");
        due("pails", x.drawn(1), 4);
        due("salt", x.is(4), 4);
    }

    static void p22_pailsOfAllItsHours() {
        WellMoods x = Due.well("s,s,p");
        int pails = x.drawn(60);
        due(x.is(3) + x.is(4), pails);
    }

    // ---- 23 seed

    static void p23_below0_isBad() {
        refused(Bounds::lived, x -> x.seed(-1), BAD);
        refused(Bounds::lived, x -> x.seed(MIN), BAD);
    }

    static void p23_0_isSet() {
        WellMoods x = after(Bounds::settled);
        due("was", x.seed(0), 4711);
        due("is", x.seed(1), 0);
    }

    static void p23_greatestOf31Bits_isSet() {
        WellMoods x = after(Bounds::settled);
        due("was", x.seed(MAX), 4711);
        due("is", x.seed(1), MAX);
    }

    // ---- 24 image

    static void p24_ofANewObject_1() {
        WellMoods x = new WellMoods();
        due("image", x.image(), 1);
        Due.village(x, "p");
        x.draw(0);
        due("restore", x.restore(), 1);
        due("folk", x.is(6), 0);
        due("hour", x.is(5), 0);
        due("pails", x.is(3), 0);
    }

    static void p24_inPlaceOfAnEarlierOne() {
        WellMoods x = after(Bounds::settled);
        x.image();
        x.pass(1);
        x.restore();
        due(x.is(5), 3);
    }

    static void p24_changesNothingElse() {
        WellMoods x = after(Bounds::lived);
        WellMoods y = after(Bounds::lived);
        x.image();
        for (int what = 0; what <= 8; what++) {
            due("is " + what, x.is(what), y.is(what));
        }
        due("run", x.run(), y.run());
        due("drawn", x.drawn(20), y.drawn(20));
        due("village", x.village(), y.village());
    }

    static void p24_inHour9999() {
        WellMoods x = after(Bounds::lastHour);
        due("image", x.image(), 1);
        Due.village(x, "p");
        x.restore();
        due("hour", x.is(5), 9999);
        due("full", x.draw(NOBODY), FULL);
    }

    static void p24_laterChangesAreNotInIt() {
        WellMoods x = Due.well("p+1,s");
        x.image();
        x.quarrel(0, 1, true);
        x.draw(0);
        Due.plan(x, "0");
        x.folk(0, 0, 1);
        x.set(0, 5);
        x.set(1, 6);
        x.set(2, 7);
        x.seed(8);
        x.restore();
        int[] want = {0, 200, 1, 0, 0, 0, 2, 0, NOBODY};
        for (int what = 0; what <= 8; what++) {
            due("is " + what, x.is(what), want[what]);
        }
        due("quarrels", x.told(0, 4), 0);
        due("the draw", x.seed(1), 1);
    }

    // ---- 25 restore

    static void p25_noImage_isNone() {
        Past past = x -> {
            Due.village(x, "p+1r3,s");
            x.quarrel(0, 1, true);
            x.draw(0);
            Due.type(x, "s");
            x.sheet(1, 1, 3);
        };
        refused(past, x -> x.restore(), NONE);
    }

    static void p25_twice_1() {
        WellMoods x = after(Bounds::settled);
        due("restore", x.restore(), 1);
        x.pass(9);
        due("again", x.restore(), 1);
        due("hour", x.is(5), 1);
    }

    static void p25_wellAndPailsAtHome_areAsThen() {
        WellMoods x = Due.well("s-3r2,v,p");
        Due.plan(x, "0.");
        x.set(1, 500);
        x.set(2, 7);
        x.draw(0);
        x.draw(1);
        x.image();
        x.draw(0);
        x.draw(1);
        x.draw(2);
        x.set(2, 3);
        x.restore();
        int[] want = {-1, 500 - 5 + 7 - 2 + 7, 7, 5, 2, 2, 3, 2, 1};
        for (int what = 0; what < want.length; what++) {
            due("is " + what, x.is(what), want[what]);
        }
    }

    static void p25_ofMoreFolk_theyComeBack() {
        WellMoods x = after(Bounds::six);
        x.image();
        Due.village(x, "v");
        x.restore();
        due("how many", x.is(6), 6);
        due("the sixth", x.told(5, 1), -3);
        due("quarrels", x.told(2, 4), 8);
    }

    static void p25_ofFewerFolk_theOthersAreGone() {
        WellMoods x = after(Bounds::settled);
        x.folk(1, 0, 9);
        x.draw(4);
        x.restore();
        due("how many", x.is(6), 4);
        due("the fifth", x.told(4, 0), BAD_APART);
        due("one who comes", x.folk(2, 0, 1), 4);
        due("he has rested", x.told(4, 3), 0);
        due("he quarrels with nobody", x.told(4, 4), 0);
    }

    static void p25_aPlanComesBackWhole() {
        WellMoods x = Due.well("s,p");
        Due.plan(x, "0101");
        x.image();
        Due.plan(x, "....................");
        x.restore();
        due("hours", x.is(7), 4);
        due("run", x.run(), 4);
        due("who drew", x.is(8), 1);
    }

    static void p25_noPlanComesBack() {
        WellMoods x = Due.well("s,p");
        x.image();
        Due.plan(x, "0101");
        x.restore();
        due("hours", x.is(7), 0);
        due("run", x.run(), 0);
    }

    static void p25_sheetsStay() {
        WellMoods x = after(Bounds::settled);
        x.drop(0);
        x.sheet(3, 0, 5);
        x.restore();
        due("the dropped one", x.drop(0), NULL);
        due("the new one", x.drop(3), 5);
    }

    static void p25_itemsOfSheetsStay() {
        WellMoods x = Due.well("p");
        fill(x, 0, 0, 0, 4);
        x.image();
        x.item(0, 0, 1, 5);
        x.restore();
        due(x.fit(0, 0, 0, 1), 1 << 10);
    }

    static void p25_theTapeStays() {
        WellMoods x = after(Bounds::settled);
        Due.type(x, "s,p");
        x.restore();
        due("type", x.type(' ', 1), 4);
        due("village", x.village(), 2);
    }

    static void p25_anEmptyTapeStaysEmpty() {
        WellMoods x = Due.well("p");
        Due.type(x, "s,p");
        x.image();
        x.village();
        x.restore();
        due(x.type(' ', 1), 1);
    }

    static void p25_fromHour9999_itIsAsEarlyAsThen() {
        WellMoods x = after(Bounds::lastHour);
        x.restore();
        due("hour", x.is(5), 1);
        due("pass", x.pass(60), 61);
    }

    static void p25_restsAndWhoDrewAheadComeBack() {
        WellMoods x = Due.well("pr4,s");
        x.quarrel(0, 1, true);
        x.draw(0);
        x.image();
        x.pass(9);
        x.restore();
        due("who drew ahead", x.is(8), 0);
        due("waits", x.told(0, 3), 3);
        due("his foe", x.draw(1), 0);
    }
}
