/** The boundaries that "Terms" names: folk, the well, hours, plans, what was, sheets; a test each. */
final class TermsBoundsTest extends Bounds {
    public static void main(String[] args) {
        runAll(TermsBoundsTest.class);
    }

    // ---- refusals

    static void terms_refusals_haveTheirNumbers() {
        int[] all = {BAD, NOT, FULL, NONE, NULL, CAST, INDEX, SIZE};
        int[] want = {-1, -2, -3, -4, -11, -12, -13, -14};
        for (int i = 0; i < want.length; i++) {
            due("the " + i + "-th", all[i], want[i]);
        }
    }

    static void terms_refusals_whereAnAnswerMayBeBelow0_are100000Less() {
        answers(Bounds::settled, x -> x.told(9, 1), -100001);
        answers(Bounds::settled, x -> x.set(0, 10), -100001);
        answers(Bounds::settled, x -> x.is(9), -100001);
    }

    static void terms_anObject_answersItsCall512() {
        WellMoods x = new WellMoods();
        for (int call = 1; call < 512; call++) {
            due("call " + call, x.pass(1), call);
        }
        due("call 512", x.pass(1), 512);
    }

    // ---- 1 folk

    static void terms_rest1_mayDrawInTheNextHour() {
        WellMoods x = Due.well("sr1");
        x.draw(0);
        due("may", x.may(), 1);
        due("draw", x.draw(0), 5);
    }

    static void terms_rest2_mayNotDrawInTheNextHourButInTheOneBehind() {
        WellMoods x = Due.well("sr2");
        x.draw(0);
        due("may, next", x.may(), 0);
        x.pass(1);
        due("may, behind", x.may(), 1);
    }

    static void terms_rest9_mayNotDrawIn8HoursButInTheNinth() {
        WellMoods x = Due.well("sr9");
        x.draw(0);
        x.pass(7);
        due("may, 8th", x.may(), 0);
        x.pass(1);
        due("may, 9th", x.may(), 1);
    }

    static void terms_rest_beginsAnewByADrawing() {
        WellMoods x = Due.well("sr3");
        x.draw(0);
        x.pass(2);
        x.draw(0);
        due("waits", x.told(0, 3), 2);
    }

    static void terms_rest_behindADrawingWithoutPailsToo() {
        WellMoods x = Due.well("sr2");
        x.set(1, 0);
        due("pails", x.draw(0), 0);
        due("waits", x.told(0, 3), 1);
    }

    static void terms_quarrels_noneAtFirst() {
        WellMoods x = Due.well("p,s,v,m,p,s");
        for (int one = 0; one < 6; one++) {
            due("of " + one, x.told(one, 4), 0);
        }
    }

    // ---- 1 pails of a drawing: sweet or salt

    /** A DRAWING of one of this text at this MOOD brings so many PAILS, to those SWEET or SALT at home. */
    private static void brings(String text, int mood, int pails, boolean sweet) {
        WellMoods x = at(text, mood);
        due("pails", x.draw(0), pails);
        due("sweet", x.is(3), sweet ? pails : 0);
        due("salt", x.is(4), sweet ? 0 : pails);
        due("level", x.is(1), 200 - pails + 1);
    }

    static void terms_plainAtMood0_isSweet() {
        brings("p", 0, 4, true);
    }

    static void terms_plainAtMoodMinus1_isSalt() {
        brings("p", -1, 3, false);
    }

    static void terms_sadAtMoodMinus1_isSweet() {
        brings("s", -1, 4, true);
    }

    static void terms_sadAtMoodMinus4_isSweetStill() {
        brings("s", -4, 1, true);
    }

    static void terms_vainAtMood9_isSaltStill() {
        brings("v", 9, 9, false);
    }

    static void terms_maskedAtMood9_isSaltStill() {
        brings("m", 9, 9, false);
    }

    // ---- 1 pails of a drawing: none fewer than 0

    static void terms_plainAtMoodMinus4_0Pails() {
        brings("p", -4, 0, false);
    }

    static void terms_plainAtMoodMinus5_noFewerThan0() {
        brings("p", -5, 0, false);
    }

    static void terms_sadAtMoodMinus5_0Pails() {
        brings("s", -5, 0, true);
    }

    static void terms_sadAtMoodMinus6_noFewerThan0() {
        brings("s", -6, 0, true);
    }

    static void terms_vainAtMoodMinus4_0Pails() {
        brings("v", -4, 0, false);
    }

    static void terms_vainAtMoodMinus5_noFewerThan0() {
        brings("v", -5, 0, false);
    }

    static void terms_maskedAtMoodMinus2_0Pails() {
        brings("m", -2, 0, false);
    }

    static void terms_maskedAtMoodMinus9_noFewerThan0() {
        brings("m", -9, 0, false);
    }

    // ---- 1 pails of a drawing: none more than 9

    static void terms_plainAtMood5_9Pails() {
        brings("p", 5, 9, true);
    }

    static void terms_plainAtMood6_noMoreThan9() {
        brings("p", 6, 9, true);
    }

    static void terms_sadAtMood4_9Pails() {
        brings("s", 4, 9, true);
    }

    static void terms_sadAtMood9_noMoreThan9() {
        brings("s", 9, 9, true);
    }

    static void terms_vainAtMood5_9Pails() {
        brings("v", 5, 9, false);
    }

    static void terms_vainAtMood6_noMoreThan9() {
        brings("v", 6, 9, false);
    }

    static void terms_maskedAtMood7_9Pails() {
        brings("m", 7, 9, false);
    }

    static void terms_maskedAtMood8_noMoreThan9() {
        brings("m", 8, 9, false);
    }

    // ---- 1 pails of a drawing: no more than the level

    /** s at MOOD 0 would draw 5. */
    private static void drawsOfLevel(int level, int pails) {
        WellMoods x = Due.well("s");
        x.set(1, level);
        x.set(2, 0);
        due("pails", x.draw(0), pails);
        due("level", x.is(1), level - pails);
        due("at home", x.is(3), pails);
    }

    static void terms_levelOneMoreThanPails_allAreDrawn() {
        drawsOfLevel(6, 5);
    }

    static void terms_levelAsMuchAsPails_isDrawnEmpty() {
        drawsOfLevel(5, 5);
    }

    static void terms_levelOneLessThanPails_noMoreThanTheLevel() {
        drawsOfLevel(4, 4);
    }

    static void terms_level0_noPails() {
        drawsOfLevel(0, 0);
    }

    static void terms_rainOfAnHour_isNotThereInItsDrawing() {
        WellMoods x = Due.well("s");
        x.set(1, 0);
        x.set(2, 9);
        due("in the first hour", x.draw(0), 0);
        due("in the next one", x.draw(0), 5);
    }

    // ---- 1 pails of a drawing: those who quarrel

    private static WellMoods foes() {
        WellMoods x = Due.well("s,s,s");
        x.quarrel(0, 1, true);
        return x;
    }

    static void terms_quarrelWithWhoDrewInTheHourAhead_noPails() {
        WellMoods x = foes();
        x.draw(0);
        due("pails", x.draw(1), 0);
        due("at home", x.is(3), 5);
        due("level", x.is(1), 200 - 5 + 1 + 1);
    }

    static void terms_quarrelWithWhoDrewAhead_theOtherWayToo() {
        WellMoods x = foes();
        x.draw(1);
        due(x.draw(0), 0);
    }

    static void terms_quarrelWithWhoDrewTwoHoursAhead_pails() {
        WellMoods x = foes();
        x.draw(0);
        x.draw(2);
        due(x.draw(1), 5);
    }

    static void terms_quarrelWithWhoDrewAheadOfAnHourWithoutDrawing_pails() {
        WellMoods x = foes();
        x.draw(0);
        x.draw(NOBODY);
        due(x.draw(1), 5);
    }

    static void terms_quarrelWithWhoDrewAheadWithoutPails_noPails() {
        WellMoods x = foes();
        x.draw(0);
        x.draw(1);
        due(x.draw(0), 0);
    }

    static void terms_firstHour_nobodyDrewAhead_pails() {
        WellMoods x = foes();
        due(x.draw(1), 5);
    }

    static void terms_quarrelWithAnother_pailsBehindTheThird() {
        WellMoods x = foes();
        x.draw(2);
        due(x.draw(0), 5);
    }

    static void terms_oneBehindHimself_pails() {
        WellMoods x = foes();
        x.draw(0);
        due(x.draw(0), 5);
    }

    static void terms_quarrelThatEnded_pails() {
        WellMoods x = foes();
        x.draw(0);
        x.quarrel(1, 0, false);
        due(x.draw(1), 5);
    }

    // ---- 1 the mood by a drawing

    /** The MOOD an HOUR later, which has waned by 1, behind a DRAWING of one of this text at this MOOD. */
    private static void moodBehind(String text, int mood, int want) {
        WellMoods x = at(text, mood);
        x.draw(0);
        due(x.is(0), want);
    }

    static void terms_moodTo9ByADrawing_then8() {
        moodBehind("p+3", 6, 8);
    }

    static void terms_moodAbove9ByADrawing_9AtMostThen8() {
        moodBehind("p+3", 7, 8);
    }

    static void terms_mood9ByADrawingMore_9AtMostThen8() {
        moodBehind("s+3", 9, 8);
    }

    static void terms_moodToMinus9ByADrawing_thenMinus8() {
        moodBehind("v-3", -6, -8);
    }

    static void terms_moodBelowMinus9ByADrawing_minus9AtLeastThenMinus8() {
        moodBehind("v-3", -7, -8);
    }

    static void terms_moodMinus9ByADrawingLess_minus9AtLeastThenMinus8() {
        moodBehind("p-3", -9, -8);
    }

    static void terms_moodByMaskedWhoFeelsBelow0_9AtMost() {
        moodBehind("m-3", 9, 8);
    }

    static void terms_moodByMaskedWhoFeelsAbove0_minus9AtLeast() {
        moodBehind("m+3", -9, -8);
    }

    static void terms_moodByMasked_isLessByWhatOneFeels() {
        moodBehind("m+3", 0, -2);
    }

    static void terms_moodByOneWhoFeels0_wanesAlone() {
        moodBehind("p", 4, 3);
    }

    static void terms_moodByADrawingOfAnEmptyWell_movesToo() {
        WellMoods x = Due.well("p+3");
        x.set(1, 0);
        due("pails", x.draw(0), 0);
        due("mood", x.is(0), 2);
    }

    static void terms_moodByADrawingBehindAFoe_movesToo() {
        WellMoods x = Due.well("p,s+3");
        x.quarrel(0, 1, true);
        x.draw(0);
        due("pails", x.draw(1), 0);
        due("mood", x.is(0), 2);
    }

    static void terms_moodByADrawingOf0PailsAtMinus9_movesToo() {
        moodBehind("p+3", -9, -5);
    }

    static void terms_moodIsMovedBehindThePails() {
        WellMoods x = Due.well("p-3");
        due("pails", x.draw(0), 4);
        due("sweet", x.is(3), 4);
    }

    // ---- 1 an hour

    private static void wanes(int mood, int want) {
        WellMoods x = new WellMoods();
        x.set(0, mood);
        x.pass(1);
        due(x.is(0), want);
    }

    static void terms_mood0_staysByTheHour() {
        wanes(0, 0);
    }

    static void terms_mood1_wanesTo0() {
        wanes(1, 0);
    }

    static void terms_moodMinus1_wanesTo0() {
        wanes(-1, 0);
    }

    static void terms_mood9_wanesTo8() {
        wanes(9, 8);
    }

    static void terms_moodMinus9_wanesToMinus8() {
        wanes(-9, -8);
    }

    static void terms_moodMadeMinus1ByADrawing_wanesTo0() {
        moodBehind("p-3", 2, 0);
    }

    private static void rains(int level, int rain, int want) {
        WellMoods x = new WellMoods();
        x.set(1, level);
        x.set(2, rain);
        x.pass(1);
        due(x.is(1), want);
    }

    static void terms_level998By1_999() {
        rains(998, 1, 999);
    }

    static void terms_level999By1_999AtMost() {
        rains(999, 1, 999);
    }

    static void terms_level991By9_999AtMost() {
        rains(991, 9, 999);
    }

    static void terms_level990By9_999() {
        rains(990, 9, 999);
    }

    static void terms_rain0_levelStays() {
        rains(0, 0, 0);
    }

    static void terms_level0By9_9() {
        rains(0, 9, 9);
    }

    static void terms_level999DrawnFrom_isCutBehindTheDrawing() {
        WellMoods x = Due.well("p");
        x.set(1, 999);
        x.draw(0);
        due(x.is(1), 996);
    }

    static void terms_oneWhoHasNotRested_mayNotDraw() {
        WellMoods x = Due.well("sr2,s");
        x.draw(0);
        due("may", x.may(), 2);
        due("draw", x.draw(0), NOT);
    }

    // ---- 2 most, the row, fewest

    static void terms_most_oneWhoRests_isSentWhenHeHasRested() {
        WellMoods x = Due.well("sr2");
        x.draw(0);
        due("most(1)", x.most(1), 0);
        due("most(2)", x.most(2), 5);
    }

    static void terms_most_rest4_drawsAgainInTheFifthHour() {
        answers(village("sr4"), x -> x.most(5), 10);
    }

    static void terms_most_rest5_drawsOnceInFiveHours() {
        answers(village("sr5"), x -> x.most(5), 5);
    }

    static void terms_most_ofAnEmptyWell() {
        WellMoods x = Due.well("s");
        x.set(1, 0);
        x.set(2, 0);
        due(x.most(5), 0);
    }

    static void terms_most_ofAnEmptyWellAndRain9() {
        WellMoods x = Due.well("s");
        x.set(1, 0);
        x.set(2, 9);
        due("most(1)", x.most(1), 0);
        due("most(2)", x.most(2), 5);
    }

    static void terms_most_ofALevelThatRunsOut() {
        WellMoods x = Due.well("s");
        x.set(1, 7);
        x.set(2, 0);
        due("most(1)", x.most(1), 5);
        due("most(2)", x.most(2), 7);
        due("most(5)", x.most(5), 7);
    }

    static void terms_most_ofLevel999() {
        WellMoods x = Due.well("s");
        x.set(1, 999);
        x.set(2, 9);
        due(x.most(5), 25);
    }

    static void terms_most_whoDrewInTheHourAheadCounts() {
        WellMoods x = Due.well("v,s");
        x.quarrel(0, 1, true);
        x.draw(0);
        due("most(1)", x.most(1), 0);
        due("most(2)", x.most(2), 5);
    }

    static void terms_most_saltPailsAreNone() {
        answers(village("v+3,m-3"), x -> x.most(5), 0);
    }

    static void terms_most_plainBelowMood0BringsNoSweetOnes() {
        WellMoods x = at("p", -1);
        due("most(1)", x.most(1), 0);
        due("most(2)", x.most(2), 4);
    }

    static void terms_most_moodIsNoMoreThan9InItsHours() {
        WellMoods x = at("p+3r9,s-3", 9);
        due("9 by s-3 to 5, 9 by p+3 to 7, then 9, 8, 5", x.most(5), 40);
        due("p+3 first would lift it no higher", x.row(5, 0), 1);
    }

    static void terms_most_fromMoodMinus9() {
        WellMoods x = at("s-3", -9);
        due("none drawn in 4, then s at -5", x.most(5), 0);
        x.folk(1, 3, 1);
        due("-9, -5, -1, 1, 3: s+3 draws 0, 0, 4, 6, 8", x.most(5), 18);
    }

    static void terms_row_ofLikeOnesTheLesserNumber() {
        answers(village("s,s,s"), x -> x.row(1, 0), 0);
    }

    static void terms_row_oneWhoBringsNothingIsAheadOfNone() {
        answers(village("v,s"), x -> x.row(1, 0), 1);
        answers(village("v"), x -> x.row(1, 0), 0);
    }

    static void terms_row_noneWhereNobodyMay() {
        WellMoods x = Due.well("sr9");
        x.draw(0);
        for (int i = 0; i < 5; i++) {
            due("in hour " + i, x.row(5, i), NOBODY);
        }
    }

    static void terms_row_noneWhereADrawingWouldCost() {
        WellMoods x = Due.well("sr2");
        x.set(0, -3);
        due("most(2)", x.most(2), 3);
        due("the first: 0 of sr2 would bring 2", x.row(2, 0), NOBODY);
        due("the second", x.row(2, 1), 0);
    }

    static void terms_row_firstPlacesCountFirst() {
        WellMoods x = Due.well("s,v");
        x.set(1, 5);
        x.set(2, 0);
        due("most(2)", x.most(2), 5);
        due("first", x.row(2, 0), 0);
        due("second", x.row(2, 1), 0);
    }

    static void terms_fewest_justSoMany() {
        answers(village("s"), x -> x.fewest(10), 2);
    }

    static void terms_fewest_oneMoreNeedsAnotherHour() {
        answers(village("s"), x -> x.fewest(11), 3);
    }

    // ---- 2 a plan

    static void terms_plan_firstHourInWhichOneMayNot_doesNotPass() {
        WellMoods x = Due.well("sr2,p");
        Due.plan(x, "1001");
        due("run", x.run(), 2);
        due("hour", x.is(5), 2);
        due("who drew ahead", x.is(8), 0);
        due("mood, level: no more hours", x.is(1), 200 - 4 + 1 - 5 + 1);
    }

    static void terms_plan_behindThatHourNothingIsRun() {
        WellMoods x = Due.well("sr2,p");
        Due.plan(x, "00111");
        due("run", x.run(), 1);
        due("pails", x.is(3), 5);
    }

    static void terms_plan_hoursWithoutDrawingRest() {
        WellMoods x = Due.well("sr3");
        Due.plan(x, "0..0");
        due("run", x.run(), 4);
        due("pails", x.is(3), 10);
    }

    // ---- 2 peace

    static void terms_peace_ofLikePairsTheLesserFirst() {
        WellMoods x = Due.well("sr2,sr2,sr2,sr2");
        x.quarrel(2, 3, true);
        x.quarrel(1, 3, true);
        x.quarrel(1, 2, true);
        x.quarrel(0, 3, true);
        x.quarrel(0, 2, true);
        x.quarrel(0, 1, true);
        due(x.peace(), 1);
    }

    static void terms_peace_ofLikePairsThenTheOther() {
        WellMoods x = Due.well("v,sr2,sr2,sr2");
        x.quarrel(1, 3, true);
        x.quarrel(2, 3, true);
        x.quarrel(1, 2, true);
        due(x.peace(), 12);
    }

    static void terms_peace_noMoreThanAsItIs_none() {
        WellMoods x = Due.well("s,s");
        x.quarrel(0, 1, true);
        due(x.peace(), NONE);
    }

    static void terms_peace_onePairAloneIsNoMore_none() {
        WellMoods x = Due.well("sr4,sr4,sr4");
        for (int one = 0; one < 3; one++) {
            x.draw(one);
        }
        x.quarrel(0, 1, true);
        x.quarrel(0, 2, true);
        x.quarrel(1, 2, true);
        due("as it is", x.most(4), 10);
        due("each pair without the others", x.peace(), NONE);
        x.quarrel(0, 1, false);
        due("without the first pair", x.most(4), 10);
        due("and without another", x.peace(), 12);
    }

    static void terms_peace_oneMoreThanAsItIs() {
        WellMoods x = Due.well("sr2,sr2");
        x.quarrel(0, 1, true);
        x.set(1, 10);
        x.set(2, 0);
        due("as it is", x.most(4), 10);
        due("of a level that is drawn empty as it is", x.peace(), NONE);
        x.set(1, 11);
        due("of a level of one more", x.peace(), 1);
    }

    // ---- 3 what was

    static void terms_stranger_isNotMasked() {
        WellMoods x = Due.well("s");
        due("who felt 3: 7 pails", x.stranger(0, 0, 7), 1 << 6);
        due("who felt -3: 3 pails", x.stranger(0, 0, 3), 1);
    }

    static void terms_drawn_lowest31BitsOfTheDraw() {
        WellMoods x = new WellMoods();
        x.seed(MAX);
        x.drawn(1);
        due("behind the greatest", x.seed(1), 1043980748);
        x.drawn(1);
        due("behind 1", x.seed(0), 1103527590);
        x.drawn(1);
        due("behind 0", x.seed(1), 12345);
    }

    static void terms_drawn_justTwice65536_isTwo() {
        WellMoods x = Due.well("s");
        x.seed(1396811395);
        due("2 by 2: 0", x.drawn(1), 5);
        due("the draw", x.seed(1), 131072);
    }

    static void terms_drawn_oneLessThanTwice65536_isCutToOne() {
        WellMoods x = Due.well("s");
        x.seed(1686616862);
        due("1 by 2: 1, nobody", x.drawn(1), 0);
        due("the draw", x.seed(1), 131071);
    }

    static void terms_drawn_remainderIsHowManyThereAre_nobody() {
        WellMoods x = Due.well("s,s");
        due("16838 by 3: 2", x.drawn(1), 0);
        due("who drew", x.is(8), NOBODY);
    }

    static void terms_drawn_remainder0_theFirst() {
        WellMoods x = Due.well("s");
        due("16838 by 2: 0", x.drawn(1), 5);
        due("who drew", x.is(8), 0);
    }

    static void terms_drawn_lastOfFolk() {
        WellMoods x = Due.well("s,s,p");
        due("16838 by 4: 2", x.drawn(1), 4);
        due("who drew", x.is(8), 2);
    }

    static void terms_drawn_oneWhoMayNot_nobody() {
        WellMoods x = Due.well("sr2");
        x.draw(0);
        due("pails", x.drawn(1), 0);
        due("who drew", x.is(8), NOBODY);
        due("hour", x.is(5), 2);
        due("waits", x.told(0, 3), 0);
    }

    static void terms_drawn_itsHoursAloneMoveTheDraw() {
        WellMoods x = Due.well("s");
        Due.plan(x, "0.");
        x.draw(0);
        x.pass(60);
        x.run();
        due(x.seed(5), 1);
    }

    // ---- 4 sheets

    static void terms_sheets_fourAreThere() {
        for (int i = 0; i <= 3; i++) {
            int sheet = i;
            answers(Bounds::nothing, x -> x.sheet(sheet, 0, 1), 1);
        }
    }

    static void terms_sheets_threeLanes() {
        for (int i = 0; i <= 2; i++) {
            int lane = i;
            answers(Bounds::nothing, x -> x.sheet(0, lane, 1), 1);
        }
    }
}
