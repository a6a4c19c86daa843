/** The boundaries that promises 1 to 9 name; a test each. */
final class FolkBoundsTest extends Bounds {
    public static void main(String[] args) {
        runAll(FolkBoundsTest.class);
    }

    // ---- 1 a new object

    static void p01_moodIs0() {
        due(new WellMoods().is(0), 0);
    }

    static void p01_levelIs200() {
        due(new WellMoods().is(1), 200);
    }

    static void p01_rainIs1() {
        due(new WellMoods().is(2), 1);
    }

    static void p01_noSweetPailsAtHome() {
        due(new WellMoods().is(3), 0);
    }

    static void p01_noSaltPailsAtHome() {
        due(new WellMoods().is(4), 0);
    }

    static void p01_hourIs0() {
        due(new WellMoods().is(5), 0);
    }

    static void p01_nobodyIsThere() {
        WellMoods x = new WellMoods();
        due("how many", x.is(6), 0);
        due("the first", x.told(0, 0), BAD_APART);
        due("who may", x.may(), 0);
    }

    static void p01_noPlan() {
        WellMoods x = new WellMoods();
        due("hours", x.is(7), 0);
        due("run", x.run(), 0);
        due("hour", x.is(5), 0);
    }

    static void p01_nobodyDrewAhead() {
        due(new WellMoods().is(8), NOBODY);
    }

    static void p01_theTapeIsEmpty() {
        due("type", new WellMoods().type('p', 1), 1);
        due("village", new WellMoods().village(), -20);
        due("plan", new WellMoods().plan(), -20);
    }

    static void p01_theDrawIs1() {
        due(new WellMoods().seed(1), 1);
    }

    static void p01_noImage() {
        due(new WellMoods().restore(), NONE);
    }

    static void p01_noSheetHoldsAnything() {
        WellMoods x = new WellMoods();
        for (int sheet = 0; sheet <= 3; sheet++) {
            due("sheet " + sheet, x.drop(sheet), NULL);
        }
    }

    static void p01_anotherObjectIsApart() {
        WellMoods one = after(Bounds::lived);
        WellMoods other = new WellMoods();
        due("folk", other.is(6), 0);
        due("sheet", other.drop(0), NULL);
        due("tape", other.type('p', 1), 1);
        due("image", other.restore(), NONE);
        due("the first stays", one.is(6), 4);
    }

    // ---- 2 folk

    /** Such a one comes, as the fifth, and is told so. */
    private static void comes(int kind, int feels, int rests) {
        WellMoods x = after(Bounds::lived);
        due("number", x.folk(kind, feels, rests), 4);
        due("how many", x.is(6), 5);
        due("kind", x.told(4, 0), kind);
        due("feels", x.told(4, 1), feels);
        due("rests", x.told(4, 2), rests);
    }

    static void p02_kindBelow0_isBad() {
        refused(Bounds::lived, x -> x.folk(-1, 0, 1), BAD);
    }

    static void p02_kindAbove3_isBad() {
        refused(Bounds::lived, x -> x.folk(4, 0, 1), BAD);
    }

    static void p02_kindFarOut_isBad() {
        refused(Bounds::lived, x -> x.folk(MIN, 0, 1), BAD);
        refused(Bounds::lived, x -> x.folk(MAX, 0, 1), BAD);
    }

    static void p02_kind0_comes() {
        comes(0, 0, 1);
    }

    static void p02_kind3_comes() {
        comes(3, 0, 1);
    }

    static void p02_feelsBelowMinus3_isBad() {
        refused(Bounds::lived, x -> x.folk(0, -4, 1), BAD);
    }

    static void p02_feelsAbove3_isBad() {
        refused(Bounds::lived, x -> x.folk(0, 4, 1), BAD);
    }

    static void p02_feelsFarOut_isBad() {
        refused(Bounds::lived, x -> x.folk(0, MIN, 1), BAD);
        refused(Bounds::lived, x -> x.folk(0, MAX, 1), BAD);
    }

    static void p02_feelsMinus3_comes() {
        comes(0, -3, 1);
    }

    static void p02_feels3_comes() {
        comes(0, 3, 1);
    }

    static void p02_rests0_isBad() {
        refused(Bounds::lived, x -> x.folk(0, 0, 0), BAD);
    }

    static void p02_restsBelow0_isBad() {
        refused(Bounds::lived, x -> x.folk(0, 0, -1), BAD);
    }

    static void p02_restsAbove9_isBad() {
        refused(Bounds::lived, x -> x.folk(0, 0, 10), BAD);
    }

    static void p02_restsFarOut_isBad() {
        refused(Bounds::lived, x -> x.folk(0, 0, MIN), BAD);
        refused(Bounds::lived, x -> x.folk(0, 0, MAX), BAD);
    }

    static void p02_rests1_comes() {
        comes(0, 0, 1);
    }

    static void p02_rests9_comes() {
        comes(0, 0, 9);
    }

    static void p02_first_is0() {
        answers(Bounds::nothing, x -> x.folk(1, 2, 3), 0);
    }

    static void p02_sixth_is5() {
        answers(village("p,p,p,p,p"), x -> x.folk(1, 2, 3), 5);
    }

    static void p02_seventh_isFull() {
        refused(Bounds::six, x -> x.folk(1, 2, 3), FULL);
    }

    static void p02_badIsAheadOfFull() {
        refused(Bounds::six, x -> x.folk(4, 0, 1), BAD);
        refused(Bounds::six, x -> x.folk(0, 4, 1), BAD);
        refused(Bounds::six, x -> x.folk(0, 0, 10), BAD);
    }

    static void p02_oneWhoComes_mayDrawAtOnce() {
        WellMoods x = Due.well("p");
        x.draw(0);
        x.folk(1, 0, 9);
        due("waits", x.told(1, 3), 0);
        due("may", x.may(), 3);
    }

    static void p02_oneWhoComes_changesNothingOfTheOthersAndTheWell() {
        WellMoods x = after(Bounds::lived);
        WellMoods y = after(Bounds::lived);
        x.folk(1, 0, 9);
        for (int what = 0; what <= 8; what++) {
            due("is " + what, x.is(what), y.is(what) + (what == 6 ? 1 : 0));
        }
        for (int one = 0; one < 4; one++) {
            due("waits of " + one, x.told(one, 3), y.told(one, 3));
            due("foes of " + one, x.told(one, 4), y.told(one, 4));
        }
        due("run", x.run(), y.run());
        due("who drew", x.is(8), y.is(8));
    }

    static void p02_oneWhoComesInPlaceOfAnEarlierOne_hasNoneOfHis() {
        WellMoods x = Due.well("p,sr9");
        x.quarrel(0, 1, true);
        x.draw(1);
        Due.village(x, "v");
        due("number", x.folk(3, -1, 2), 1);
        int[] told = {3, -1, 2, 0, 0};
        for (int what = 0; what < told.length; what++) {
            due("told " + what, x.told(1, what), told[what]);
        }
    }

    // ---- 3 told

    static void p03_oneBelow0_isBad() {
        refused(Bounds::lived, x -> x.told(-1, 0), BAD_APART);
    }

    static void p03_oneBehindTheLast_isBad() {
        refused(Bounds::lived, x -> x.told(4, 0), BAD_APART);
    }

    static void p03_oneBehindTheSixth_isBad() {
        refused(Bounds::six, x -> x.told(6, 0), BAD_APART);
    }

    static void p03_oneFarOut_isBad() {
        refused(Bounds::lived, x -> x.told(MIN, 0), BAD_APART);
        refused(Bounds::lived, x -> x.told(MAX, 0), BAD_APART);
    }

    static void p03_nobodyThere_isBad() {
        refused(Bounds::nothing, x -> x.told(0, 0), BAD_APART);
    }

    static void p03_whatBelow0_isBad() {
        refused(Bounds::lived, x -> x.told(0, -1), BAD_APART);
    }

    static void p03_whatAbove4_isBad() {
        refused(Bounds::lived, x -> x.told(0, 5), BAD_APART);
    }

    static void p03_whatFarOut_isBad() {
        refused(Bounds::lived, x -> x.told(0, MIN), BAD_APART);
        refused(Bounds::lived, x -> x.told(0, MAX), BAD_APART);
    }

    static void p03_lastOfSix_isTold() {
        answers(Bounds::six, x -> x.told(5, 1), -3);
    }

    static void p03_feelsMinus1_isNoRefusal() {
        asked(Bounds::settled, x -> x.told(3, 1), -1);
    }

    private static void waitsBehindADrawing(String text, int hours) {
        WellMoods x = Due.well(text);
        x.draw(0);
        due(x.told(0, 3), hours);
    }

    static void p03_hoursOfOneWhoMayNow_0() {
        asked(Bounds::settled, x -> x.told(3, 3), 0);
    }

    static void p03_hoursOfOneWhoRests1_0InTheNextHour() {
        waitsBehindADrawing("p", 0);
    }

    static void p03_hoursOfOneWhoRests9_8InTheNextHour() {
        waitsBehindADrawing("pr9", 8);
    }

    static void p03_hours_noLessThan0() {
        WellMoods x = Due.well("pr2");
        x.draw(0);
        x.pass(60);
        due(x.told(0, 3), 0);
    }

    static void p03_hoursOfOneWhoMayInTheNextHour_1() {
        waitsBehindADrawing("pr2", 1);
    }

    static void p03_hoursInHour9999_goBeyondIt() {
        WellMoods x = Due.well("pr9");
        toHour(x, 9998);
        x.draw(0);
        due(x.told(0, 3), 8);
    }

    static void p03_quarrelsWithNobody_emptySet() {
        asked(village("p,s"), x -> x.told(0, 4), 0);
    }

    static void p03_quarrelsWithAllOthers_allBitsButHis() {
        WellMoods x = Due.well("p,p,p,p,p,p");
        for (int a = 0; a < 6; a++) {
            for (int b = a + 1; b < 6; b++) {
                x.quarrel(a, b, true);
            }
        }
        due("of the first", x.told(0, 4), 62);
        due("of the last", x.told(5, 4), 31);
    }

    // ---- 4 quarrel

    static void p04_firstOneBelow0_isBad() {
        refused(Bounds::lived, x -> x.quarrel(-1, 0, true), BAD);
    }

    static void p04_firstOneBehindTheLast_isBad() {
        refused(Bounds::lived, x -> x.quarrel(4, 0, true), BAD);
    }

    static void p04_otherOneBelow0_isBad() {
        refused(Bounds::lived, x -> x.quarrel(0, -1, true), BAD);
    }

    static void p04_otherOneBehindTheLast_isBad() {
        refused(Bounds::lived, x -> x.quarrel(0, 4, true), BAD);
    }

    static void p04_oneBehindTheSixth_isBad() {
        refused(Bounds::six, x -> x.quarrel(0, 6, true), BAD);
        refused(Bounds::six, x -> x.quarrel(6, 0, true), BAD);
    }

    static void p04_farOut_isBad() {
        refused(Bounds::lived, x -> x.quarrel(MIN, 0, true), BAD);
        refused(Bounds::lived, x -> x.quarrel(0, MAX, true), BAD);
    }

    static void p04_oneAlike_isBad() {
        refused(Bounds::lived, x -> x.quarrel(0, 0, true), BAD);
        refused(Bounds::lived, x -> x.quarrel(3, 3, false), BAD);
    }

    static void p04_notAndBad_endsNoQuarrel() {
        refused(Bounds::lived, x -> x.quarrel(1, 4, false), BAD);
    }

    static void p04_lastTwoOfSix_quarrel() {
        WellMoods x = after(Bounds::six);
        due("were not", x.quarrel(5, 4, true), 0);
        due("of 4", x.told(4, 4), 32);
        due("of 5", x.told(5, 4), 16);
    }

    static void p04_thoseWhoDidNot_0() {
        answers(village("p,s"), x -> x.quarrel(0, 1, true), 0);
    }

    static void p04_thoseWhoDid_1AndStillDo() {
        unchanged(Bounds::lived, x -> x.quarrel(1, 0, true), 1);
    }

    static void p04_thoseWhoDid_endIt() {
        WellMoods x = after(Bounds::lived);
        due("they did", x.quarrel(1, 0, false), 1);
        due("of 0", x.told(0, 4), 0);
        due("of 1", x.told(1, 4), 0);
    }

    static void p04_thoseWhoDidNotAndDoNot_0() {
        unchanged(Bounds::lived, x -> x.quarrel(0, 3, false), 0);
    }

    // ---- 5 set

    private static void becomes(int what, int v) {
        WellMoods x = after(Bounds::lived);
        int was = x.is(what);
        due("what it was", x.set(what, v), was);
        due("what it is", x.is(what), v);
    }

    static void p05_moodMinus9_isSet() {
        becomes(0, -9);
    }

    static void p05_mood9_isSet() {
        becomes(0, 9);
    }

    static void p05_moodBelowMinus9_isBad() {
        refused(Bounds::lived, x -> x.set(0, -10), BAD_APART);
    }

    static void p05_moodAbove9_isBad() {
        refused(Bounds::lived, x -> x.set(0, 10), BAD_APART);
    }

    static void p05_moodThatWasMinus1_isNoRefusal() {
        WellMoods x = new WellMoods();
        x.set(0, -1);
        due(x.set(0, 0), -1);
    }

    static void p05_level0_isSet() {
        becomes(1, 0);
    }

    static void p05_level999_isSet() {
        becomes(1, 999);
    }

    static void p05_levelBelow0_isBad() {
        refused(Bounds::lived, x -> x.set(1, -1), BAD_APART);
    }

    static void p05_levelAbove999_isBad() {
        refused(Bounds::lived, x -> x.set(1, 1000), BAD_APART);
    }

    static void p05_rain0_isSet() {
        becomes(2, 0);
    }

    static void p05_rain9_isSet() {
        becomes(2, 9);
    }

    static void p05_rainBelow0_isBad() {
        refused(Bounds::lived, x -> x.set(2, -1), BAD_APART);
    }

    static void p05_rainAbove9_isBad() {
        refused(Bounds::lived, x -> x.set(2, 10), BAD_APART);
    }

    static void p05_whatBelow0_isBad() {
        refused(Bounds::lived, x -> x.set(-1, 0), BAD_APART);
    }

    static void p05_whatAbove2_isBad() {
        refused(Bounds::lived, x -> x.set(3, 0), BAD_APART);
    }

    static void p05_farOut_isBad() {
        refused(Bounds::lived, x -> x.set(MIN, 0), BAD_APART);
        refused(Bounds::lived, x -> x.set(MAX, 0), BAD_APART);
        for (int i = 0; i <= 2; i++) {
            int what = i;
            refused(Bounds::lived, x -> x.set(what, MIN), BAD_APART);
            refused(Bounds::lived, x -> x.set(what, MAX), BAD_APART);
        }
    }

    static void p05_whatItWas_ofEach() {
        WellMoods x = new WellMoods();
        due("mood", x.set(0, 3), 0);
        due("level", x.set(1, 4), 200);
        due("rain", x.set(2, 5), 1);
    }

    // ---- 6 is

    static void p06_whatBelow0_isBad() {
        refused(Bounds::lived, x -> x.is(-1), BAD_APART);
    }

    static void p06_whatAbove8_isBad() {
        refused(Bounds::lived, x -> x.is(9), BAD_APART);
    }

    static void p06_whatFarOut_isBad() {
        refused(Bounds::lived, x -> x.is(MIN), BAD_APART);
        refused(Bounds::lived, x -> x.is(MAX), BAD_APART);
    }

    static void p06_moodMinus1_isNoRefusal() {
        WellMoods x = new WellMoods();
        x.set(0, -1);
        due(x.is(0), -1);
    }

    static void p06_what0And8_areTold() {
        asked(Bounds::settled, x -> x.is(0), 4);
        asked(Bounds::settled, x -> x.is(8), 0);
    }

    static void p06_whoDrewAheadOfAnHourWithoutDrawing_none() {
        WellMoods x = after(Bounds::settled);
        x.draw(NOBODY);
        due(x.is(8), NOBODY);
    }

    static void p06_hour9999_isTold() {
        answers(Bounds::lastHour, x -> x.is(5), 9999);
    }

    // ---- 7 type

    static void p07_n0_isBad() {
        refused(Bounds::lived, x -> x.type('p', 0), BAD);
    }

    static void p07_nBelow0_isBad() {
        refused(Bounds::lived, x -> x.type('p', -1), BAD);
        refused(Bounds::lived, x -> x.type('p', MIN), BAD);
    }

    static void p07_nAbove8_isBad() {
        refused(Bounds::lived, x -> x.type(0x7070707070707070L, 9), BAD);
        refused(Bounds::lived, x -> x.type(0x7070707070707070L, MAX), BAD);
    }

    static void p07_n1_isTyped() {
        answers(Bounds::nothing, x -> x.type('p', 1), 1);
    }

    static void p07_n8_isTyped() {
        WellMoods x = new WellMoods();
        due("type", x.type(0x2b312c732c762c6dL, 8), 8);
        due("its highest byte is the first: +", x.village(), -20);
    }

    static void p07_highestOfTheNFirst() {
        WellMoods x = new WellMoods();
        x.type(0x732d32L, 3);
        due("s-2", x.village(), 1);
        due("kind", x.told(0, 0), 1);
        due("feels", x.told(0, 1), -2);
    }

    static void p07_byteAboveTheN_isNotLookedAt() {
        answers(Bounds::nothing, x -> x.type(0xff1f70L, 1), 1);
        answers(Bounds::nothing, x -> x.type(0x8070707070707070L, 7), 7);
    }

    static void p07_byte32_isTyped() {
        answers(Bounds::nothing, x -> x.type(32, 1), 1);
    }

    static void p07_byte126_isTyped() {
        answers(Bounds::nothing, x -> x.type(126, 1), 1);
    }

    static void p07_byte31_isBad() {
        refused(Bounds::lived, x -> x.type(31, 1), BAD);
    }

    static void p07_byte127_isBad() {
        refused(Bounds::lived, x -> x.type(127, 1), BAD);
    }

    static void p07_byte0_isBad() {
        refused(Bounds::lived, x -> x.type(0, 1), BAD);
    }

    static void p07_byte128And255_areBad() {
        refused(Bounds::lived, x -> x.type(128, 1), BAD);
        refused(Bounds::lived, x -> x.type(255, 1), BAD);
        refused(Bounds::lived, x -> x.type(-1L, 8), BAD);
    }

    static void p07_lastByteBad_noneIsTyped() {
        refused(Bounds::lived, x -> x.type(0x2c701fL, 3), BAD);
    }

    static void p07_firstByteBad_noneIsTyped() {
        refused(Bounds::lived, x -> x.type(0x7f2c70L, 3), BAD);
    }

    static void p07_highestByteOfEightBad_noneIsTyped() {
        refused(Bounds::lived, x -> x.type(0x9f20202020202020L, 8), BAD);
    }

    private static Past typed(int blanks) {
        return x -> {
            settled(x);
            Due.type(x, " ".repeat(blanks));
        };
    }

    static void p07_to60_isTyped() {
        answers(typed(52), x -> x.type(0x2020202020202020L, 8), 60);
        answers(typed(59), x -> x.type(' ', 1), 60);
    }

    static void p07_to61_isFull() {
        refused(typed(53), x -> x.type(0x2020202020202020L, 8), FULL);
        refused(typed(59), x -> x.type(0x2020L, 2), FULL);
    }

    static void p07_behind60_isFull() {
        refused(typed(60), x -> x.type(' ', 1), FULL);
    }

    static void p07_badIsAheadOfFull() {
        refused(typed(60), x -> x.type(31, 1), BAD);
        refused(typed(60), x -> x.type(' ', 0), BAD);
        refused(typed(60), x -> x.type(' ', 9), BAD);
    }

    static void p07_behindFull_fewerAreTyped() {
        WellMoods x = after(typed(59));
        x.type(0x2020L, 2);
        due(x.type(' ', 1), 60);
    }
}
