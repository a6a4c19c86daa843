/** The boundaries that promises 26 to 31 name; a test each. */
final class SheetsBoundsTest extends Bounds {
    public static void main(String[] args) {
        runAll(SheetsBoundsTest.class);
    }

    private static final int BYTES = 0, SHORTS = 1, LONGS = 2;
    /** Of settled: SHEETS of 6 bytes, 24 shorts, 5 longs; the fourth holds nothing. */
    private static final int SIX_BYTES = 0, SHORTS_24 = 1, FIVE_LONGS = 2, NOTHING = 3;

    /** Four of FOLK and this row in SHEET 0. */
    private static Past row(int lane, long... items) {
        return x -> {
            Due.village(x, "p,s,v,m");
            fill(x, 0, lane, items);
        };
    }

    // ---- 26 fit

    static void p26_sheetBelow0_isBad() {
        refused(Bounds::lived, x -> x.fit(-1, BYTES, 0, 1), BAD);
    }

    static void p26_sheetAbove3_isBad() {
        refused(Bounds::lived, x -> x.fit(4, BYTES, 0, 1), BAD);
    }

    static void p26_laneBelow0_isBad() {
        refused(Bounds::lived, x -> x.fit(SIX_BYTES, -1, 0, 1), BAD);
    }

    static void p26_laneAbove2_isBad() {
        refused(Bounds::lived, x -> x.fit(SIX_BYTES, 3, 0, 1), BAD);
    }

    static void p26_n0_isBad() {
        refused(Bounds::lived, x -> x.fit(SIX_BYTES, BYTES, 0, 0), BAD);
    }

    static void p26_nBelow0_isBad() {
        refused(Bounds::lived, x -> x.fit(SIX_BYTES, BYTES, 0, -1), BAD);
    }

    static void p26_nAbove8_isBad() {
        refused(Bounds::lived, x -> x.fit(SHORTS_24, SHORTS, 0, 9), BAD);
    }

    static void p26_farOut_isBad() {
        refused(Bounds::lived, x -> x.fit(MIN, BYTES, 0, 1), BAD);
        refused(Bounds::lived, x -> x.fit(MAX, BYTES, 0, 1), BAD);
        refused(Bounds::lived, x -> x.fit(SIX_BYTES, MIN, 0, 1), BAD);
        refused(Bounds::lived, x -> x.fit(SIX_BYTES, MAX, 0, 1), BAD);
        refused(Bounds::lived, x -> x.fit(SIX_BYTES, BYTES, 0, MIN), BAD);
        refused(Bounds::lived, x -> x.fit(SIX_BYTES, BYTES, 0, MAX), BAD);
    }

    static void p26_sheetHoldsNothing_isNull() {
        refused(Bounds::lived, x -> x.fit(NOTHING, BYTES, 0, 1), NULL);
    }

    static void p26_badIsAheadOfNull() {
        refused(Bounds::lived, x -> x.fit(NOTHING, 3, 0, 1), BAD);
        refused(Bounds::lived, x -> x.fit(NOTHING, BYTES, 0, 9), BAD);
    }

    static void p26_nullIsAheadOfCast() {
        refused(Bounds::lived, x -> x.fit(NOTHING, LONGS, 0, 1), NULL);
    }

    static void p26_nullIsAheadOfIndex() {
        refused(Bounds::lived, x -> x.fit(NOTHING, BYTES, -1, 1), NULL);
    }

    static void p26_anotherLane_isCast() {
        refused(Bounds::lived, x -> x.fit(SIX_BYTES, SHORTS, 0, 1), CAST);
        refused(Bounds::lived, x -> x.fit(FIVE_LONGS, BYTES, 0, 1), CAST);
    }

    static void p26_badIsAheadOfCast() {
        refused(Bounds::lived, x -> x.fit(SIX_BYTES, SHORTS, 0, 9), BAD);
    }

    static void p26_castIsAheadOfIndex() {
        refused(Bounds::lived, x -> x.fit(SIX_BYTES, SHORTS, 6, 1), CAST);
    }

    static void p26_fromBelow0_isIndex() {
        refused(Bounds::lived, x -> x.fit(SIX_BYTES, BYTES, -1, 1), INDEX);
    }

    static void p26_lastDrawingBehindTheEnd_isIndex() {
        refused(Bounds::lived, x -> x.fit(SIX_BYTES, BYTES, 5, 1), INDEX);
        refused(Bounds::lived, x -> x.fit(SIX_BYTES, BYTES, 1, 3), INDEX);
        refused(Bounds::lived, x -> x.fit(SHORTS_24, SHORTS, 9, 8), INDEX);
    }

    static void p26_fromFarOut_isIndex() {
        refused(Bounds::lived, x -> x.fit(SIX_BYTES, BYTES, MIN, 1), INDEX);
        refused(Bounds::lived, x -> x.fit(SIX_BYTES, BYTES, MAX, 8), INDEX);
        refused(Bounds::lived, x -> x.fit(SIX_BYTES, BYTES, MAX - 1, 1), INDEX);
    }

    static void p26_sheetOf0Items_isIndex() {
        refused(row(BYTES), x -> x.fit(0, BYTES, 0, 1), INDEX);
    }

    static void p26_indexIsAheadOfNot() {
        refused(row(BYTES, 9, 9, 9), x -> x.fit(0, BYTES, 0, 2), INDEX);
    }

    static void p26_oneDrawingAtTheEnd_isRead() {
        asked(row(BYTES, 9, 9, 1, 6), x -> x.fit(0, BYTES, 2, 1), 1 << 10);
    }

    static void p26_eightDrawings_areRead() {
        asked(row(SHORTS, 0, 9, 0, 9, 0, 9, 0, 9, 0, 9, 0, 8, 0, 7, 0, 6), x -> x.fit(0, SHORTS, 0, 8), 1 << 18);
        asked(row(SHORTS, 0, 9, 0, 9, 0, 9, 0, 9, 0, 9, 0, 8, 0, 7, 0, 7), x -> x.fit(0, SHORTS, 0, 8), 0);
    }

    static void p26_eightDrawingsFromTheEighthItemOf24_areRead() {
        Past past = x -> {
            Due.village(x, "p-1");
            x.sheet(0, SHORTS, 24);
        };
        asked(past, x -> x.fit(0, SHORTS, 8, 8), 63);
    }

    static void p26_behindTheN_isNotLookedAt() {
        asked(row(BYTES, 0, 4, 9, 10), x -> x.fit(0, BYTES, 0, 1), 1 << 9);
    }

    static void p26_oneBelow0_isNot() {
        refused(row(BYTES, -1, 4), x -> x.fit(0, BYTES, 0, 1), NOT);
    }

    static void p26_oneBehindTheLast_isNot() {
        refused(row(BYTES, 4, 4), x -> x.fit(0, BYTES, 0, 1), NOT);
    }

    static void p26_none9_isNot() {
        refused(row(BYTES, 9, 0), x -> x.fit(0, BYTES, 0, 1), NOT);
    }

    static void p26_lastOfFolk_isRead() {
        asked(row(BYTES, 3, 2), x -> x.fit(0, BYTES, 0, 1), 1 << 9);
    }

    static void p26_nobodyThere_isNot() {
        refused(x -> fill(x, 0, BYTES, 0, 0), x -> x.fit(0, BYTES, 0, 1), NOT);
    }

    static void p26_pailsBelow0_isNot() {
        refused(row(BYTES, 0, -1), x -> x.fit(0, BYTES, 0, 1), NOT);
    }

    static void p26_pailsAbove9_isNot() {
        refused(row(BYTES, 0, 10), x -> x.fit(0, BYTES, 0, 1), NOT);
    }

    static void p26_lastDrawingOfSome_isNot() {
        refused(row(BYTES, 0, 4, 0, 4, 0, 10), x -> x.fit(0, BYTES, 0, 3), NOT);
        refused(row(BYTES, 0, 4, 0, 4, 4, 4), x -> x.fit(0, BYTES, 0, 3), NOT);
    }

    static void p26_notThoughNoMoodWouldFitAhead() {
        refused(row(BYTES, 0, 9, 0, 0, 0, 10), x -> x.fit(0, BYTES, 0, 3), NOT);
    }

    static void p26_longsFarOut_isNot() {
        refused(row(LONGS, 1L << 32, 4), x -> x.fit(0, LONGS, 0, 1), NOT);
        refused(row(LONGS, 0, (1L << 32) + 4), x -> x.fit(0, LONGS, 0, 1), NOT);
        refused(row(LONGS, Long.MIN_VALUE, 4), x -> x.fit(0, LONGS, 0, 1), NOT);
        refused(row(LONGS, 0, Long.MIN_VALUE + 4), x -> x.fit(0, LONGS, 0, 1), NOT);
    }

    static void p26_pails0_allMoodsDownToBit0() {
        asked(row(BYTES, 0, 0), x -> x.fit(0, BYTES, 0, 1), 63);
    }

    static void p26_pails9_allMoodsUpToBit18() {
        asked(row(BYTES, 0, 9), x -> x.fit(0, BYTES, 0, 1), 31 << 14);
    }

    static void p26_noMoodFits_emptySet() {
        asked(row(BYTES, 0, 4, 0, 9), x -> x.fit(0, BYTES, 0, 2), 0);
    }

    static void p26_level0_isEnough() {
        Past past = x -> {
            row(BYTES, 0, 9).lead(x);
            x.set(1, 0);
        };
        asked(past, x -> x.fit(0, BYTES, 0, 1), 31 << 14);
    }

    static void p26_restsAndQuarrels_areNothing() {
        Past past = x -> {
            Due.village(x, "pr9,sr9");
            x.quarrel(0, 1, true);
            x.draw(0);
            fill(x, 0, BYTES, 1, 5, 0, 4, 0, 4, 1, 5);
        };
        asked(past, x -> x.fit(0, BYTES, 0, 4), 1 << 9);
    }

    static void p26_moodNoMoreThan9BetweenDrawings() {
        Past past = x -> {
            Due.village(x, "s+3,m");
            fill(x, 0, BYTES, 0, 9, 1, 9, 1, 9, 1, 8);
        };
        due("7, 8, 9: 8, 7, 6 then; 6: 8, 7, 6; 5: 7, 6, 5", after(past).fit(0, BYTES, 0, 3), 15 << 15);
        asked(past, x -> x.fit(0, BYTES, 0, 4), 15 << 15);
    }

    static void p26_moodNoLessThanMinus9BetweenDrawings() {
        Past past = x -> {
            Due.village(x, "s-3,s");
            fill(x, 0, BYTES, 0, 0, 1, 0, 1, 0, 1, 0, 1, 0, 1, 1);
        };
        due("-9 .. -6: -8, then -7, -6, -5, -4", after(past).fit(0, BYTES, 0, 6), 15);
    }

    // ---- 27 film

    static void p27_oneBelow0_isBad() {
        refused(Bounds::lived, x -> x.film(-1, SHORTS_24, SHORTS, 0), BAD);
    }

    static void p27_oneBehindTheLast_isBad() {
        refused(Bounds::lived, x -> x.film(4, SHORTS_24, SHORTS, 0), BAD);
    }

    static void p27_nobodyThere_isBad() {
        refused(x -> x.sheet(0, BYTES, 24), x -> x.film(0, 0, BYTES, 0), BAD);
    }

    static void p27_sheetBelow0_isBad() {
        refused(Bounds::lived, x -> x.film(0, -1, SHORTS, 0), BAD);
    }

    static void p27_sheetAbove3_isBad() {
        refused(Bounds::lived, x -> x.film(0, 4, SHORTS, 0), BAD);
    }

    static void p27_laneBelow0_isBad() {
        refused(Bounds::lived, x -> x.film(0, SHORTS_24, -1, 0), BAD);
    }

    static void p27_laneAbove2_isBad() {
        refused(Bounds::lived, x -> x.film(0, SHORTS_24, 3, 0), BAD);
    }

    static void p27_farOut_isBad() {
        for (int far : new int[] {MIN, MAX}) {
            refused(Bounds::lived, x -> x.film(far, SHORTS_24, SHORTS, 0), BAD);
            refused(Bounds::lived, x -> x.film(0, far, SHORTS, 0), BAD);
            refused(Bounds::lived, x -> x.film(0, SHORTS_24, far, 0), BAD);
        }
    }

    static void p27_sheetHoldsNothing_isNull() {
        refused(Bounds::lived, x -> x.film(0, NOTHING, SHORTS, 0), NULL);
    }

    static void p27_badIsAheadOfNull() {
        refused(Bounds::lived, x -> x.film(4, NOTHING, SHORTS, 0), BAD);
        refused(Bounds::lived, x -> x.film(0, NOTHING, 3, 0), BAD);
    }

    static void p27_nullIsAheadOfCast() {
        refused(Bounds::lived, x -> x.film(0, NOTHING, LONGS, 0), NULL);
    }

    static void p27_nullIsAheadOfIndex() {
        refused(Bounds::lived, x -> x.film(0, NOTHING, SHORTS, -1), NULL);
    }

    static void p27_anotherLane_isCast() {
        refused(Bounds::lived, x -> x.film(0, SHORTS_24, BYTES, 0), CAST);
        refused(Bounds::lived, x -> x.film(0, SHORTS_24, LONGS, 0), CAST);
    }

    static void p27_badIsAheadOfCast() {
        refused(Bounds::lived, x -> x.film(4, SHORTS_24, BYTES, 0), BAD);
    }

    static void p27_castIsAheadOfIndex() {
        refused(Bounds::lived, x -> x.film(0, SHORTS_24, BYTES, 6), CAST);
    }

    static void p27_fromBelow0_isIndex() {
        refused(Bounds::lived, x -> x.film(0, SHORTS_24, SHORTS, -1), INDEX);
    }

    static void p27_lastItemBehindTheEnd_isIndex() {
        refused(Bounds::lived, x -> x.film(0, SHORTS_24, SHORTS, 6), INDEX);
    }

    static void p27_fromFarOut_isIndex() {
        refused(Bounds::lived, x -> x.film(0, SHORTS_24, SHORTS, MIN), INDEX);
        refused(Bounds::lived, x -> x.film(0, SHORTS_24, SHORTS, MAX), INDEX);
        refused(Bounds::lived, x -> x.film(0, SHORTS_24, SHORTS, MAX - 18), INDEX);
    }

    static void p27_sheetOf18Items_isIndex() {
        refused(x -> x.sheet(0, BYTES, x.folk(0, 0, 1) + 18), x -> x.film(0, 0, BYTES, 0), INDEX);
    }

    static void p27_sheetOf0Items_isIndex() {
        refused(x -> x.sheet(0, BYTES, x.folk(0, 0, 1)), x -> x.film(0, 0, BYTES, 0), INDEX);
    }

    /** The MOODS that fit items i and i + 1 of a SHEET. */
    private static int fitAt(WellMoods x, int lane, int i) {
        return x.fit(0, lane, i, 1);
    }

    static void p27_sheetOf19Items_isFilled() {
        WellMoods x = Due.well("s,s,s,s,s,s");
        x.sheet(0, LONGS, 19);
        due("film", x.film(0, 0, LONGS, 0), 19);
        due("its first two: 0, 0", fitAt(x, LONGS, 0), 31);
        due("at moods -5, -4: 0, 1", fitAt(x, LONGS, 4), 1 << 5);
        due("at moods 0, 1: 5, 6", fitAt(x, LONGS, 9), 1 << 10);
        due("at moods 8, 9: 9, 9", fitAt(x, LONGS, 17), NOT);
        x.item(0, LONGS, 17, 0);
        due("at mood 9: 9", fitAt(x, LONGS, 17), 63 << 13);
    }

    static void p27_from5Of24_filledToTheEnd() {
        WellMoods x = Due.well("s");
        fill(x, 0, BYTES, new long[24]);
        x.item(0, BYTES, 4, 3);
        due("film", x.film(0, 0, BYTES, 5), 19);
        due("the item ahead stays", fitAt(x, BYTES, 3), 1 << 7);
        x.item(0, BYTES, 22, 0);
        due("the last: 9", fitAt(x, BYTES, 22), 63 << 13);
    }

    static void p27_from0Of24_itemsBehindStay() {
        WellMoods x = Due.well("s");
        fill(x, 0, BYTES, new long[24]);
        x.item(0, BYTES, 20, 3);
        x.film(0, 0, BYTES, 0);
        due("the 20th, 21st: 0, 3", fitAt(x, BYTES, 19), 1 << 7);
    }

    static void p27_saltWithoutPails_10More() {
        WellMoods x = Due.well("v");
        fill(x, 0, BYTES, new long[24]);
        x.film(0, 0, BYTES, 1);
        due("10 are no pails", fitAt(x, BYTES, 0), NOT);
    }

    static void p27_foeOfWhoDrewAhead_pails() {
        WellMoods x = Due.well("s,p");
        x.quarrel(0, 1, true);
        x.draw(1);
        fill(x, 0, BYTES, new long[19]);
        x.film(0, 0, BYTES, 0);
        due("at moods 0, 1: 5, 6", fitAt(x, BYTES, 9), NOT);
        x.item(0, BYTES, 9, 0);
        due("at mood 1: 6", fitAt(x, BYTES, 9), 1 << 10);
    }

    static void p27_level0_noPails() {
        WellMoods x = Due.well("s");
        fill(x, 0, BYTES, new long[19]);
        x.set(1, 0);
        x.film(0, 0, BYTES, 0);
        due("the last two: 0, 0", fitAt(x, BYTES, 17), 31);
    }

    // ---- 28 sheet

    static void p28_sheetBelow0_isBad() {
        refused(Bounds::lived, x -> x.sheet(-1, BYTES, 1), BAD);
    }

    static void p28_sheetAbove3_isBad() {
        refused(Bounds::lived, x -> x.sheet(4, BYTES, 1), BAD);
    }

    static void p28_laneBelow0_isBad() {
        refused(Bounds::lived, x -> x.sheet(SIX_BYTES, -1, 1), BAD);
    }

    static void p28_laneAbove2_isBad() {
        refused(Bounds::lived, x -> x.sheet(SIX_BYTES, 3, 1), BAD);
    }

    static void p28_nAbove24_isBad() {
        refused(Bounds::lived, x -> x.sheet(SIX_BYTES, BYTES, 25), BAD);
        refused(Bounds::lived, x -> x.sheet(NOTHING, BYTES, 25), BAD);
    }

    static void p28_nBelow0_isSize() {
        refused(Bounds::lived, x -> x.sheet(SIX_BYTES, BYTES, -1), SIZE);
        refused(Bounds::lived, x -> x.sheet(NOTHING, BYTES, -1), SIZE);
    }

    static void p28_farOut() {
        refused(Bounds::lived, x -> x.sheet(MIN, BYTES, 1), BAD);
        refused(Bounds::lived, x -> x.sheet(MAX, BYTES, 1), BAD);
        refused(Bounds::lived, x -> x.sheet(0, MIN, 1), BAD);
        refused(Bounds::lived, x -> x.sheet(0, MAX, 1), BAD);
        refused(Bounds::lived, x -> x.sheet(0, BYTES, MAX), BAD);
        refused(Bounds::lived, x -> x.sheet(0, BYTES, MIN), SIZE);
    }

    static void p28_badIsAheadOfSize() {
        refused(Bounds::lived, x -> x.sheet(4, BYTES, -1), BAD);
        refused(Bounds::lived, x -> x.sheet(0, 3, -1), BAD);
    }

    static void p28_n0_isARowOfNoItems() {
        WellMoods x = after(Bounds::lived);
        due("sheet", x.sheet(NOTHING, BYTES, 0), 0);
        due("it has no first", x.item(NOTHING, BYTES, 0, 1), INDEX);
        due("it is there", x.drop(NOTHING), 0);
    }

    static void p28_n24_isARowOf24() {
        WellMoods x = after(Bounds::lived);
        due("sheet", x.sheet(NOTHING, LONGS, 24), 24);
        due("its last", x.item(NOTHING, LONGS, 23, 1), 1);
        due("none behind it", x.item(NOTHING, LONGS, 24, 1), INDEX);
    }

    static void p28_inPlaceOfAnother_itsItemsAre0() {
        WellMoods x = Due.well("p");
        fill(x, 0, BYTES, 5, 5, 5, 5);
        due("sheet", x.sheet(0, BYTES, 4), 4);
        due("fit", x.fit(0, BYTES, 0, 2), 31);
    }

    static void p28_inPlaceOfAnother_itIsOfTheNewLane() {
        WellMoods x = after(Bounds::lived);
        x.sheet(SIX_BYTES, LONGS, 2);
        due("of the earlier one", x.item(SIX_BYTES, BYTES, 0, 1), CAST);
        due("of the new one", x.item(SIX_BYTES, LONGS, 0, 1), 1);
    }

    static void p28_longerBehindShorter_allItemsAre0() {
        WellMoods x = Due.well("p");
        fill(x, 0, BYTES, 5, 5, 5, 5);
        x.sheet(0, BYTES, 1);
        x.sheet(0, BYTES, 4);
        due(x.fit(0, BYTES, 0, 2), 31);
    }

    // ---- 29 drop

    static void p29_sheetBelow0_isBad() {
        refused(Bounds::lived, x -> x.drop(-1), BAD);
    }

    static void p29_sheetAbove3_isBad() {
        refused(Bounds::lived, x -> x.drop(4), BAD);
    }

    static void p29_sheetFarOut_isBad() {
        refused(Bounds::lived, x -> x.drop(MIN), BAD);
        refused(Bounds::lived, x -> x.drop(MAX), BAD);
    }

    static void p29_sheetHoldsNothing_isNull() {
        refused(Bounds::lived, x -> x.drop(NOTHING), NULL);
    }

    static void p29_twice_isNull() {
        WellMoods x = after(Bounds::lived);
        due("drop", x.drop(SIX_BYTES), 6);
        due("again", x.drop(SIX_BYTES), NULL);
        due("the next one stays", x.drop(SHORTS_24), 24);
    }

    static void p29_of0Items_0() {
        answers(x -> x.sheet(3, LONGS, 0), x -> x.drop(3), 0);
    }

    static void p29_of24Items_24() {
        answers(x -> x.sheet(3, LONGS, 24), x -> x.drop(3), 24);
    }

    static void p29_dropped_isNullInAllCalls() {
        Past past = x -> {
            settled(x);
            x.drop(SIX_BYTES);
        };
        refused(past, x -> x.fit(SIX_BYTES, BYTES, 0, 1), NULL);
        refused(past, x -> x.film(0, SIX_BYTES, BYTES, 0), NULL);
        refused(past, x -> x.item(SIX_BYTES, BYTES, 0, 1), NULL);
        refused(past, x -> x.copy(SIX_BYTES, 0, SHORTS_24, 0, 0), NULL);
    }

    static void p29_droppedAndMadeAnew_itsItemsAre0() {
        WellMoods x = Due.well("p");
        fill(x, 0, BYTES, 5, 5, 5, 5);
        x.drop(0);
        x.sheet(0, BYTES, 4);
        due(x.fit(0, BYTES, 0, 2), 31);
    }

    // ---- 30 item

    static void p30_sheetBelow0_isBad() {
        refused(Bounds::lived, x -> x.item(-1, BYTES, 0, 1), BAD);
    }

    static void p30_sheetAbove3_isBad() {
        refused(Bounds::lived, x -> x.item(4, BYTES, 0, 1), BAD);
    }

    static void p30_laneBelow0_isBad() {
        refused(Bounds::lived, x -> x.item(SIX_BYTES, -1, 0, 1), BAD);
    }

    static void p30_laneAbove2_isBad() {
        refused(Bounds::lived, x -> x.item(SIX_BYTES, 3, 0, 1), BAD);
    }

    static void p30_farOut_isBad() {
        for (int far : new int[] {MIN, MAX}) {
            refused(Bounds::lived, x -> x.item(far, BYTES, 0, 1), BAD);
            refused(Bounds::lived, x -> x.item(SIX_BYTES, far, 0, 1), BAD);
        }
    }

    static void p30_sheetHoldsNothing_isNull() {
        refused(Bounds::lived, x -> x.item(NOTHING, BYTES, 0, 1), NULL);
    }

    static void p30_badIsAheadOfNull() {
        refused(Bounds::lived, x -> x.item(NOTHING, 3, 0, 1), BAD);
    }

    static void p30_nullIsAheadOfCast() {
        refused(Bounds::lived, x -> x.item(NOTHING, LONGS, 0, 1), NULL);
    }

    static void p30_nullIsAheadOfIndex() {
        refused(Bounds::lived, x -> x.item(NOTHING, BYTES, -1, 1), NULL);
    }

    static void p30_anotherLane_isCast() {
        refused(Bounds::lived, x -> x.item(SIX_BYTES, SHORTS, 0, 1), CAST);
        refused(Bounds::lived, x -> x.item(SHORTS_24, LONGS, 0, 1), CAST);
        refused(Bounds::lived, x -> x.item(FIVE_LONGS, BYTES, 0, 1), CAST);
    }

    static void p30_castIsAheadOfIndex() {
        refused(Bounds::lived, x -> x.item(SIX_BYTES, SHORTS, 6, 1), CAST);
    }

    static void p30_iBelow0_isIndex() {
        refused(Bounds::lived, x -> x.item(SIX_BYTES, BYTES, -1, 1), INDEX);
    }

    static void p30_iAsMuchAsThereAre_isIndex() {
        refused(Bounds::lived, x -> x.item(SIX_BYTES, BYTES, 6, 1), INDEX);
        refused(Bounds::lived, x -> x.item(SHORTS_24, SHORTS, 24, 1), INDEX);
    }

    static void p30_iFarOut_isIndex() {
        refused(Bounds::lived, x -> x.item(SIX_BYTES, BYTES, MIN, 1), INDEX);
        refused(Bounds::lived, x -> x.item(SIX_BYTES, BYTES, MAX, 1), INDEX);
    }

    static void p30_sheetOf0Items_isIndex() {
        refused(x -> x.sheet(0, BYTES, 0), x -> x.item(0, BYTES, 0, 1), INDEX);
    }

    static void p30_firstAndLast_become() {
        WellMoods x = Due.well("p,s");
        fill(x, 0, BYTES, 0, 0, 0);
        due("first", x.item(0, BYTES, 0, 1), 1);
        due("last", x.item(0, BYTES, 2, 6), 1);
        due("1, 0", x.fit(0, BYTES, 0, 1), 31);
        due("0, 6", x.fit(0, BYTES, 1, 1), 1 << 11);
    }

    /** An item that becomes v and then is read as so many PAILS of p; NOT: it is none of 0 .. 9. */
    private static void becomes(int lane, long v, int pails) {
        WellMoods x = Due.well("p");
        fill(x, 0, lane, 0, v);
        due("of " + v, x.fit(0, lane, 0, 1), pails == NOT ? NOT : 1 << pails + 5);
    }

    static void p30_byte255_isMinus1() {
        becomes(BYTES, 255, NOT);
    }

    static void p30_byteAbove255_itsLowest8Bits() {
        becomes(BYTES, 256 + 4, 4);
        becomes(BYTES, Long.MAX_VALUE - 255 + 4, 4);
    }

    static void p30_byteBelow0_itsLowest8Bits() {
        becomes(BYTES, -256 + 4, 4);
        becomes(BYTES, Long.MIN_VALUE + 4, 4);
    }

    static void p30_byte128More_isBelow0() {
        becomes(BYTES, 128 + 4, NOT);
    }

    static void p30_shortOf256More_isNotCutTo8Bits() {
        becomes(SHORTS, 256 + 4, NOT);
    }

    static void p30_shortAbove65535_itsLowest16Bits() {
        becomes(SHORTS, 65536 + 4, 4);
        becomes(SHORTS, Long.MIN_VALUE + 4, 4);
    }

    static void p30_shortBelow0_itsLowest16Bits() {
        becomes(SHORTS, -65536 + 4, 4);
    }

    static void p30_short32768More_isBelow0() {
        becomes(SHORTS, 32768 + 4, NOT);
    }

    static void p30_longs_allBits() {
        becomes(LONGS, 4, 4);
        becomes(LONGS, 65536 + 4, NOT);
        becomes(LONGS, (1L << 32) + 4, NOT);
        becomes(LONGS, Long.MIN_VALUE + 4, NOT);
    }

    // ---- 31 copy

    static void p31_fromBelow0_isBad() {
        refused(Bounds::lived, x -> x.copy(-1, 0, SIX_BYTES, 0, 1), BAD);
    }

    static void p31_fromAbove3_isBad() {
        refused(Bounds::lived, x -> x.copy(4, 0, SIX_BYTES, 0, 1), BAD);
    }

    static void p31_toBelow0_isBad() {
        refused(Bounds::lived, x -> x.copy(SIX_BYTES, 0, -1, 0, 1), BAD);
    }

    static void p31_toAbove3_isBad() {
        refused(Bounds::lived, x -> x.copy(SIX_BYTES, 0, 4, 0, 1), BAD);
    }

    static void p31_farOut_isBad() {
        for (int far : new int[] {MIN, MAX}) {
            refused(Bounds::lived, x -> x.copy(far, 0, SIX_BYTES, 0, 1), BAD);
            refused(Bounds::lived, x -> x.copy(SIX_BYTES, 0, far, 0, 1), BAD);
        }
    }

    static void p31_firstHoldsNothing_isNull() {
        refused(Bounds::lived, x -> x.copy(NOTHING, 0, SIX_BYTES, 0, 1), NULL);
    }

    static void p31_otherHoldsNothing_isNull() {
        refused(Bounds::lived, x -> x.copy(SIX_BYTES, 0, NOTHING, 0, 1), NULL);
    }

    static void p31_bothHoldNothing_isNull() {
        refused(Bounds::lived, x -> x.copy(NOTHING, 0, NOTHING, 0, 0), NULL);
    }

    static void p31_badIsAheadOfNull() {
        refused(Bounds::lived, x -> x.copy(NOTHING, 0, 4, 0, 1), BAD);
        refused(Bounds::lived, x -> x.copy(4, 0, NOTHING, 0, 1), BAD);
    }

    static void p31_nullIsAheadOfCast() {
        refused(Bounds::lived, x -> x.copy(FIVE_LONGS, 0, NOTHING, 0, 1), NULL);
        refused(Bounds::lived, x -> x.copy(NOTHING, 0, FIVE_LONGS, 0, 1), NULL);
    }

    static void p31_nullIsAheadOfIndex() {
        refused(Bounds::lived, x -> x.copy(SIX_BYTES, -1, NOTHING, 0, -1), NULL);
    }

    static void p31_unlikeLanes_isCast() {
        refused(Bounds::lived, x -> x.copy(SIX_BYTES, 0, SHORTS_24, 0, 1), CAST);
        refused(Bounds::lived, x -> x.copy(FIVE_LONGS, 0, SHORTS_24, 0, 0), CAST);
    }

    static void p31_castIsAheadOfIndex() {
        refused(Bounds::lived, x -> x.copy(SIX_BYTES, -1, SHORTS_24, 25, -1), CAST);
    }

    /** Two SHEETS of bytes: 0 of six items, 1 of three. */
    private static void two(WellMoods x) {
        Due.village(x, "p,s,v,m");
        fill(x, 0, BYTES, 0, 1, 2, 3, 2, 1);
        fill(x, 1, BYTES, 3, 0, 3);
    }

    static void p31_nBelow0_isIndex() {
        refused(SheetsBoundsTest::two, x -> x.copy(0, 0, 1, 0, -1), INDEX);
        refused(SheetsBoundsTest::two, x -> x.copy(0, 3, 1, 3, -1), INDEX);
    }

    static void p31_iBelow0_isIndex() {
        refused(SheetsBoundsTest::two, x -> x.copy(0, -1, 1, 0, 1), INDEX);
    }

    static void p31_jBelow0_isIndex() {
        refused(SheetsBoundsTest::two, x -> x.copy(0, 0, 1, -1, 1), INDEX);
    }

    static void p31_lastTakenBehindTheEnd_isIndex() {
        refused(SheetsBoundsTest::two, x -> x.copy(0, 4, 1, 0, 3), INDEX);
    }

    static void p31_lastPutBehindTheEnd_isIndex() {
        refused(SheetsBoundsTest::two, x -> x.copy(0, 0, 1, 1, 3), INDEX);
    }

    static void p31_n0AtBothEnds_0() {
        unchanged(SheetsBoundsTest::two, x -> x.copy(0, 6, 1, 3, 0), 0);
    }

    static void p31_n0WithIBelow0_isIndex() {
        refused(SheetsBoundsTest::two, x -> x.copy(0, -1, 1, 0, 0), INDEX);
    }

    static void p31_n0WithJBelow0_isIndex() {
        refused(SheetsBoundsTest::two, x -> x.copy(0, 0, 1, -1, 0), INDEX);
    }

    static void p31_n0WithIAboveHowManyThereAre_isIndex() {
        refused(SheetsBoundsTest::two, x -> x.copy(0, 7, 1, 3, 0), INDEX);
    }

    static void p31_n0WithJAboveHowManyThereAre_isIndex() {
        refused(SheetsBoundsTest::two, x -> x.copy(0, 6, 1, 4, 0), INDEX);
    }

    static void p31_n0OfRowsOfNoItems_0() {
        Past past = x -> {
            x.sheet(0, BYTES, 0);
            x.sheet(1, BYTES, 0);
        };
        unchanged(past, x -> x.copy(0, 0, 1, 0, 0), 0);
        refused(past, x -> x.copy(0, 0, 1, 0, 1), INDEX);
    }

    static void p31_farOut_isIndex() {
        refused(SheetsBoundsTest::two, x -> x.copy(0, 0, 1, 0, MIN), INDEX);
        refused(SheetsBoundsTest::two, x -> x.copy(0, 0, 1, 0, MAX), INDEX);
        refused(SheetsBoundsTest::two, x -> x.copy(0, MAX, 1, 0, 1), INDEX);
        refused(SheetsBoundsTest::two, x -> x.copy(0, 0, 1, MAX, 1), INDEX);
        refused(SheetsBoundsTest::two, x -> x.copy(0, MAX, 1, MAX, MAX), INDEX);
        refused(SheetsBoundsTest::two, x -> x.copy(0, MIN, 1, MIN, MIN), INDEX);
        refused(SheetsBoundsTest::two, x -> x.copy(0, MIN, 1, 0, 0), INDEX);
    }

    /** SHEET 0 has become these items, 0 .. 3 each. */
    private static void holds(WellMoods x, int... items) {
        for (int i = 0; i + 1 < items.length; i++) {
            int base = items[i] == 1 ? 5 : items[i] == 3 ? 2 : 4;
            int pails = items[i + 1];
            int set = 0;
            for (int mood = -9; mood <= 9; mood++) {
                set |= Math.max(0, Math.min(9, base + mood)) == pails ? 1 << mood + 9 : 0;
            }
            due("items " + i + ", " + (i + 1), x.fit(0, BYTES, i, 1), set);
        }
        due("how many", x.drop(0), items.length);
    }

    static void p31_all_areCopied() {
        WellMoods x = after(SheetsBoundsTest::two);
        due("copy", x.copy(1, 0, 0, 3, 3), 3);
        holds(x, 0, 1, 2, 3, 0, 3);
    }

    static void p31_toItsEnd_isCopied() {
        WellMoods x = after(SheetsBoundsTest::two);
        due("copy", x.copy(1, 2, 0, 5, 1), 1);
        holds(x, 0, 1, 2, 3, 2, 3);
    }

    static void p31_theSameSheetAhead_asIfTakenAhead() {
        WellMoods x = after(SheetsBoundsTest::two);
        due("copy", x.copy(0, 1, 0, 0, 5), 5);
        holds(x, 1, 2, 3, 2, 1, 1);
    }

    static void p31_theSameSheetBehind_asIfTakenAhead() {
        WellMoods x = after(SheetsBoundsTest::two);
        due("copy", x.copy(0, 0, 0, 1, 5), 5);
        holds(x, 0, 0, 1, 2, 3, 2);
    }

    static void p31_theSamePlace_nothingChanges() {
        unchanged(SheetsBoundsTest::two, x -> x.copy(0, 0, 0, 0, 6), 6);
    }

    static void p31_24Items_areCopied() {
        WellMoods x = Due.well("p");
        x.sheet(0, SHORTS, 24);
        x.sheet(1, SHORTS, 24);
        x.item(1, SHORTS, 23, 4);
        due("copy", x.copy(1, 0, 0, 0, 24), 24);
        due("the last", x.fit(0, SHORTS, 22, 1), 1 << 9);
    }
}
