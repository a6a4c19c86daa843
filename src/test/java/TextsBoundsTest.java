/** The boundaries that promises 8 and 9 name, and FAULTS; a test each. */
final class TextsBoundsTest extends Bounds {
    public static void main(String[] args) {
        runAll(TextsBoundsTest.class);
    }

    private static final String SIXTY_BLANKS = " ".repeat(60);

    /** This text is no village: the byte at this place can't stand there; those told stay. */
    private static void noVillage(String text, int place) {
        refusedText(Bounds::settled, text, x -> x.village(), -20 - place);
    }

    /** This text is a village of one with these FEELS and RESTS. */
    private static void one(String text, int feels, int rests) {
        WellMoods x = after(Bounds::settled);
        due("of '" + text + "'", Due.village(x, text), 1);
        due("feels", x.told(0, 1), feels);
        due("rests", x.told(0, 2), rests);
    }

    // ---- 8 village: how many

    static void p08_emptyTape_faultAtTheEnd() {
        noVillage("", 0);
    }

    static void p08_blankAlone_faultAtTheEnd() {
        noVillage(" ", 1);
    }

    static void p08_sixtyBlanks_faultAtTheEnd() {
        noVillage(SIXTY_BLANKS, 60);
    }

    static void p08_oneOfFolk() {
        answers(Bounds::settled, x -> Due.village(x, "m"), 1);
    }

    static void p08_sixOfFolk() {
        WellMoods x = after(Bounds::settled);
        due("village", Due.village(x, "p,s,v,m,p,s"), 6);
        due("how many", x.is(6), 6);
        due("the sixth", x.told(5, 0), 1);
    }

    static void p08_seventh_faultAtTheCommaAheadOfHim() {
        noVillage("p,s,v,m,p,s,v", 11);
    }

    static void p08_commaBehindSix_fault() {
        noVillage("p,s,v,m,p,s,", 11);
    }

    static void p08_fewerThanThereWere_theOthersAreGone() {
        WellMoods x = after(Bounds::six);
        Due.village(x, "p,s");
        due("how many", x.is(6), 2);
        due("the third", x.told(2, 0), BAD_APART);
        due("who may", x.may(), 3);
    }

    static void p08_sixtyBytes_areRead() {
        String text = "p+3r9,s-3r9,v+3r9,m-3r9,p+3r9,s-3r9";
        WellMoods x = after(Bounds::settled);
        due("village", Due.village(x, text + " ".repeat(60 - text.length())), 6);
    }

    // ---- 8 village: kinds

    static void p08_eachKindSign() {
        WellMoods x = after(Bounds::settled);
        Due.village(x, "p,s,v,m");
        for (int kind = 0; kind <= 3; kind++) {
            due("kind", x.told(kind, 0), kind);
        }
    }

    static void p08_capitalKind_fault() {
        noVillage("P", 0);
    }

    static void p08_otherLetter_fault() {
        noVillage("q", 0);
    }

    static void p08_r_isNoKind() {
        noVillage("r1", 0);
    }

    static void p08_greatestByte_fault() {
        noVillage("p~", 1);
    }

    // ---- 8 village: feels

    static void p08_feelsAndRestsNotTold_0And1() {
        one("p", 0, 1);
    }

    static void p08_feelsPlus0_is0() {
        one("p+0", 0, 1);
    }

    static void p08_feelsMinus0_is0() {
        one("p-0", 0, 1);
    }

    static void p08_feelsPlus3_is3() {
        one("p+3", 3, 1);
    }

    static void p08_feelsMinus3_isMinus3() {
        one("p-3", -3, 1);
    }

    static void p08_feelsPlus4_fault() {
        noVillage("p+4", 2);
    }

    static void p08_feelsMinus4_fault() {
        noVillage("p-4", 2);
    }

    static void p08_feels9_fault() {
        noVillage("p+9", 2);
    }

    static void p08_signAtTheEnd_fault() {
        noVillage("p+", 2);
    }

    static void p08_signThenBlankAtTheEnd_faultBehindTheBlank() {
        noVillage("p- ", 3);
    }

    static void p08_signThenComma_fault() {
        noVillage("p+,s", 2);
    }

    static void p08_signThenRests_fault() {
        noVillage("p-r2", 2);
    }

    static void p08_twoSigns_fault() {
        noVillage("p+-1", 2);
    }

    static void p08_digitWithoutSign_fault() {
        noVillage("p2", 1);
    }

    static void p08_feelsOfTwoDigits_fault() {
        noVillage("p+12", 3);
    }

    static void p08_feelsTwice_fault() {
        noVillage("p+1-1", 3);
    }

    // ---- 8 village: rests

    static void p08_rests1_is1() {
        one("pr1", 0, 1);
    }

    static void p08_rests9_is9() {
        one("pr9", 0, 9);
    }

    static void p08_rests0_fault() {
        noVillage("pr0", 2);
    }

    static void p08_restsAtTheEnd_fault() {
        noVillage("pr", 2);
    }

    static void p08_restsThenComma_fault() {
        noVillage("pr,s", 2);
    }

    static void p08_restsBelow0_fault() {
        noVillage("pr-1", 2);
    }

    static void p08_restsOfTwoDigits_fault() {
        noVillage("pr10", 3);
    }

    static void p08_restsTwice_fault() {
        noVillage("pr1r2", 3);
    }

    static void p08_restsAheadOfFeels_fault() {
        noVillage("pr1+2", 3);
    }

    // ---- 8 village: commas, blanks

    static void p08_commaFirst_fault() {
        noVillage(",p", 0);
    }

    static void p08_commaLast_faultAtTheEnd() {
        noVillage("p,", 2);
    }

    static void p08_commaThenBlanks_faultAtTheEnd() {
        noVillage("p,  ", 4);
    }

    static void p08_twoCommas_fault() {
        noVillage("p,,s", 2);
    }

    static void p08_noComma_fault() {
        noVillage("ps", 1);
    }

    static void p08_blankInPlaceOfAComma_faultBehindTheBlank() {
        noVillage("p s", 2);
    }

    static void p08_blanksArePlaces() {
        noVillage("  p +  x", 7);
    }

    static void p08_blanksBetween_arePassedOver() {
        one("  p  -  2  r  7  ", -2, 7);
    }

    static void p08_firstPlace_fault() {
        noVillage("x" + " ".repeat(59), 0);
    }

    static void p08_lastPlace_fault() {
        noVillage(" ".repeat(59) + "x", 59);
    }

    static void p08_endBehindSixtyBytes_fault() {
        noVillage("p," + " ".repeat(58), 60);
    }

    static void p08_ofTwoFaults_theFirst() {
        noVillage("p+4,q", 2);
    }

    // ---- 8 village: what stays, what goes

    static void p08_theTapeIsEmptyThen() {
        WellMoods x = after(Bounds::settled);
        Due.village(x, "p");
        due("behind a village", x.type('p', 1), 1);
        x.type(',', 1);
        x.village();
        due("behind a fault", x.type('p', 1), 1);
    }

    static void p08_noPlanThen() {
        WellMoods x = after(Bounds::settled);
        Due.village(x, "p,s,v,m");
        due("hours", x.is(7), 0);
        due("run", x.run(), 0);
    }

    static void p08_fault_thePlanStays() {
        WellMoods x = after(Bounds::settled);
        Due.village(x, "p,");
        due(x.is(7), 4);
    }

    static void p08_noQuarrelsThen() {
        WellMoods x = after(Bounds::settled);
        Due.village(x, "p,s,v,m");
        for (int one = 0; one < 4; one++) {
            due("of " + one, x.told(one, 4), 0);
        }
    }

    static void p08_allHaveRestedThen() {
        WellMoods x = after(Bounds::settled);
        due("some ahead", x.may() == 15 ? 1 : 0, 0);
        Due.village(x, "pr9,sr9,vr9,mr9");
        due("all behind", x.may(), 15);
    }

    static void p08_nobodyDrewAheadThen() {
        WellMoods x = after(Bounds::settled);
        Due.village(x, "p,s");
        due("who drew ahead", x.is(8), NOBODY);
        x.quarrel(0, 1, true);
        due("pails of one who quarrels with the first", x.draw(1) > 0 ? 1 : 0, 1);
    }

    static void p08_moodLevelHourAndAllElseStay() {
        WellMoods x = after(Bounds::settled);
        WellMoods y = after(Bounds::settled);
        Due.village(x, "p,s");
        for (int what = 0; what <= 5; what++) {
            due("is " + what, x.is(what), y.is(what));
        }
        due("the draw", x.seed(1), 4711);
        for (int sheet = 0; sheet <= 3; sheet++) {
            due("sheet " + sheet, x.drop(sheet), y.drop(sheet));
        }
        due("the image", x.restore(), 1);
        due("the image's folk", x.is(6), 4);
    }

    // ---- 9 plan

    /** This text is no PLAN: the byte at this place can't stand there; the one told stays. */
    private static void noPlan(String text, int place) {
        refusedText(Bounds::settled, text, x -> x.plan(), -20 - place);
    }

    private static void plan(String text, int hours) {
        WellMoods x = after(Bounds::settled);
        due("of '" + text + "'", Due.plan(x, text), hours);
        due("hours", x.is(7), hours);
    }

    static void p09_emptyTape_faultAtTheEnd() {
        noPlan("", 0);
    }

    static void p09_blankAlone_faultAtTheEnd() {
        noPlan(" ", 1);
    }

    static void p09_sixtyBlanks_faultAtTheEnd() {
        noPlan(SIXTY_BLANKS, 60);
    }

    static void p09_oneSign() {
        plan("0", 1);
        plan(".", 1);
    }

    static void p09_24Signs() {
        plan("0123.0123.0123.0123.0123", 24);
    }

    static void p09_24SignsAndBlanksTo60Bytes() {
        plan(" 0 1 2 3 . 0 1 2 3 . 0 1 2 3 . 0 1 2 3 . 0 1 2 3            ", 24);
    }

    static void p09_25thSign_fault() {
        noPlan("0123.0123.0123.0123.0123.", 24);
    }

    static void p09_25thSignBehindBlanks_fault() {
        noPlan("........................   0", 27);
    }

    static void p09_lastOfFolk() {
        plan("3", 1);
    }

    static void p09_oneBehindTheLast_fault() {
        noPlan("4", 0);
        noPlan("0.4", 2);
    }

    static void p09_sixthOfFolk() {
        answers(Bounds::six, x -> Due.plan(x, "5"), 1);
    }

    static void p09_seventhOfFolk_fault() {
        refusedText(Bounds::six, "6", x -> x.plan(), -20);
    }

    static void p09_digit9_isNobody_fault() {
        noPlan("9", 0);
    }

    static void p09_nobodyThere_digit0_fault() {
        refusedText(Bounds::nothing, "0", x -> x.plan(), -20);
    }

    static void p09_nobodyThere_none() {
        answers(Bounds::nothing, x -> Due.plan(x, ".."), 2);
    }

    static void p09_signAheadOfDigits_fault() {
        noPlan("0/", 1);
    }

    static void p09_signBehindDigits_fault() {
        noPlan("0:", 1);
    }

    static void p09_otherSign_fault() {
        noPlan("0,1", 1);
        noPlan("x", 0);
        noPlan("0-", 1);
    }

    static void p09_blanksArePlaces() {
        noPlan("  0  x", 5);
    }

    static void p09_lastPlace_fault() {
        noPlan(" ".repeat(59) + "x", 59);
    }

    static void p09_blanksBetween_arePassedOver() {
        plan("  0  .  1  ", 3);
    }

    static void p09_theTapeIsEmptyThen() {
        WellMoods x = after(Bounds::settled);
        Due.plan(x, "0");
        due("behind a plan", x.type('0', 1), 1);
        x.type('x', 1);
        x.plan();
        due("behind a fault", x.type('0', 1), 1);
    }

    static void p09_shorterInPlaceOfLonger_nothingOfThatStays() {
        WellMoods x = Due.well("s,p");
        Due.plan(x, "11111");
        Due.plan(x, "0");
        due("run", x.run(), 1);
        due("who drew", x.is(8), 0);
        due("hour", x.is(5), 1);
    }

    static void p09_fault_nothingOfItsFirstSignsStays() {
        WellMoods x = Due.well("s,p");
        Due.plan(x, "00");
        due("fault", Due.plan(x, "11x"), -22);
        due("run", x.run(), 2);
        due("who drew", x.is(8), 0);
    }
}
