/** The boundaries that promises 10 to 17 name; a test each. */
final class HoursBoundsTest extends Bounds {
    public static void main(String[] args) {
        runAll(HoursBoundsTest.class);
    }

    /** As settled, in this HOUR, with a PLAN of this text. */
    private static Past planned(String text, int hour) {
        return x -> {
            settled(x);
            toHour(x, hour);
            Due.plan(x, text);
        };
    }

    // ---- 10 may

    static void p10_nobodyThere_emptySet() {
        asked(Bounds::nothing, x -> x.may(), 0);
    }

    static void p10_sixWhoRested_allBits() {
        answers(village("p,s,v,m,p,s"), x -> x.may(), 63);
    }

    static void p10_thoseWhoRest_notInIt() {
        asked(Bounds::settled, x -> x.may(), 10);
    }

    static void p10_allRest_emptySet() {
        WellMoods x = Due.well("pr2");
        x.draw(0);
        due(x.may(), 0);
    }

    static void p10_hour9999_thoseWhoRested() {
        asked(Bounds::lastHour, x -> x.may(), 15);
    }

    // ---- 11 draw

    static void p11_oneBelow0_isBad() {
        refused(Bounds::lived, x -> x.draw(-1), BAD);
    }

    static void p11_oneBehindTheLast_isBad() {
        refused(Bounds::lived, x -> x.draw(4), BAD);
    }

    static void p11_sixthOfFive_isBad() {
        refused(village("p,p,p,p,p"), x -> x.draw(5), BAD);
    }

    static void p11_from6To8_isBad() {
        for (int i = 6; i <= 8; i++) {
            int one = i;
            refused(Bounds::six, x -> x.draw(one), BAD);
        }
    }

    static void p11_ten_isBad() {
        refused(Bounds::six, x -> x.draw(10), BAD);
    }

    static void p11_farOut_isBad() {
        refused(Bounds::lived, x -> x.draw(MIN), BAD);
        refused(Bounds::lived, x -> x.draw(MAX), BAD);
    }

    static void p11_nobodyThere_isBad() {
        refused(Bounds::nothing, x -> x.draw(0), BAD);
    }

    static void p11_none_0PailsAndTheHourPasses() {
        WellMoods x = new WellMoods();
        due("pails", x.draw(NOBODY), 0);
        due("hour", x.is(5), 1);
        due("level", x.is(1), 201);
        due("who drew", x.is(8), NOBODY);
    }

    static void p11_none_whenNobodyMay() {
        WellMoods x = Due.well("pr9");
        x.draw(0);
        due("pails", x.draw(NOBODY), 0);
        due("hour", x.is(5), 2);
    }

    static void p11_sixth_draws() {
        answers(village("p,p,p,p,p,s"), x -> x.draw(5), 5);
    }

    static void p11_oneWhoMayNot_isNot() {
        refused(Bounds::lived, x -> x.draw(0), NOT);
        refused(Bounds::lived, x -> x.draw(2), NOT);
    }

    static void p11_lastHourOfRest_isNot() {
        Past past = x -> {
            settled(x);
            x.pass(1);
        };
        refused(past, x -> x.draw(2), NOT);
    }

    static void p11_justRested_draws() {
        WellMoods x = after(Bounds::settled);
        x.pass(2);
        due("waits", x.told(2, 3), 0);
        due("pails of v at mood 2", x.draw(2), 6);
    }

    static void p11_hour9999_isFull() {
        refused(Bounds::lastHour, x -> x.draw(1), FULL);
    }

    static void p11_hour9999_noneIsFullToo() {
        refused(Bounds::lastHour, x -> x.draw(NOBODY), FULL);
    }

    static void p11_hour9998_isTheLastOfADrawing() {
        WellMoods x = after(hour(9998));
        due("pails", x.draw(1), 5);
        due("hour", x.is(5), 9999);
    }

    static void p11_hour9998_none() {
        WellMoods x = after(hour(9998));
        due("pails", x.draw(NOBODY), 0);
        due("hour", x.is(5), 9999);
    }

    static void p11_notIsAheadOfFull() {
        Past past = x -> {
            settled(x);
            toHour(x, 9998);
            x.draw(0);
        };
        refused(past, x -> x.draw(0), NOT);
    }

    static void p11_badIsAheadOfFull() {
        refused(Bounds::lastHour, x -> x.draw(4), BAD);
    }

    // ---- 12 pass

    static void p12_n0_isBad() {
        refused(Bounds::lived, x -> x.pass(0), BAD);
    }

    static void p12_nBelow0_isBad() {
        refused(Bounds::lived, x -> x.pass(-1), BAD);
    }

    static void p12_nAbove60_isBad() {
        refused(Bounds::lived, x -> x.pass(61), BAD);
    }

    static void p12_nFarOut_isBad() {
        refused(Bounds::lived, x -> x.pass(MIN), BAD);
        refused(Bounds::lived, x -> x.pass(MAX), BAD);
    }

    static void p12_n1_passes() {
        answers(Bounds::lived, x -> x.pass(1), 4);
    }

    static void p12_n60_passes() {
        answers(Bounds::lived, x -> x.pass(60), 63);
    }

    static void p12_to9999_passes() {
        answers(hour(9939), x -> x.pass(60), 9999);
        answers(hour(9998), x -> x.pass(1), 9999);
    }

    static void p12_above9999_isFull() {
        refused(hour(9940), x -> x.pass(60), FULL);
        refused(hour(9998), x -> x.pass(2), FULL);
    }

    static void p12_hour9999_isFull() {
        refused(Bounds::lastHour, x -> x.pass(1), FULL);
    }

    static void p12_badIsAheadOfFull() {
        refused(Bounds::lastHour, x -> x.pass(0), BAD);
        refused(Bounds::lastHour, x -> x.pass(61), BAD);
    }

    static void p12_behindFull_fewerPass() {
        WellMoods x = after(hour(9990));
        x.pass(10);
        due(x.pass(9), 9999);
    }

    static void p12_nobodyDrewAheadThen() {
        WellMoods x = after(Bounds::settled);
        x.pass(1);
        due(x.is(8), NOBODY);
    }

    static void p12_asManyHoursOneByOne() {
        WellMoods x = after(Bounds::settled);
        WellMoods y = after(Bounds::settled);
        x.pass(3);
        for (int i = 0; i < 3; i++) {
            y.draw(NOBODY);
        }
        for (int what = 0; what <= 8; what++) {
            due("is " + what, x.is(what), y.is(what));
        }
    }

    // ---- 13 run

    static void p13_noPlan_0() {
        unchanged(village("p,s"), x -> x.run(), 0);
    }

    static void p13_noPlanInHour9999_0() {
        Past past = x -> {
            Due.village(x, "p,s");
            toHour(x, 9999);
        };
        unchanged(past, x -> x.run(), 0);
    }

    static void p13_to9999_isRun() {
        WellMoods x = after(planned("1.1", 9996));
        due("run", x.run(), 3);
        due("hour", x.is(5), 9999);
    }

    static void p13_above9999_isFull() {
        refused(planned("1.1", 9997), x -> x.run(), FULL);
    }

    static void p13_hour9999_isFull() {
        refused(planned(".", 9999), x -> x.run(), FULL);
    }

    static void p13_above9999ThoughItWouldEndEarlier_isFull() {
        refused(planned("00.", 9997), x -> x.run(), FULL);
    }

    static void p13_24HoursTo9999_areRun() {
        WellMoods x = after(planned("........................", 9975));
        due("run", x.run(), 24);
        due("hour", x.is(5), 9999);
    }

    static void p13_24HoursAbove9999_isFull() {
        refused(planned("........................", 9976), x -> x.run(), FULL);
    }

    static void p13_firstOneMayNot_0AndNothingPasses() {
        unchanged(planned("0.", 0), x -> x.run(), 0);
    }

    static void p13_lastOneMayNot_oneHourLess() {
        WellMoods x = Due.well("s,pr3");
        Due.plan(x, "0101");
        due("run", x.run(), 3);
        due("hour", x.is(5), 3);
        due("who drew ahead", x.is(8), 0);
    }

    static void p13_endedByOneWhoMayNot_thePlanStaysWhole() {
        WellMoods x = Due.well("s,pr3");
        Due.plan(x, "11");
        x.run();
        due("hours", x.is(7), 2);
        x.pass(2);
        due("run anew, from its first hour", x.run(), 1);
        due("hour", x.is(5), 4);
    }

    static void p13_runToItsEnd_thePlanStays() {
        WellMoods x = Due.well("s,p");
        Due.plan(x, "01");
        x.run();
        due("hours", x.is(7), 2);
        due("run anew", x.run(), 2);
        due("hour", x.is(5), 4);
    }

    static void p13_pailsOfThoseWhoQuarrel_none() {
        WellMoods x = Due.well("s,s");
        x.quarrel(0, 1, true);
        Due.plan(x, "010");
        due("run", x.run(), 3);
        due("sweet", x.is(3), 5);
    }

    // ---- 14 most

    static void p14_n0_isBad() {
        refused(Bounds::lived, x -> x.most(0), BAD);
    }

    static void p14_nBelow0_isBad() {
        refused(Bounds::lived, x -> x.most(-1), BAD);
    }

    static void p14_nAbove5_isBad() {
        refused(Bounds::lived, x -> x.most(6), BAD);
    }

    static void p14_nFarOut_isBad() {
        refused(Bounds::lived, x -> x.most(MIN), BAD);
        refused(Bounds::lived, x -> x.most(MAX), BAD);
    }

    static void p14_n1() {
        asked(village("s"), x -> x.most(1), 5);
    }

    static void p14_n5() {
        asked(village("s"), x -> x.most(5), 25);
    }

    static void p14_nobodyThere_0() {
        asked(Bounds::nothing, x -> x.most(5), 0);
    }

    static void p14_sixOfFolk() {
        asked(village("v,v,v,v,v,s"), x -> x.most(5), 25);
    }

    static void p14_beyondHour9999() {
        Past past = x -> {
            Due.village(x, "s+3");
            toHour(x, 9999);
        };
        asked(past, x -> x.most(5), 5 + 7 + 9 + 9 + 9);
    }

    static void p14_thosewhoRestInHour9999_comeLater() {
        Past past = x -> {
            Due.village(x, "sr3");
            toHour(x, 9998);
            x.draw(0);
        };
        asked(past, x -> x.most(2), 0);
        asked(past, x -> x.most(3), 5);
    }

    // ---- 15 row

    static void p15_n0_isBad() {
        refused(Bounds::lived, x -> x.row(0, 0), BAD);
    }

    static void p15_nBelow0_isBad() {
        refused(Bounds::lived, x -> x.row(-1, -2), BAD);
    }

    static void p15_nAbove5_isBad() {
        refused(Bounds::lived, x -> x.row(6, 0), BAD);
    }

    static void p15_iBelow0_isBad() {
        refused(Bounds::lived, x -> x.row(3, -1), BAD);
    }

    static void p15_iAsMuchAsN_isBad() {
        for (int i = 1; i <= 5; i++) {
            int n = i;
            refused(Bounds::lived, x -> x.row(n, n), BAD);
        }
    }

    static void p15_farOut_isBad() {
        refused(Bounds::lived, x -> x.row(MIN, 0), BAD);
        refused(Bounds::lived, x -> x.row(MAX, 0), BAD);
        refused(Bounds::lived, x -> x.row(5, MIN), BAD);
        refused(Bounds::lived, x -> x.row(5, MAX), BAD);
        refused(Bounds::lived, x -> x.row(MIN, MAX), BAD);
    }

    static void p15_n1_itsFirst() {
        asked(village("v,s"), x -> x.row(1, 0), 1);
    }

    static void p15_n5_itsLast() {
        asked(village("v,s"), x -> x.row(5, 4), 1);
    }

    static void p15_nobodyThere_none() {
        asked(Bounds::nothing, x -> x.row(5, 0), NOBODY);
        asked(Bounds::nothing, x -> x.row(5, 4), NOBODY);
    }

    static void p15_sixthOfFolk() {
        asked(village("v,v,v,v,v,s"), x -> x.row(5, 0), 5);
    }

    static void p15_hour9999() {
        asked(Bounds::lastHour, x -> x.row(1, 0), 1);
    }

    static void p15_behindALongerOne_isOfItsN() {
        WellMoods x = Due.well("s+3r2,s");
        due("row of 2, first", x.row(2, 0), 0);
        due("row of 1, first", x.row(1, 0), 0);
        x.set(0, -9);
        due("row of 5, last", x.row(5, 4), 0);
        due("row of 1, first: of like ones the lesser", x.row(1, 0), 0);
    }

    static void p15_behindAChange_isOfThatWhichIs() {
        WellMoods x = Due.well("sr9,s");
        due("ahead", x.row(2, 0), 0);
        x.draw(0);
        due("behind a drawing", x.row(2, 0), 1);
    }

    // ---- 16 fewest

    static void p16_pailsBelow0_isBad() {
        refused(Bounds::lived, x -> x.fewest(-1), BAD);
    }

    static void p16_pailsAbove99_isBad() {
        refused(Bounds::lived, x -> x.fewest(100), BAD);
    }

    static void p16_pailsFarOut_isBad() {
        refused(Bounds::lived, x -> x.fewest(MIN), BAD);
        refused(Bounds::lived, x -> x.fewest(MAX), BAD);
    }

    static void p16_pails0_0Hours() {
        asked(Bounds::lived, x -> x.fewest(0), 0);
    }

    static void p16_pails0OfNobody_0Hours() {
        asked(Bounds::nothing, x -> x.fewest(0), 0);
    }

    static void p16_pails1OfNobody_isNone() {
        refused(Bounds::nothing, x -> x.fewest(1), NONE);
    }

    static void p16_pails1_1Hour() {
        asked(village("s"), x -> x.fewest(1), 1);
    }

    static void p16_pails99_isNone() {
        refused(Bounds::lived, x -> x.fewest(99), NONE);
    }

    static void p16_asManyAsIn5Hours_5() {
        asked(village("s"), x -> x.fewest(25), 5);
    }

    static void p16_oneMoreThanIn5Hours_isNone() {
        refused(village("s"), x -> x.fewest(26), NONE);
    }

    static void p16_greatestOfAll_45() {
        Past past = x -> {
            Due.village(x, "s+3");
            x.set(0, 9);
        };
        asked(past, x -> x.fewest(45), 5);
        refused(past, x -> x.fewest(46), NONE);
    }

    static void p16_beyondHour9999() {
        asked(Bounds::lastHour, x -> x.fewest(5), 1);
        asked(Bounds::lastHour, x -> x.fewest(6), 2);
    }

    static void p16_hourOfRestFirst_2() {
        Past past = x -> {
            Due.village(x, "sr2");
            x.draw(0);
        };
        asked(past, x -> x.fewest(1), 2);
    }

    // ---- 17 peace

    private static Past foes(String text) {
        return x -> {
            Due.village(x, text);
            x.quarrel(0, 1, true);
        };
    }

    static void p17_nobodyThere_isNone() {
        refused(Bounds::nothing, x -> x.peace(), NONE);
    }

    static void p17_oneAlone_isNone() {
        refused(village("s"), x -> x.peace(), NONE);
    }

    static void p17_noneQuarrel_isNone() {
        refused(village("sr2,sr2"), x -> x.peace(), NONE);
    }

    static void p17_noneQuarrelAndMostIs0_isNone() {
        refused(village("v,v"), x -> x.peace(), NONE);
    }

    static void p17_noMoreThanAsItIs_isNone() {
        refused(foes("s,s"), x -> x.peace(), NONE);
        refused(foes("v,v"), x -> x.peace(), NONE);
    }

    static void p17_firstPair_1() {
        asked(foes("sr2,sr2"), x -> x.peace(), 1);
    }

    static void p17_lastPair_45() {
        Past past = x -> {
            Due.village(x, "v,v,v,v,sr2,sr2");
            x.quarrel(5, 4, true);
        };
        asked(past, x -> x.peace(), 45);
    }

    static void p17_moreInTheFourthHourAlone_itIs() {
        Past past = x -> {
            Due.village(x, "sr4,sr4");
            x.draw(0);
            x.draw(1);
            x.quarrel(0, 1, true);
        };
        due("most in 3", after(past).most(3), 5);
        due("most in 4", after(past).most(4), 5);
        asked(past, x -> x.peace(), 1);
    }

    static void p17_moreInTheFifthHourAlone_isNone() {
        Past past = x -> {
            Due.village(x, "sr5,sr5");
            x.draw(0);
            x.draw(1);
            x.quarrel(0, 1, true);
        };
        refused(past, x -> x.peace(), NONE);
    }

    static void p17_beyondHour9999() {
        Past past = x -> {
            foes("sr2,sr2").lead(x);
            toHour(x, 9999);
        };
        asked(past, x -> x.peace(), 1);
    }
}
