set_option maxRecDepth 100000 in
theorem cut_XM_X0 {G : wG} {h g : Nat → Nat} {z : wXS × wSt} : xCut (wsX G h z.1 ++ wsM G g z.2) (wsX G h z.1) (fun u : wXS => (wsX G h u)) (fun u : wXS => (wsX G h (u, z.2).1 ++ wsM G g (u, z.2).2)) := ⟨[0, 1, 2, 3, 4, 5, 6, 7, 8, 9, 10, 11, 12, 13, 14, 15, 16, 17, 18, 19, 20, 21, 22, 23, 24, 25, 26, 27, 28, 29, 30, 31, 32, 33, 34, 35, 36, 37, 38, 39, 40, 41, 42], [43, 44, 45, 46, 47, 48, 49, 50, 51, 52, 53, 54, 55, 56, 57, 58, 59], [17, 18, 19, 20, 21, 22, 23, 24, 25, 26, 27, 28, 29, 30, 31, 32, 33, 34, 35, 36, 37, 38, 39, 40, 41, 42, 43, 44, 45, 46, 47, 48, 49, 50, 51, 52, 53, 54, 55, 56, 57, 58, 59, 0, 1, 2, 3, 4, 5, 6, 7, 8, 9, 10, 11, 12, 13, 14, 15, 16], ([43, 44, 45, 46, 47, 48, 49, 50, 51, 52, 53, 54, 55, 56, 57, 58, 59] : List Nat).filterMap (fun i => (wsX G h z.1 ++ wsM G g z.2)[i]?), rfl, rfl, by decide, by decide, by decide, by decide, fun u => rfl⟩
theorem calX5_copy : xCalV yX5_copy cX5_copy 6 (some .int) 5 := ⟨bw_576, bw_577, bw_1, bw_578, by decide +kernel, by decide +kernel, by decide +kernel⟩
set_option maxRecDepth 100000 in
theorem cut_XM_M43 {G : wG} {h g : Nat → Nat} {z : wXS × wSt} : xCut (wsX G h z.1 ++ wsM G g z.2) (wsM G g z.2) (fun u : wSt => (wsM G g u)) (fun u : wSt => (wsX G h (z.1, u).1 ++ wsM G g (z.1, u).2)) := ⟨[43, 44, 45, 46, 47, 48, 49, 50, 51, 52, 53, 54, 55, 56, 57, 58, 59], [0, 1, 2, 3, 4, 5, 6, 7, 8, 9, 10, 11, 12, 13, 14, 15, 16, 17, 18, 19, 20, 21, 22, 23, 24, 25, 26, 27, 28, 29, 30, 31, 32, 33, 34, 35, 36, 37, 38, 39, 40, 41, 42], [0, 1, 2, 3, 4, 5, 6, 7, 8, 9, 10, 11, 12, 13, 14, 15, 16, 17, 18, 19, 20, 21, 22, 23, 24, 25, 26, 27, 28, 29, 30, 31, 32, 33, 34, 35, 36, 37, 38, 39, 40, 41, 42, 43, 44, 45, 46, 47, 48, 49, 50, 51, 52, 53, 54, 55, 56, 57, 58, 59], ([0, 1, 2, 3, 4, 5, 6, 7, 8, 9, 10, 11, 12, 13, 14, 15, 16, 17, 18, 19, 20, 21, 22, 23, 24, 25, 26, 27, 28, 29, 30, 31, 32, 33, 34, 35, 36, 37, 38, 39, 40, 41, 42] : List Nat).filterMap (fun i => (wsX G h z.1 ++ wsM G g z.2)[i]?), rfl, rfl, by decide, by decide, by decide, by decide, fun u => rfl⟩
theorem calX6_copy : xCalV yX6_copy cX6_copy 7 (some .int) 5 := ⟨bw_934, bw_935, bw_7, bw_936, by decide +kernel, by decide +kernel, by decide +kernel⟩
theorem calX5_item : xCalV yX5_item cX5_item 7 (some .int) 4 := ⟨bw_572, bw_573, bw_1, bw_574, by decide +kernel, by decide +kernel, by decide +kernel⟩
theorem calX6_item : xCalV yX6_item cX6_item 7 (some .int) 4 := ⟨bw_911, bw_912, bw_7, bw_913, by decide +kernel, by decide +kernel, by decide +kernel⟩
theorem calX5_drop : xCalV yX5_drop cX5_drop 2 (some .int) 1 := ⟨bw_568, bw_569, bw_1, bw_570, by decide +kernel, by decide +kernel, by decide +kernel⟩
theorem calX6_drop : xCalV yX6_drop cX6_drop 2 (some .int) 1 := ⟨bw_907, bw_908, bw_7, bw_909, by decide +kernel, by decide +kernel, by decide +kernel⟩
theorem calX5_sheet : xCalV yX5_sheet cX5_sheet 4 (some .int) 3 := ⟨bw_560, bw_561, bw_1, bw_562, by decide +kernel, by decide +kernel, by decide +kernel⟩
theorem calX6_sheet : xCalV yX6_sheet cX6_sheet 5 (some .int) 3 := ⟨bw_900, bw_901, bw_7, bw_902, by decide +kernel, by decide +kernel, by decide +kernel⟩
theorem calX5_film : xCalV yX5_film cX5_film 7 (some .int) 4 := ⟨bw_552, bw_553, bw_1, bw_554, by decide +kernel, by decide +kernel, by decide +kernel⟩
theorem calX6_film : xCalV yX6_film cX6_film 7 (some .int) 4 := ⟨bw_930, bw_931, bw_7, bw_932, by decide +kernel, by decide +kernel, by decide +kernel⟩
theorem calX5_fit : xCalV yX5_fit cX5_fit 8 (some .int) 4 := ⟨bw_525, bw_526, bw_1, bw_527, by decide +kernel, by decide +kernel, by decide +kernel⟩
theorem calX6_fit : xCalV yX6_fit cX6_fit 9 (some .int) 4 := ⟨bw_922, bw_923, bw_7, bw_924, by decide +kernel, by decide +kernel, by decide +kernel⟩
theorem calX5_restore : xCalV yX5_restore cX5_restore 1 (some .int) 0 := ⟨bw_521, bw_522, bw_1, bw_523, by decide +kernel, by decide +kernel, by decide +kernel⟩
theorem calX6_restore : xCalV yX6_restore cX6_restore 2 (some .int) 0 := ⟨bw_896, bw_897, bw_7, bw_898, by decide +kernel, by decide +kernel, by decide +kernel⟩
theorem calX5_image : xCalV yX5_image cX5_image 1 (some .int) 0 := ⟨bw_513, bw_514, bw_1, bw_515, by decide +kernel, by decide +kernel, by decide +kernel⟩
theorem calX6_image : xCalV yX6_image cX6_image 2 (some .int) 0 := ⟨bw_888, bw_889, bw_7, bw_890, by decide +kernel, by decide +kernel, by decide +kernel⟩
theorem calX5_seed : xCalV yX5_seed cX5_seed 3 (some .int) 1 := ⟨bw_509, bw_510, bw_1, bw_511, by decide +kernel, by decide +kernel, by decide +kernel⟩
theorem calX6_seed : xCalV yX6_seed cX6_seed 3 (some .int) 1 := ⟨bw_884, bw_885, bw_7, bw_886, by decide +kernel, by decide +kernel, by decide +kernel⟩
theorem calX5_drawn : xCalV yX5_drawn cX5_drawn 4 (some .int) 1 := ⟨bw_497, bw_498, bw_1, bw_499, by decide +kernel, by decide +kernel, by decide +kernel⟩
theorem calX6_drawn : xCalV yX6_drawn cX6_drawn 5 (some .int) 1 := ⟨bw_876, bw_877, bw_7, bw_878, by decide +kernel, by decide +kernel, by decide +kernel⟩
theorem calX5_other : xCalV yX5_other cX5_other 2 (some .int) 1 := ⟨bw_493, bw_494, bw_1, bw_495, by decide +kernel, by decide +kernel, by decide +kernel⟩
theorem calX6_other : xCalV yX6_other cX6_other 2 (some .int) 1 := ⟨bw_856, bw_857, bw_7, bw_858, by decide +kernel, by decide +kernel, by decide +kernel⟩
theorem calX5_liar : xCalV yX5_liar cX5_liar 9 (some .int) 6 := ⟨bw_485, bw_486, bw_1, bw_487, by decide +kernel, by decide +kernel, by decide +kernel⟩
theorem calX6_liar : xCalV yX6_liar cX6_liar 7 (some .int) 6 := ⟨bw_872, bw_873, bw_7, bw_874, by decide +kernel, by decide +kernel, by decide +kernel⟩
theorem calX5_stranger : xCalV yX5_stranger cX5_stranger 7 (some .int) 3 := ⟨bw_474, bw_475, bw_1, bw_476, by decide +kernel, by decide +kernel, by decide +kernel⟩
theorem calX6_stranger : xCalV yX6_stranger cX6_stranger 6 (some .int) 3 := ⟨bw_868, bw_869, bw_7, bw_870, by decide +kernel, by decide +kernel, by decide +kernel⟩
theorem calX5_gives : xCalV yX5_gives cX5_gives 3 (some .int) 2 := ⟨bw_465, bw_466, bw_1, bw_467, by decide +kernel, by decide +kernel, by decide +kernel⟩
theorem calX6_gives : xCalV yX6_gives cX6_gives 3 (some .int) 2 := ⟨bw_860, bw_861, bw_7, bw_862, by decide +kernel, by decide +kernel, by decide +kernel⟩
theorem calX5_peace : xCalV yX5_peace cX5_peace 6 (some .int) 0 := ⟨bw_457, bw_458, bw_1, bw_459, by decide +kernel, by decide +kernel, by decide +kernel⟩
theorem calX6_peace : xCalV yX6_peace cX6_peace 7 (some .int) 0 := ⟨bw_852, bw_853, bw_7, bw_854, by decide +kernel, by decide +kernel, by decide +kernel⟩
theorem calX5_fewest : xCalV yX5_fewest cX5_fewest 3 (some .int) 1 := ⟨bw_453, bw_454, bw_1, bw_455, by decide +kernel, by decide +kernel, by decide +kernel⟩
theorem calX6_fewest : xCalV yX6_fewest cX6_fewest 3 (some .int) 1 := ⟨bw_847, bw_848, bw_7, bw_849, by decide +kernel, by decide +kernel, by decide +kernel⟩
theorem calX5_row : xCalV yX5_row cX5_row 3 (some .int) 2 := ⟨bw_449, bw_450, bw_1, bw_451, by decide +kernel, by decide +kernel, by decide +kernel⟩
theorem calX6_row : xCalV yX6_row cX6_row 3 (some .int) 2 := ⟨bw_843, bw_844, bw_7, bw_845, by decide +kernel, by decide +kernel, by decide +kernel⟩
theorem calX5_most : xCalV yX5_most cX5_most 2 (some .int) 1 := ⟨bw_413, bw_414, bw_1, bw_415, by decide +kernel, by decide +kernel, by decide +kernel⟩
theorem calX6_most : xCalV yX6_most cX6_most 2 (some .int) 1 := ⟨bw_830, bw_831, bw_7, bw_832, by decide +kernel, by decide +kernel, by decide +kernel⟩
theorem calX5_run : xCalV yX5_run cX5_run 1 (some .int) 0 := ⟨bw_404, bw_405, bw_1, bw_406, by decide +kernel, by decide +kernel, by decide +kernel⟩
theorem calX6_run : xCalV yX6_run cX6_run 2 (some .int) 0 := ⟨bw_826, bw_827, bw_7, bw_828, by decide +kernel, by decide +kernel, by decide +kernel⟩
theorem calX5_pass : xCalV yX5_pass cX5_pass 3 (some .int) 1 := ⟨bw_400, bw_401, bw_1, bw_402, by decide +kernel, by decide +kernel, by decide +kernel⟩
theorem calX6_pass : xCalV yX6_pass cX6_pass 3 (some .int) 1 := ⟨bw_821, bw_822, bw_7, bw_823, by decide +kernel, by decide +kernel, by decide +kernel⟩
theorem calX5_draw : xCalV yX5_draw cX5_draw 2 (some .int) 1 := ⟨bw_343, bw_344, bw_1, bw_345, by decide +kernel, by decide +kernel, by decide +kernel⟩
theorem calX6_draw : xCalV yX6_draw cX6_draw 2 (some .int) 1 := ⟨bw_782, bw_783, bw_7, bw_784, by decide +kernel, by decide +kernel, by decide +kernel⟩
theorem calX5_may : xCalV yX5_may cX5_may 3 (some .int) 0 := ⟨bw_334, bw_335, bw_1, bw_336, by decide +kernel, by decide +kernel, by decide +kernel⟩
theorem calX6_may : xCalV yX6_may cX6_may 3 (some .int) 0 := ⟨bw_778, bw_779, bw_7, bw_780, by decide +kernel, by decide +kernel, by decide +kernel⟩
theorem calX5_plan : xCalV yX5_plan cX5_plan 2 (some .int) 0 := ⟨bw_315, bw_316, bw_1, bw_317, by decide +kernel, by decide +kernel, by decide +kernel⟩
theorem calX6_plan : xCalV yX6_plan cX6_plan 3 (some .int) 0 := ⟨bw_770, bw_771, bw_7, bw_772, by decide +kernel, by decide +kernel, by decide +kernel⟩
theorem calX5_village : xCalV yX5_village cX5_village 2 (some .int) 0 := ⟨bw_278, bw_279, bw_1, bw_280, by decide +kernel, by decide +kernel, by decide +kernel⟩
theorem calX6_village : xCalV yX6_village cX6_village 3 (some .int) 0 := ⟨bw_750, bw_751, bw_7, bw_752, by decide +kernel, by decide +kernel, by decide +kernel⟩
theorem calX5_type : xCalV yX5_type cX5_type 5 (some .int) 2 := ⟨bw_264, bw_265, bw_1, bw_266, by decide +kernel, by decide +kernel, by decide +kernel⟩
theorem calX6_type : xCalV yX6_type cX6_type 5 (some .int) 2 := ⟨bw_742, bw_743, bw_7, bw_744, by decide +kernel, by decide +kernel, by decide +kernel⟩
theorem calX5_is : xCalV yX5_is cX5_is 2 (some .int) 1 := ⟨bw_260, bw_261, bw_1, bw_262, by decide +kernel, by decide +kernel, by decide +kernel⟩
theorem calX6_is : xCalV yX6_is cX6_is 2 (some .int) 1 := ⟨bw_738, bw_739, bw_7, bw_740, by decide +kernel, by decide +kernel, by decide +kernel⟩
theorem calX5_set : xCalV yX5_set cX5_set 4 (some .int) 2 := ⟨bw_253, bw_254, bw_1, bw_255, by decide +kernel, by decide +kernel, by decide +kernel⟩
theorem calX6_set : xCalV yX6_set cX6_set 4 (some .int) 2 := ⟨bw_728, bw_729, bw_7, bw_730, by decide +kernel, by decide +kernel, by decide +kernel⟩
theorem calX5_quarrel : xCalV yX5_quarrel cX5_quarrel 5 (some .int) 3 := ⟨bw_240, bw_241, bw_1, bw_242, by decide +kernel, by decide +kernel, by decide +kernel⟩
theorem calX6_quarrel : xCalV yX6_quarrel cX6_quarrel 5 (some .int) 3 := ⟨bw_720, bw_721, bw_7, bw_722, by decide +kernel, by decide +kernel, by decide +kernel⟩
theorem calX5_told : xCalV yX5_told cX5_told 3 (some .int) 2 := ⟨bw_231, bw_232, bw_1, bw_233, by decide +kernel, by decide +kernel, by decide +kernel⟩
theorem calX6_told : xCalV yX6_told cX6_told 4 (some .int) 2 := ⟨bw_710, bw_711, bw_7, bw_712, by decide +kernel, by decide +kernel, by decide +kernel⟩
theorem calX5_folk : xCalV yX5_folk cX5_folk 4 (some .int) 3 := ⟨bw_220, bw_221, bw_1, bw_222, by decide +kernel, by decide +kernel, by decide +kernel⟩
theorem calX6_folk : xCalV yX6_folk cX6_folk 4 (some .int) 3 := ⟨bw_696, bw_697, bw_7, bw_698, by decide +kernel, by decide +kernel, by decide +kernel⟩
def wplaw_1176 (k18 : Int32 → (wXS × wSt) → Prop) (L : Nat) (xs : Nat → Int32) (x3 : Int32) (z0 : wXS × wSt) : Prop := (k18 (x3 + (7 : Int32)) z0)
def wplaw_1113 (k18 : Int32 → (wXS × wSt) → Prop) (L : Nat) (xs : Nat → Int32) (x3 : Int32) (z0 : wXS × wSt) : Prop := (vp_in (x3 + (1 : Int32)) L ∧ (vp_in (x3 + (2 : Int32)) L ∧ (vp_in (x3 + (3 : Int32)) L ∧ (vp_in (x3 + (4 : Int32)) L ∧ (vp_in (x3 + (5 : Int32)) L ∧ (wpX5_copy (xs (x3 + (1 : Int32)).toNatClampNeg) (xs (x3 + (2 : Int32)).toNatClampNeg) (xs (x3 + (3 : Int32)).toNatClampNeg) (xs (x3 + (4 : Int32)).toNatClampNeg) (xs (x3 + (5 : Int32)).toNatClampNeg) z0.1 (fun r1 u => ∀ z1 : wXS × wSt, z1 = (u, z0.2) → (vp_in (x3 + (1 : Int32)) L ∧ (vp_in (x3 + (2 : Int32)) L ∧ (vp_in (x3 + (3 : Int32)) L ∧ (vp_in (x3 + (4 : Int32)) L ∧ (vp_in (x3 + (5 : Int32)) L ∧ (wpX6_copy (xs (x3 + (1 : Int32)).toNatClampNeg) (xs (x3 + (2 : Int32)).toNatClampNeg) (xs (x3 + (3 : Int32)).toNatClampNeg) (xs (x3 + (4 : Int32)).toNatClampNeg) (xs (x3 + (5 : Int32)).toNatClampNeg) z1.2 (fun r2 u => ∀ z2 : wXS × wSt, z2 = (z1.1, u) → ((r1 = r2 → (wplaw_1176 k18 L xs x3 z2)) ∧ (¬ r1 = r2 → False))))))))))))))))
def wplaw_1030 (k18 : Int32 → (wXS × wSt) → Prop) (L : Nat) (xs : Nat → Int32) (x3 : Int32) (z0 : wXS × wSt) : Prop := (vp_in (x3 + (1 : Int32)) L ∧ (vp_in (x3 + (2 : Int32)) L ∧ (vp_in (x3 + (3 : Int32)) L ∧ (vp_in (x3 + (4 : Int32)) L ∧ (vp_in (x3 + (5 : Int32)) L ∧ (wpX5_item (xs (x3 + (1 : Int32)).toNatClampNeg) (xs (x3 + (2 : Int32)).toNatClampNeg) (xs (x3 + (3 : Int32)).toNatClampNeg) ((((xs (x3 + (4 : Int32)).toNatClampNeg).toInt64) <<< ((32 : Int32).toInt64 &&& 63)) ||| (((xs (x3 + (5 : Int32)).toNatClampNeg).toInt64) &&& (4294967295 : Int64))) z0.1 (fun r1 u => ∀ z1 : wXS × wSt, z1 = (u, z0.2) → (vp_in (x3 + (1 : Int32)) L ∧ (vp_in (x3 + (2 : Int32)) L ∧ (vp_in (x3 + (3 : Int32)) L ∧ (vp_in (x3 + (4 : Int32)) L ∧ (vp_in (x3 + (5 : Int32)) L ∧ (wpX6_item (xs (x3 + (1 : Int32)).toNatClampNeg) (xs (x3 + (2 : Int32)).toNatClampNeg) (xs (x3 + (3 : Int32)).toNatClampNeg) ((((xs (x3 + (4 : Int32)).toNatClampNeg).toInt64) <<< ((32 : Int32).toInt64 &&& 63)) ||| (((xs (x3 + (5 : Int32)).toNatClampNeg).toInt64) &&& (4294967295 : Int64))) z1.2 (fun r2 u => ∀ z2 : wXS × wSt, z2 = (z1.1, u) → ((r1 = r2 → (wplaw_1176 k18 L xs x3 z2)) ∧ (¬ r1 = r2 → False))))))))))))))))
def wplaw_1007 (k18 : Int32 → (wXS × wSt) → Prop) (L : Nat) (xs : Nat → Int32) (x3 : Int32) (z0 : wXS × wSt) : Prop := (vp_in (x3 + (1 : Int32)) L ∧ (wpX5_drop (xs (x3 + (1 : Int32)).toNatClampNeg) z0.1 (fun r1 u => ∀ z1 : wXS × wSt, z1 = (u, z0.2) → (vp_in (x3 + (1 : Int32)) L ∧ (wpX6_drop (xs (x3 + (1 : Int32)).toNatClampNeg) z1.2 (fun r2 u => ∀ z2 : wXS × wSt, z2 = (z1.1, u) → ((r1 = r2 → (wplaw_1176 k18 L xs x3 z2)) ∧ (¬ r1 = r2 → False))))))))
def wplaw_964 (k18 : Int32 → (wXS × wSt) → Prop) (L : Nat) (xs : Nat → Int32) (x3 : Int32) (z0 : wXS × wSt) : Prop := (vp_in (x3 + (1 : Int32)) L ∧ (vp_in (x3 + (2 : Int32)) L ∧ (vp_in (x3 + (3 : Int32)) L ∧ (wpX5_sheet (xs (x3 + (1 : Int32)).toNatClampNeg) (xs (x3 + (2 : Int32)).toNatClampNeg) (xs (x3 + (3 : Int32)).toNatClampNeg) z0.1 (fun r1 u => ∀ z1 : wXS × wSt, z1 = (u, z0.2) → (vp_in (x3 + (1 : Int32)) L ∧ (vp_in (x3 + (2 : Int32)) L ∧ (vp_in (x3 + (3 : Int32)) L ∧ (wpX6_sheet (xs (x3 + (1 : Int32)).toNatClampNeg) (xs (x3 + (2 : Int32)).toNatClampNeg) (xs (x3 + (3 : Int32)).toNatClampNeg) z1.2 (fun r2 u => ∀ z2 : wXS × wSt, z2 = (z1.1, u) → ((r1 = r2 → (wplaw_1176 k18 L xs x3 z2)) ∧ (¬ r1 = r2 → False))))))))))))
def wplaw_911 (k18 : Int32 → (wXS × wSt) → Prop) (L : Nat) (xs : Nat → Int32) (x3 : Int32) (z0 : wXS × wSt) : Prop := (vp_in (x3 + (1 : Int32)) L ∧ (vp_in (x3 + (2 : Int32)) L ∧ (vp_in (x3 + (3 : Int32)) L ∧ (vp_in (x3 + (4 : Int32)) L ∧ (wpX5_film (xs (x3 + (1 : Int32)).toNatClampNeg) (xs (x3 + (2 : Int32)).toNatClampNeg) (xs (x3 + (3 : Int32)).toNatClampNeg) (xs (x3 + (4 : Int32)).toNatClampNeg) z0.1 (fun r1 u => ∀ z1 : wXS × wSt, z1 = (u, z0.2) → (vp_in (x3 + (1 : Int32)) L ∧ (vp_in (x3 + (2 : Int32)) L ∧ (vp_in (x3 + (3 : Int32)) L ∧ (vp_in (x3 + (4 : Int32)) L ∧ (wpX6_film (xs (x3 + (1 : Int32)).toNatClampNeg) (xs (x3 + (2 : Int32)).toNatClampNeg) (xs (x3 + (3 : Int32)).toNatClampNeg) (xs (x3 + (4 : Int32)).toNatClampNeg) z1.2 (fun r2 u => ∀ z2 : wXS × wSt, z2 = (z1.1, u) → ((r1 = r2 → (wplaw_1176 k18 L xs x3 z2)) ∧ (¬ r1 = r2 → False))))))))))))))
def wplaw_858 (k18 : Int32 → (wXS × wSt) → Prop) (L : Nat) (xs : Nat → Int32) (x3 : Int32) (z0 : wXS × wSt) : Prop := (vp_in (x3 + (1 : Int32)) L ∧ (vp_in (x3 + (2 : Int32)) L ∧ (vp_in (x3 + (3 : Int32)) L ∧ (vp_in (x3 + (4 : Int32)) L ∧ (wpX5_fit (xs (x3 + (1 : Int32)).toNatClampNeg) (xs (x3 + (2 : Int32)).toNatClampNeg) (xs (x3 + (3 : Int32)).toNatClampNeg) (xs (x3 + (4 : Int32)).toNatClampNeg) z0.1 (fun r1 => (vp_in (x3 + (1 : Int32)) L ∧ (vp_in (x3 + (2 : Int32)) L ∧ (vp_in (x3 + (3 : Int32)) L ∧ (vp_in (x3 + (4 : Int32)) L ∧ (wpX6_fit (xs (x3 + (1 : Int32)).toNatClampNeg) (xs (x3 + (2 : Int32)).toNatClampNeg) (xs (x3 + (3 : Int32)).toNatClampNeg) (xs (x3 + (4 : Int32)).toNatClampNeg) z0.2 (fun r2 => ((r1 = r2 → (wplaw_1176 k18 L xs x3 z0)) ∧ (¬ r1 = r2 → False))))))))))))))
def wplaw_845 (k18 : Int32 → (wXS × wSt) → Prop) (L : Nat) (xs : Nat → Int32) (x3 : Int32) (z0 : wXS × wSt) : Prop := (wpX5_restore z0.1 (fun r1 u => ∀ z1 : wXS × wSt, z1 = (u, z0.2) → (wpX6_restore z1.2 (fun r2 u => ∀ z2 : wXS × wSt, z2 = (z1.1, u) → ((r1 = r2 → (wplaw_1176 k18 L xs x3 z2)) ∧ (¬ r1 = r2 → False))))))
def wplaw_832 (k18 : Int32 → (wXS × wSt) → Prop) (L : Nat) (xs : Nat → Int32) (x3 : Int32) (z0 : wXS × wSt) : Prop := (wpX5_image z0.1 (fun r1 u => ∀ z1 : wXS × wSt, z1 = (u, z0.2) → (wpX6_image z1.2 (fun r2 u => ∀ z2 : wXS × wSt, z2 = (z1.1, u) → ((r1 = r2 → (wplaw_1176 k18 L xs x3 z2)) ∧ (¬ r1 = r2 → False))))))
def wplaw_809 (k18 : Int32 → (wXS × wSt) → Prop) (L : Nat) (xs : Nat → Int32) (x3 : Int32) (z0 : wXS × wSt) : Prop := (vp_in (x3 + (1 : Int32)) L ∧ (wpX5_seed (xs (x3 + (1 : Int32)).toNatClampNeg) z0.1 (fun r1 u => ∀ z1 : wXS × wSt, z1 = (u, z0.2) → (vp_in (x3 + (1 : Int32)) L ∧ (wpX6_seed (xs (x3 + (1 : Int32)).toNatClampNeg) z1.2 (fun r2 u => ∀ z2 : wXS × wSt, z2 = (z1.1, u) → ((r1 = r2 → (wplaw_1176 k18 L xs x3 z2)) ∧ (¬ r1 = r2 → False))))))))
def wplaw_786 (k18 : Int32 → (wXS × wSt) → Prop) (L : Nat) (xs : Nat → Int32) (x3 : Int32) (z0 : wXS × wSt) : Prop := (vp_in (x3 + (1 : Int32)) L ∧ (wpX5_drawn (xs (x3 + (1 : Int32)).toNatClampNeg) z0.1 (fun r1 u => ∀ z1 : wXS × wSt, z1 = (u, z0.2) → (vp_in (x3 + (1 : Int32)) L ∧ (wpX6_drawn (xs (x3 + (1 : Int32)).toNatClampNeg) z1.2 (fun r2 u => ∀ z2 : wXS × wSt, z2 = (z1.1, u) → ((r1 = r2 → (wplaw_1176 k18 L xs x3 z2)) ∧ (¬ r1 = r2 → False))))))))
def wplaw_763 (k18 : Int32 → (wXS × wSt) → Prop) (L : Nat) (xs : Nat → Int32) (x3 : Int32) (z0 : wXS × wSt) : Prop := (vp_in (x3 + (1 : Int32)) L ∧ (wpX5_other (xs (x3 + (1 : Int32)).toNatClampNeg) z0.1 (fun r1 u => ∀ z1 : wXS × wSt, z1 = (u, z0.2) → (vp_in (x3 + (1 : Int32)) L ∧ (wpX6_other (xs (x3 + (1 : Int32)).toNatClampNeg) z1.2 (fun r2 u => ∀ z2 : wXS × wSt, z2 = (z1.1, u) → ((r1 = r2 → (wplaw_1176 k18 L xs x3 z2)) ∧ (¬ r1 = r2 → False))))))))
def wplaw_688 (k18 : Int32 → (wXS × wSt) → Prop) (L : Nat) (xs : Nat → Int32) (x3 : Int32) (z0 : wXS × wSt) : Prop := (vp_in (x3 + (1 : Int32)) L ∧ (vp_in (x3 + (2 : Int32)) L ∧ (vp_in (x3 + (3 : Int32)) L ∧ (vp_in (x3 + (4 : Int32)) L ∧ (vp_in (x3 + (5 : Int32)) L ∧ (vp_in (x3 + (6 : Int32)) L ∧ (wpX5_liar (xs (x3 + (1 : Int32)).toNatClampNeg) (xs (x3 + (2 : Int32)).toNatClampNeg) (xs (x3 + (3 : Int32)).toNatClampNeg) (xs (x3 + (4 : Int32)).toNatClampNeg) (xs (x3 + (5 : Int32)).toNatClampNeg) (xs (x3 + (6 : Int32)).toNatClampNeg) z0.1 (fun r1 => (vp_in (x3 + (1 : Int32)) L ∧ (vp_in (x3 + (2 : Int32)) L ∧ (vp_in (x3 + (3 : Int32)) L ∧ (vp_in (x3 + (4 : Int32)) L ∧ (vp_in (x3 + (5 : Int32)) L ∧ (vp_in (x3 + (6 : Int32)) L ∧ (wpX6_liar (xs (x3 + (1 : Int32)).toNatClampNeg) (xs (x3 + (2 : Int32)).toNatClampNeg) (xs (x3 + (3 : Int32)).toNatClampNeg) (xs (x3 + (4 : Int32)).toNatClampNeg) (xs (x3 + (5 : Int32)).toNatClampNeg) (xs (x3 + (6 : Int32)).toNatClampNeg) z0.2 (fun r2 => ((r1 = r2 → (wplaw_1176 k18 L xs x3 z0)) ∧ (¬ r1 = r2 → False))))))))))))))))))
def wplaw_645 (k18 : Int32 → (wXS × wSt) → Prop) (L : Nat) (xs : Nat → Int32) (x3 : Int32) (z0 : wXS × wSt) : Prop := (vp_in (x3 + (1 : Int32)) L ∧ (vp_in (x3 + (2 : Int32)) L ∧ (vp_in (x3 + (3 : Int32)) L ∧ (wpX5_stranger (xs (x3 + (1 : Int32)).toNatClampNeg) (xs (x3 + (2 : Int32)).toNatClampNeg) (xs (x3 + (3 : Int32)).toNatClampNeg) z0.1 (fun r1 => (vp_in (x3 + (1 : Int32)) L ∧ (vp_in (x3 + (2 : Int32)) L ∧ (vp_in (x3 + (3 : Int32)) L ∧ (wpX6_stranger (xs (x3 + (1 : Int32)).toNatClampNeg) (xs (x3 + (2 : Int32)).toNatClampNeg) (xs (x3 + (3 : Int32)).toNatClampNeg) z0.2 (fun r2 => ((r1 = r2 → (wplaw_1176 k18 L xs x3 z0)) ∧ (¬ r1 = r2 → False))))))))))))
def wplaw_612 (k18 : Int32 → (wXS × wSt) → Prop) (L : Nat) (xs : Nat → Int32) (x3 : Int32) (z0 : wXS × wSt) : Prop := (vp_in (x3 + (1 : Int32)) L ∧ (vp_in (x3 + (2 : Int32)) L ∧ (wpX5_gives (xs (x3 + (1 : Int32)).toNatClampNeg) (xs (x3 + (2 : Int32)).toNatClampNeg) z0.1 (fun r1 => (vp_in (x3 + (1 : Int32)) L ∧ (vp_in (x3 + (2 : Int32)) L ∧ (wpX6_gives (xs (x3 + (1 : Int32)).toNatClampNeg) (xs (x3 + (2 : Int32)).toNatClampNeg) z0.2 (fun r2 => ((r1 = r2 → (wplaw_1176 k18 L xs x3 z0)) ∧ (¬ r1 = r2 → False))))))))))
def wplaw_599 (k18 : Int32 → (wXS × wSt) → Prop) (L : Nat) (xs : Nat → Int32) (x3 : Int32) (z0 : wXS × wSt) : Prop := (wpX5_peace z0.1 (fun r1 u => ∀ z1 : wXS × wSt, z1 = (u, z0.2) → (wpX6_peace z1.2 (fun r2 u => ∀ z2 : wXS × wSt, z2 = (z1.1, u) → ((r1 = r2 → (wplaw_1176 k18 L xs x3 z2)) ∧ (¬ r1 = r2 → False))))))
def wplaw_576 (k18 : Int32 → (wXS × wSt) → Prop) (L : Nat) (xs : Nat → Int32) (x3 : Int32) (z0 : wXS × wSt) : Prop := (vp_in (x3 + (1 : Int32)) L ∧ (wpX5_fewest (xs (x3 + (1 : Int32)).toNatClampNeg) z0.1 (fun r1 u => ∀ z1 : wXS × wSt, z1 = (u, z0.2) → (vp_in (x3 + (1 : Int32)) L ∧ (wpX6_fewest (xs (x3 + (1 : Int32)).toNatClampNeg) z1.2 (fun r2 u => ∀ z2 : wXS × wSt, z2 = (z1.1, u) → ((r1 = r2 → (wplaw_1176 k18 L xs x3 z2)) ∧ (¬ r1 = r2 → False))))))))
def wplaw_543 (k18 : Int32 → (wXS × wSt) → Prop) (L : Nat) (xs : Nat → Int32) (x3 : Int32) (z0 : wXS × wSt) : Prop := (vp_in (x3 + (1 : Int32)) L ∧ (vp_in (x3 + (2 : Int32)) L ∧ (wpX5_row (xs (x3 + (1 : Int32)).toNatClampNeg) (xs (x3 + (2 : Int32)).toNatClampNeg) z0.1 (fun r1 u => ∀ z1 : wXS × wSt, z1 = (u, z0.2) → (vp_in (x3 + (1 : Int32)) L ∧ (vp_in (x3 + (2 : Int32)) L ∧ (wpX6_row (xs (x3 + (1 : Int32)).toNatClampNeg) (xs (x3 + (2 : Int32)).toNatClampNeg) z1.2 (fun r2 u => ∀ z2 : wXS × wSt, z2 = (z1.1, u) → ((r1 = r2 → (wplaw_1176 k18 L xs x3 z2)) ∧ (¬ r1 = r2 → False))))))))))
def wplaw_520 (k18 : Int32 → (wXS × wSt) → Prop) (L : Nat) (xs : Nat → Int32) (x3 : Int32) (z0 : wXS × wSt) : Prop := (vp_in (x3 + (1 : Int32)) L ∧ (wpX5_most (xs (x3 + (1 : Int32)).toNatClampNeg) z0.1 (fun r1 u => ∀ z1 : wXS × wSt, z1 = (u, z0.2) → (vp_in (x3 + (1 : Int32)) L ∧ (wpX6_most (xs (x3 + (1 : Int32)).toNatClampNeg) z1.2 (fun r2 u => ∀ z2 : wXS × wSt, z2 = (z1.1, u) → ((r1 = r2 → (wplaw_1176 k18 L xs x3 z2)) ∧ (¬ r1 = r2 → False))))))))
def wplaw_507 (k18 : Int32 → (wXS × wSt) → Prop) (L : Nat) (xs : Nat → Int32) (x3 : Int32) (z0 : wXS × wSt) : Prop := (wpX5_run z0.1 (fun r1 u => ∀ z1 : wXS × wSt, z1 = (u, z0.2) → (wpX6_run z1.2 (fun r2 u => ∀ z2 : wXS × wSt, z2 = (z1.1, u) → ((r1 = r2 → (wplaw_1176 k18 L xs x3 z2)) ∧ (¬ r1 = r2 → False))))))
def wplaw_484 (k18 : Int32 → (wXS × wSt) → Prop) (L : Nat) (xs : Nat → Int32) (x3 : Int32) (z0 : wXS × wSt) : Prop := (vp_in (x3 + (1 : Int32)) L ∧ (wpX5_pass (xs (x3 + (1 : Int32)).toNatClampNeg) z0.1 (fun r1 u => ∀ z1 : wXS × wSt, z1 = (u, z0.2) → (vp_in (x3 + (1 : Int32)) L ∧ (wpX6_pass (xs (x3 + (1 : Int32)).toNatClampNeg) z1.2 (fun r2 u => ∀ z2 : wXS × wSt, z2 = (z1.1, u) → ((r1 = r2 → (wplaw_1176 k18 L xs x3 z2)) ∧ (¬ r1 = r2 → False))))))))
def wplaw_461 (k18 : Int32 → (wXS × wSt) → Prop) (L : Nat) (xs : Nat → Int32) (x3 : Int32) (z0 : wXS × wSt) : Prop := (vp_in (x3 + (1 : Int32)) L ∧ (wpX5_draw (xs (x3 + (1 : Int32)).toNatClampNeg) z0.1 (fun r1 u => ∀ z1 : wXS × wSt, z1 = (u, z0.2) → (vp_in (x3 + (1 : Int32)) L ∧ (wpX6_draw (xs (x3 + (1 : Int32)).toNatClampNeg) z1.2 (fun r2 u => ∀ z2 : wXS × wSt, z2 = (z1.1, u) → ((r1 = r2 → (wplaw_1176 k18 L xs x3 z2)) ∧ (¬ r1 = r2 → False))))))))
def wplaw_448 (k18 : Int32 → (wXS × wSt) → Prop) (L : Nat) (xs : Nat → Int32) (x3 : Int32) (z0 : wXS × wSt) : Prop := (wpX5_may z0.1 (fun r1 => (wpX6_may z0.2 (fun r2 => ((r1 = r2 → (wplaw_1176 k18 L xs x3 z0)) ∧ (¬ r1 = r2 → False))))))
def wplaw_435 (k18 : Int32 → (wXS × wSt) → Prop) (L : Nat) (xs : Nat → Int32) (x3 : Int32) (z0 : wXS × wSt) : Prop := (wpX5_plan z0.1 (fun r1 u => ∀ z1 : wXS × wSt, z1 = (u, z0.2) → (wpX6_plan z1.2 (fun r2 u => ∀ z2 : wXS × wSt, z2 = (z1.1, u) → ((r1 = r2 → (wplaw_1176 k18 L xs x3 z2)) ∧ (¬ r1 = r2 → False))))))
def wplaw_422 (k18 : Int32 → (wXS × wSt) → Prop) (L : Nat) (xs : Nat → Int32) (x3 : Int32) (z0 : wXS × wSt) : Prop := (wpX5_village z0.1 (fun r1 u => ∀ z1 : wXS × wSt, z1 = (u, z0.2) → (wpX6_village z1.2 (fun r2 u => ∀ z2 : wXS × wSt, z2 = (z1.1, u) → ((r1 = r2 → (wplaw_1176 k18 L xs x3 z2)) ∧ (¬ r1 = r2 → False))))))
def wplaw_359 (k18 : Int32 → (wXS × wSt) → Prop) (L : Nat) (xs : Nat → Int32) (x3 : Int32) (z0 : wXS × wSt) : Prop := (vp_in (x3 + (1 : Int32)) L ∧ (vp_in (x3 + (2 : Int32)) L ∧ (vp_in (x3 + (3 : Int32)) L ∧ (wpX5_type ((((xs (x3 + (1 : Int32)).toNatClampNeg).toInt64) <<< ((32 : Int32).toInt64 &&& 63)) ||| (((xs (x3 + (2 : Int32)).toNatClampNeg).toInt64) &&& (4294967295 : Int64))) (xs (x3 + (3 : Int32)).toNatClampNeg) z0.1 (fun r1 u => ∀ z1 : wXS × wSt, z1 = (u, z0.2) → (vp_in (x3 + (1 : Int32)) L ∧ (vp_in (x3 + (2 : Int32)) L ∧ (vp_in (x3 + (3 : Int32)) L ∧ (wpX6_type ((((xs (x3 + (1 : Int32)).toNatClampNeg).toInt64) <<< ((32 : Int32).toInt64 &&& 63)) ||| (((xs (x3 + (2 : Int32)).toNatClampNeg).toInt64) &&& (4294967295 : Int64))) (xs (x3 + (3 : Int32)).toNatClampNeg) z1.2 (fun r2 u => ∀ z2 : wXS × wSt, z2 = (z1.1, u) → ((r1 = r2 → (wplaw_1176 k18 L xs x3 z2)) ∧ (¬ r1 = r2 → False))))))))))))
def wplaw_336 (k18 : Int32 → (wXS × wSt) → Prop) (L : Nat) (xs : Nat → Int32) (x3 : Int32) (z0 : wXS × wSt) : Prop := (vp_in (x3 + (1 : Int32)) L ∧ (wpX5_is (xs (x3 + (1 : Int32)).toNatClampNeg) z0.1 (fun r1 => (vp_in (x3 + (1 : Int32)) L ∧ (wpX6_is (xs (x3 + (1 : Int32)).toNatClampNeg) z0.2 (fun r2 => ((r1 = r2 → (wplaw_1176 k18 L xs x3 z0)) ∧ (¬ r1 = r2 → False))))))))
def wplaw_303 (k18 : Int32 → (wXS × wSt) → Prop) (L : Nat) (xs : Nat → Int32) (x3 : Int32) (z0 : wXS × wSt) : Prop := (vp_in (x3 + (1 : Int32)) L ∧ (vp_in (x3 + (2 : Int32)) L ∧ (wpX5_set (xs (x3 + (1 : Int32)).toNatClampNeg) (xs (x3 + (2 : Int32)).toNatClampNeg) z0.1 (fun r1 u => ∀ z1 : wXS × wSt, z1 = (u, z0.2) → (vp_in (x3 + (1 : Int32)) L ∧ (vp_in (x3 + (2 : Int32)) L ∧ (wpX6_set (xs (x3 + (1 : Int32)).toNatClampNeg) (xs (x3 + (2 : Int32)).toNatClampNeg) z1.2 (fun r2 u => ∀ z2 : wXS × wSt, z2 = (z1.1, u) → ((r1 = r2 → (wplaw_1176 k18 L xs x3 z2)) ∧ (¬ r1 = r2 → False))))))))))
def wplaw_295 (k18 : Int32 → (wXS × wSt) → Prop) (L : Nat) (xs : Nat → Int32) (x3 : Int32) (t0 : Int32) (t1 : Int32) (t2 : Int32) (t4 : Int32) (z0 : wXS × wSt) : Prop := (wpX6_quarrel t2 t1 t0 z0.2 (fun r1 u => ∀ z1 : wXS × wSt, z1 = (z0.1, u) → ((t4 = r1 → (wplaw_1176 k18 L xs x3 z1)) ∧ (¬ t4 = r1 → False))))
def wplaw_268 (k18 : Int32 → (wXS × wSt) → Prop) (L : Nat) (xs : Nat → Int32) (x3 : Int32) (t0 : Int32) (t1 : Int32) (t2 : Int32) (z0 : wXS × wSt) : Prop := (wpX5_quarrel t2 t1 t0 z0.1 (fun r1 u => ∀ z1 : wXS × wSt, z1 = (u, z0.2) → (vp_in (x3 + (1 : Int32)) L ∧ (vp_in (x3 + (2 : Int32)) L ∧ (vp_in (x3 + (3 : Int32)) L ∧ (((xs (x3 + (3 : Int32)).toNatClampNeg) = 0 → (wplaw_295 k18 L xs x3 (0 : Int32) (xs (x3 + (2 : Int32)).toNatClampNeg) (xs (x3 + (1 : Int32)).toNatClampNeg) r1 z1)) ∧ (¬ (xs (x3 + (3 : Int32)).toNatClampNeg) = 0 → (wplaw_295 k18 L xs x3 (1 : Int32) (xs (x3 + (2 : Int32)).toNatClampNeg) (xs (x3 + (1 : Int32)).toNatClampNeg) r1 z1))))))))
def wplaw_244 (k18 : Int32 → (wXS × wSt) → Prop) (L : Nat) (xs : Nat → Int32) (x3 : Int32) (z0 : wXS × wSt) : Prop := (vp_in (x3 + (1 : Int32)) L ∧ (vp_in (x3 + (2 : Int32)) L ∧ (vp_in (x3 + (3 : Int32)) L ∧ (((xs (x3 + (3 : Int32)).toNatClampNeg) = 0 → (wplaw_268 k18 L xs x3 (0 : Int32) (xs (x3 + (2 : Int32)).toNatClampNeg) (xs (x3 + (1 : Int32)).toNatClampNeg) z0)) ∧ (¬ (xs (x3 + (3 : Int32)).toNatClampNeg) = 0 → (wplaw_268 k18 L xs x3 (1 : Int32) (xs (x3 + (2 : Int32)).toNatClampNeg) (xs (x3 + (1 : Int32)).toNatClampNeg) z0))))))
def wplaw_211 (k18 : Int32 → (wXS × wSt) → Prop) (L : Nat) (xs : Nat → Int32) (x3 : Int32) (z0 : wXS × wSt) : Prop := (vp_in (x3 + (1 : Int32)) L ∧ (vp_in (x3 + (2 : Int32)) L ∧ (wpX5_told (xs (x3 + (1 : Int32)).toNatClampNeg) (xs (x3 + (2 : Int32)).toNatClampNeg) z0.1 (fun r1 => (vp_in (x3 + (1 : Int32)) L ∧ (vp_in (x3 + (2 : Int32)) L ∧ (wpX6_told (xs (x3 + (1 : Int32)).toNatClampNeg) (xs (x3 + (2 : Int32)).toNatClampNeg) z0.2 (fun r2 => ((r1 = r2 → (wplaw_1176 k18 L xs x3 z0)) ∧ (¬ r1 = r2 → False))))))))))
def wplaw_168 (k18 : Int32 → (wXS × wSt) → Prop) (L : Nat) (xs : Nat → Int32) (x3 : Int32) (z0 : wXS × wSt) : Prop := (vp_in (x3 + (1 : Int32)) L ∧ (vp_in (x3 + (2 : Int32)) L ∧ (vp_in (x3 + (3 : Int32)) L ∧ (wpX5_folk (xs (x3 + (1 : Int32)).toNatClampNeg) (xs (x3 + (2 : Int32)).toNatClampNeg) (xs (x3 + (3 : Int32)).toNatClampNeg) z0.1 (fun r1 u => ∀ z1 : wXS × wSt, z1 = (u, z0.2) → (vp_in (x3 + (1 : Int32)) L ∧ (vp_in (x3 + (2 : Int32)) L ∧ (vp_in (x3 + (3 : Int32)) L ∧ (wpX6_folk (xs (x3 + (1 : Int32)).toNatClampNeg) (xs (x3 + (2 : Int32)).toNatClampNeg) (xs (x3 + (3 : Int32)).toNatClampNeg) z1.2 (fun r2 u => ∀ z2 : wXS × wSt, z2 = (z1.1, u) → ((r1 = r2 → (wplaw_1176 k18 L xs x3 z2)) ∧ (¬ r1 = r2 → False))))))))))))
def wplaw_18 (k18 : Int32 → (wXS × wSt) → Prop) (L : Nat) (xs : Nat → Int32) (x3 : Int32) (z0 : wXS × wSt) : Prop := ((((nI L) - (7 : Int32)) < x3 → True) ∧ (¬ ((nI L) - (7 : Int32)) < x3 → (vp_in x3 L ∧ ((((xs x3.toNatClampNeg) &&& (31 : Int32)).toInt < 0 ∨ 29 < ((xs x3.toNatClampNeg) &&& (31 : Int32)).toInt → (wplaw_1176 k18 L xs x3 z0)) ∧ (((xs x3.toNatClampNeg) &&& (31 : Int32)) = (0 : Int32) → (wplaw_168 k18 L xs x3 z0)) ∧ (((xs x3.toNatClampNeg) &&& (31 : Int32)) = (1 : Int32) → (wplaw_211 k18 L xs x3 z0)) ∧ (((xs x3.toNatClampNeg) &&& (31 : Int32)) = (2 : Int32) → (wplaw_244 k18 L xs x3 z0)) ∧ (((xs x3.toNatClampNeg) &&& (31 : Int32)) = (3 : Int32) → (wplaw_303 k18 L xs x3 z0)) ∧ (((xs x3.toNatClampNeg) &&& (31 : Int32)) = (4 : Int32) → (wplaw_336 k18 L xs x3 z0)) ∧ (((xs x3.toNatClampNeg) &&& (31 : Int32)) = (5 : Int32) → (wplaw_359 k18 L xs x3 z0)) ∧ (((xs x3.toNatClampNeg) &&& (31 : Int32)) = (6 : Int32) → (wplaw_422 k18 L xs x3 z0)) ∧ (((xs x3.toNatClampNeg) &&& (31 : Int32)) = (7 : Int32) → (wplaw_435 k18 L xs x3 z0)) ∧ (((xs x3.toNatClampNeg) &&& (31 : Int32)) = (8 : Int32) → (wplaw_448 k18 L xs x3 z0)) ∧ (((xs x3.toNatClampNeg) &&& (31 : Int32)) = (9 : Int32) → (wplaw_461 k18 L xs x3 z0)) ∧ (((xs x3.toNatClampNeg) &&& (31 : Int32)) = (10 : Int32) → (wplaw_484 k18 L xs x3 z0)) ∧ (((xs x3.toNatClampNeg) &&& (31 : Int32)) = (11 : Int32) → (wplaw_507 k18 L xs x3 z0)) ∧ (((xs x3.toNatClampNeg) &&& (31 : Int32)) = (12 : Int32) → (wplaw_520 k18 L xs x3 z0)) ∧ (((xs x3.toNatClampNeg) &&& (31 : Int32)) = (13 : Int32) → (wplaw_543 k18 L xs x3 z0)) ∧ (((xs x3.toNatClampNeg) &&& (31 : Int32)) = (14 : Int32) → (wplaw_576 k18 L xs x3 z0)) ∧ (((xs x3.toNatClampNeg) &&& (31 : Int32)) = (15 : Int32) → (wplaw_599 k18 L xs x3 z0)) ∧ (((xs x3.toNatClampNeg) &&& (31 : Int32)) = (16 : Int32) → (wplaw_612 k18 L xs x3 z0)) ∧ (((xs x3.toNatClampNeg) &&& (31 : Int32)) = (17 : Int32) → (wplaw_645 k18 L xs x3 z0)) ∧ (((xs x3.toNatClampNeg) &&& (31 : Int32)) = (18 : Int32) → (wplaw_688 k18 L xs x3 z0)) ∧ (((xs x3.toNatClampNeg) &&& (31 : Int32)) = (19 : Int32) → (wplaw_763 k18 L xs x3 z0)) ∧ (((xs x3.toNatClampNeg) &&& (31 : Int32)) = (20 : Int32) → (wplaw_786 k18 L xs x3 z0)) ∧ (((xs x3.toNatClampNeg) &&& (31 : Int32)) = (21 : Int32) → (wplaw_809 k18 L xs x3 z0)) ∧ (((xs x3.toNatClampNeg) &&& (31 : Int32)) = (22 : Int32) → (wplaw_832 k18 L xs x3 z0)) ∧ (((xs x3.toNatClampNeg) &&& (31 : Int32)) = (23 : Int32) → (wplaw_845 k18 L xs x3 z0)) ∧ (((xs x3.toNatClampNeg) &&& (31 : Int32)) = (24 : Int32) → (wplaw_858 k18 L xs x3 z0)) ∧ (((xs x3.toNatClampNeg) &&& (31 : Int32)) = (25 : Int32) → (wplaw_911 k18 L xs x3 z0)) ∧ (((xs x3.toNatClampNeg) &&& (31 : Int32)) = (26 : Int32) → (wplaw_964 k18 L xs x3 z0)) ∧ (((xs x3.toNatClampNeg) &&& (31 : Int32)) = (27 : Int32) → (wplaw_1007 k18 L xs x3 z0)) ∧ (((xs x3.toNatClampNeg) &&& (31 : Int32)) = (28 : Int32) → (wplaw_1030 k18 L xs x3 z0)) ∧ (((xs x3.toNatClampNeg) &&& (31 : Int32)) = (29 : Int32) → (wplaw_1113 k18 L xs x3 z0))))))
def wplaw_L18 (L : Nat) (xs : Nat → Int32) : Nat → Int32 → (wXS × wSt) → Prop
  | 0 => fun _ _ => False
  | n + 1 => fun x3 z0 => wplaw_18 (wplaw_L18 L xs n) L xs x3 z0
set_option maxHeartbeats 4000000 in
set_option maxRecDepth 100000 in
theorem blaw_1176 {p : Program} {l : Launch} {e : Env} {R : Room} {s : State} {m : MethodId} {args : Array Value} {below : List Frame} {meth : Method} {c : Code} {Q : State → Prop} {A : Nat → Prop} {G : wG} {h g : Nat → Nat} {b L : Nat} {xs : Nat → Int32} (hC : CallFix p m c cL_law 4 s args BIG RL) (hK : wKK G s) (hA : ∀ q, s.heap.size ≤ q → A q) (hX : va_X b L xs s s.heap) (hbl : b < s.heap.size) (hbA : ¬ A b) (hF : 2000 ≤ R.frames) (hL : 80000 ≤ R.locals) (hRc : 60 ≤ R.cells) (hRs : 818 ≤ R.slots) {k18 : Int32 → (wXS × wSt) → Prop} (I18 : ∀ (x3 : Int32) (z0 : wXS × wSt) (H : Heap) (locs : List Loc) (ls : Array Slot), k18 x3 z0 → va_P G.1 vwCl (wsX G h z0.1 ++ wsM G g z0.2) H → va_D A (wsX G h z0.1 ++ wsM G g z0.2) → va_S A s.heap H locs → lv_has ls 4 [(0, .ref b), (1, .ref (h 0)), (2, .ref (g 0)), (3, .int x3)] → W p l e R s m args below meth c H locs 60 818 Q (F0 m 18 ls [])) : ∀ (x3 : Int32) (z0 : wXS × wSt) (H : Heap) (locs : List Loc) (ls : Array Slot), wplaw_1176 k18 L xs x3 z0 → va_P G.1 vwCl (wsX G h z0.1 ++ wsM G g z0.2) H → va_D A (wsX G h z0.1 ++ wsM G g z0.2) → va_S A s.heap H locs → lv_has ls 4 [(0, .ref b), (1, .ref (h 0)), (2, .ref (g 0)), (3, .int x3)] → W p l e R s m args below meth c H locs 60 818 Q (F0 m 1176 ls []) := by
  intro x3 z0 H locs ls hw hP hD hS hl
  have hx := hC.1
  have hb := hC.2.1
  unfold wplaw_1176 at hw
  refine lv_iinc (v := (x3 + (7 : Int32))) (lv' := [(3, .int (x3 + (7 : Int32))), (0, .ref b), (1, .ref (h 0)), (2, .ref (g 0))]) hx hb dL_law_1176 hl (k := 3) rfl rfl (by decide) rfl (fun ls hl => ?_)
  refine lv_goto (tgt := 18) hx hb dL_law_1179 (by decide) ?_
  exact I18 (x3 + (7 : Int32)) z0 _ _ _ hw hP hD hS (lv_sub hl [1, 2, 3, 0] rfl)
set_option maxHeartbeats 4000000 in
set_option maxRecDepth 100000 in
theorem blaw_1113 {p : Program} {l : Launch} {e : Env} {R : Room} {s : State} {m : MethodId} {args : Array Value} {below : List Frame} {meth : Method} {c : Code} {Q : State → Prop} {A : Nat → Prop} {G : wG} {h g : Nat → Nat} {b L : Nat} {xs : Nat → Int32} (hC : CallFix p m c cL_law 4 s args BIG RL) (hK : wKK G s) (hA : ∀ q, s.heap.size ≤ q → A q) (hX : va_X b L xs s s.heap) (hbl : b < s.heap.size) (hbA : ¬ A b) (hF : 2000 ≤ R.frames) (hL : 80000 ≤ R.locals) (hRc : 60 ≤ R.cells) (hRs : 818 ≤ R.slots) {k18 : Int32 → (wXS × wSt) → Prop} (I18 : ∀ (x3 : Int32) (z0 : wXS × wSt) (H : Heap) (locs : List Loc) (ls : Array Slot), k18 x3 z0 → va_P G.1 vwCl (wsX G h z0.1 ++ wsM G g z0.2) H → va_D A (wsX G h z0.1 ++ wsM G g z0.2) → va_S A s.heap H locs → lv_has ls 4 [(0, .ref b), (1, .ref (h 0)), (2, .ref (g 0)), (3, .int x3)] → W p l e R s m args below meth c H locs 60 818 Q (F0 m 18 ls [])) (B1176 : ∀ (x3 : Int32) (z0 : wXS × wSt) (H : Heap) (locs : List Loc) (ls : Array Slot), wplaw_1176 k18 L xs x3 z0 → va_P G.1 vwCl (wsX G h z0.1 ++ wsM G g z0.2) H → va_D A (wsX G h z0.1 ++ wsM G g z0.2) → va_S A s.heap H locs → lv_has ls 4 [(0, .ref b), (1, .ref (h 0)), (2, .ref (g 0)), (3, .int x3)] → W p l e R s m args below meth c H locs 60 818 Q (F0 m 1176 ls [])) : ∀ (x3 : Int32) (z0 : wXS × wSt) (H : Heap) (locs : List Loc) (ls : Array Slot), wplaw_1113 k18 L xs x3 z0 → va_P G.1 vwCl (wsX G h z0.1 ++ wsM G g z0.2) H → va_D A (wsX G h z0.1 ++ wsM G g z0.2) → va_S A s.heap H locs → lv_has ls 4 [(0, .ref b), (1, .ref (h 0)), (2, .ref (g 0)), (3, .int x3)] → W p l e R s m args below meth c H locs 60 818 Q (F0 m 1113 ls []) := by
  intro x3 z0 H locs ls hw hP hD hS hl
  have hx := hC.1
  have hb := hC.2.1
  unfold wplaw_1113 at hw
  refine lv_aload_n hx hb dL_law_1113 rfl (lv_at hl 1 rfl) ?_
  refine lv_aload_n hx hb dL_law_1114 rfl (lv_at hl 0 rfl) ?_
  refine lv_iload_n hx hb dL_law_1115 rfl (lv_at hl 3 rfl) ?_
  refine lv_iconst (v := (1 : Int32)) hx hb dL_law_1116 (by decide) ?_
  refine lv_iadd hx hb dL_law_1117 ?_
  refine va_sld hx hb hX hbl hbA hS (And.left hw) dL_law_1118 ?_
  have hw := And.right hw
  refine lv_aload_n hx hb dL_law_1119 rfl (lv_at hl 0 rfl) ?_
  refine lv_iload_n hx hb dL_law_1120 rfl (lv_at hl 3 rfl) ?_
  refine lv_iconst (v := (2 : Int32)) hx hb dL_law_1121 (by decide) ?_
  refine lv_iadd hx hb dL_law_1122 ?_
  refine va_sld hx hb hX hbl hbA hS (And.left hw) dL_law_1123 ?_
  have hw := And.right hw
  refine lv_aload_n hx hb dL_law_1124 rfl (lv_at hl 0 rfl) ?_
  refine lv_iload_n hx hb dL_law_1125 rfl (lv_at hl 3 rfl) ?_
  refine lv_iconst (v := (3 : Int32)) hx hb dL_law_1126 (by decide) ?_
  refine lv_iadd hx hb dL_law_1127 ?_
  refine va_sld hx hb hX hbl hbA hS (And.left hw) dL_law_1128 ?_
  have hw := And.right hw
  refine lv_aload_n hx hb dL_law_1129 rfl (lv_at hl 0 rfl) ?_
  refine lv_iload_n hx hb dL_law_1130 rfl (lv_at hl 3 rfl) ?_
  refine lv_iconst (v := (4 : Int32)) hx hb dL_law_1131 (by decide) ?_
  refine lv_iadd hx hb dL_law_1132 ?_
  refine va_sld hx hb hX hbl hbA hS (And.left hw) dL_law_1133 ?_
  have hw := And.right hw
  refine lv_aload_n hx hb dL_law_1134 rfl (lv_at hl 0 rfl) ?_
  refine lv_iload_n hx hb dL_law_1135 rfl (lv_at hl 3 rfl) ?_
  refine lv_iconst (v := (5 : Int32)) hx hb dL_law_1136 (by decide) ?_
  refine lv_iadd hx hb dL_law_1137 ?_
  refine va_sld hx hb hX hbl hbA hS (And.left hw) dL_law_1138 ?_
  have hw := And.right hw
  refine xc_wi (S := wXS) (wsz := fun q => (wsX G h q.1 ++ wsM G g q.2)) (f := fun u => (u, z0.2)) (xr_V hC (cX5_copy_c (h := h) hw) ⟨rfl, rfl⟩ bw_575 calX5_copy ⟨Nat.le_trans (Nat.le_of_ble_eq_true rfl) hF, Nat.le_trans (Nat.le_of_ble_eq_true rfl) hL⟩ (rest := []) (xpV hK (cut_XM_X0) hP hD rfl rfl) rfl hl rfl (Nat.le_of_ble_eq_true rfl) dL_law_1139 ⟨hRc, hRs⟩) (cut_XM_X0) hP hD hS hA (fun r1 u z1 H locs hz1 hw hP hD hS => ?_)
  have hw := hw z1 hz1
  refine lv_aload_n hx hb dL_law_1142 rfl (lv_at hl 2 rfl) ?_
  refine lv_aload_n hx hb dL_law_1143 rfl (lv_at hl 0 rfl) ?_
  refine lv_iload_n hx hb dL_law_1144 rfl (lv_at hl 3 rfl) ?_
  refine lv_iconst (v := (1 : Int32)) hx hb dL_law_1145 (by decide) ?_
  refine lv_iadd hx hb dL_law_1146 ?_
  refine va_sld hx hb hX hbl hbA hS (And.left hw) dL_law_1147 ?_
  have hw := And.right hw
  refine lv_aload_n hx hb dL_law_1148 rfl (lv_at hl 0 rfl) ?_
  refine lv_iload_n hx hb dL_law_1149 rfl (lv_at hl 3 rfl) ?_
  refine lv_iconst (v := (2 : Int32)) hx hb dL_law_1150 (by decide) ?_
  refine lv_iadd hx hb dL_law_1151 ?_
  refine va_sld hx hb hX hbl hbA hS (And.left hw) dL_law_1152 ?_
  have hw := And.right hw
  refine lv_aload_n hx hb dL_law_1153 rfl (lv_at hl 0 rfl) ?_
  refine lv_iload_n hx hb dL_law_1154 rfl (lv_at hl 3 rfl) ?_
  refine lv_iconst (v := (3 : Int32)) hx hb dL_law_1155 (by decide) ?_
  refine lv_iadd hx hb dL_law_1156 ?_
  refine va_sld hx hb hX hbl hbA hS (And.left hw) dL_law_1157 ?_
  have hw := And.right hw
  refine lv_aload_n hx hb dL_law_1158 rfl (lv_at hl 0 rfl) ?_
  refine lv_iload_n hx hb dL_law_1159 rfl (lv_at hl 3 rfl) ?_
  refine lv_iconst (v := (4 : Int32)) hx hb dL_law_1160 (by decide) ?_
  refine lv_iadd hx hb dL_law_1161 ?_
  refine va_sld hx hb hX hbl hbA hS (And.left hw) dL_law_1162 ?_
  have hw := And.right hw
  refine lv_aload_n hx hb dL_law_1163 rfl (lv_at hl 0 rfl) ?_
  refine lv_iload_n hx hb dL_law_1164 rfl (lv_at hl 3 rfl) ?_
  refine lv_iconst (v := (5 : Int32)) hx hb dL_law_1165 (by decide) ?_
  refine lv_iadd hx hb dL_law_1166 ?_
  refine va_sld hx hb hX hbl hbA hS (And.left hw) dL_law_1167 ?_
  have hw := And.right hw
  refine xc_wi (S := wSt) (wsz := fun q => (wsX G h q.1 ++ wsM G g q.2)) (f := fun u => (z1.1, u)) (xr_V hC (cX6_copy_c (h := g) hw) ⟨rfl, rfl⟩ bw_933 calX6_copy ⟨Nat.le_trans (Nat.le_of_ble_eq_true rfl) hF, Nat.le_trans (Nat.le_of_ble_eq_true rfl) hL⟩ (rest := [.int r1]) (xpV hK (cut_XM_M43) hP hD rfl rfl) rfl hl rfl (Nat.le_of_ble_eq_true rfl) dL_law_1168 ⟨hRc, hRs⟩) (cut_XM_M43) hP hD hS hA (fun r2 u z2 H locs hz1 hw hP hD hS => ?_)
  have hw := hw z2 hz1
  refine lv_icmp_eq (tgt := 1176) hx hb dL_law_1171 (by decide) (fun hc => ?_) (fun hc => ?_)
  · have hw := And.left hw hc
    exact B1176 x3 z2 _ _ _ hw hP hD hS (lv_sub hl [0, 1, 2, 3] rfl)
  · have hw := And.right hw hc
    refine lv_iconst (v := (0 : Int32)) hx hb dL_law_1174 (by decide) ?_
    exact False.elim hw
set_option maxHeartbeats 4000000 in
set_option maxRecDepth 100000 in
theorem blaw_1030 {p : Program} {l : Launch} {e : Env} {R : Room} {s : State} {m : MethodId} {args : Array Value} {below : List Frame} {meth : Method} {c : Code} {Q : State → Prop} {A : Nat → Prop} {G : wG} {h g : Nat → Nat} {b L : Nat} {xs : Nat → Int32} (hC : CallFix p m c cL_law 4 s args BIG RL) (hK : wKK G s) (hA : ∀ q, s.heap.size ≤ q → A q) (hX : va_X b L xs s s.heap) (hbl : b < s.heap.size) (hbA : ¬ A b) (hF : 2000 ≤ R.frames) (hL : 80000 ≤ R.locals) (hRc : 60 ≤ R.cells) (hRs : 818 ≤ R.slots) {k18 : Int32 → (wXS × wSt) → Prop} (I18 : ∀ (x3 : Int32) (z0 : wXS × wSt) (H : Heap) (locs : List Loc) (ls : Array Slot), k18 x3 z0 → va_P G.1 vwCl (wsX G h z0.1 ++ wsM G g z0.2) H → va_D A (wsX G h z0.1 ++ wsM G g z0.2) → va_S A s.heap H locs → lv_has ls 4 [(0, .ref b), (1, .ref (h 0)), (2, .ref (g 0)), (3, .int x3)] → W p l e R s m args below meth c H locs 60 818 Q (F0 m 18 ls [])) (B1176 : ∀ (x3 : Int32) (z0 : wXS × wSt) (H : Heap) (locs : List Loc) (ls : Array Slot), wplaw_1176 k18 L xs x3 z0 → va_P G.1 vwCl (wsX G h z0.1 ++ wsM G g z0.2) H → va_D A (wsX G h z0.1 ++ wsM G g z0.2) → va_S A s.heap H locs → lv_has ls 4 [(0, .ref b), (1, .ref (h 0)), (2, .ref (g 0)), (3, .int x3)] → W p l e R s m args below meth c H locs 60 818 Q (F0 m 1176 ls [])) : ∀ (x3 : Int32) (z0 : wXS × wSt) (H : Heap) (locs : List Loc) (ls : Array Slot), wplaw_1030 k18 L xs x3 z0 → va_P G.1 vwCl (wsX G h z0.1 ++ wsM G g z0.2) H → va_D A (wsX G h z0.1 ++ wsM G g z0.2) → va_S A s.heap H locs → lv_has ls 4 [(0, .ref b), (1, .ref (h 0)), (2, .ref (g 0)), (3, .int x3)] → W p l e R s m args below meth c H locs 60 818 Q (F0 m 1030 ls []) := by
  intro x3 z0 H locs ls hw hP hD hS hl
  have hx := hC.1
  have hb := hC.2.1
  unfold wplaw_1030 at hw
  refine lv_aload_n hx hb dL_law_1030 rfl (lv_at hl 1 rfl) ?_
  refine lv_aload_n hx hb dL_law_1031 rfl (lv_at hl 0 rfl) ?_
  refine lv_iload_n hx hb dL_law_1032 rfl (lv_at hl 3 rfl) ?_
  refine lv_iconst (v := (1 : Int32)) hx hb dL_law_1033 (by decide) ?_
  refine lv_iadd hx hb dL_law_1034 ?_
  refine va_sld hx hb hX hbl hbA hS (And.left hw) dL_law_1035 ?_
  have hw := And.right hw
  refine lv_aload_n hx hb dL_law_1036 rfl (lv_at hl 0 rfl) ?_
  refine lv_iload_n hx hb dL_law_1037 rfl (lv_at hl 3 rfl) ?_
  refine lv_iconst (v := (2 : Int32)) hx hb dL_law_1038 (by decide) ?_
  refine lv_iadd hx hb dL_law_1039 ?_
  refine va_sld hx hb hX hbl hbA hS (And.left hw) dL_law_1040 ?_
  have hw := And.right hw
  refine lv_aload_n hx hb dL_law_1041 rfl (lv_at hl 0 rfl) ?_
  refine lv_iload_n hx hb dL_law_1042 rfl (lv_at hl 3 rfl) ?_
  refine lv_iconst (v := (3 : Int32)) hx hb dL_law_1043 (by decide) ?_
  refine lv_iadd hx hb dL_law_1044 ?_
  refine va_sld hx hb hX hbl hbA hS (And.left hw) dL_law_1045 ?_
  have hw := And.right hw
  refine lv_aload_n hx hb dL_law_1046 rfl (lv_at hl 0 rfl) ?_
  refine lv_iload_n hx hb dL_law_1047 rfl (lv_at hl 3 rfl) ?_
  refine lv_iconst (v := (4 : Int32)) hx hb dL_law_1048 (by decide) ?_
  refine lv_iadd hx hb dL_law_1049 ?_
  refine va_sld hx hb hX hbl hbA hS (And.left hw) dL_law_1050 ?_
  have hw := And.right hw
  refine lv_i2l (v := ((xs (x3 + (4 : Int32)).toNatClampNeg).toInt64)) hx hb dL_law_1051 rfl ?_
  refine lv_bipush (v := (32 : Int32)) hx hb dL_law_1052 (by decide) ?_
  refine lv_lshl (v := (((xs (x3 + (4 : Int32)).toNatClampNeg).toInt64) <<< ((32 : Int32).toInt64 &&& 63))) hx hb dL_law_1054 rfl ?_
  refine lv_aload_n hx hb dL_law_1055 rfl (lv_at hl 0 rfl) ?_
  refine lv_iload_n hx hb dL_law_1056 rfl (lv_at hl 3 rfl) ?_
  refine lv_iconst (v := (5 : Int32)) hx hb dL_law_1057 (by decide) ?_
  refine lv_iadd hx hb dL_law_1058 ?_
  refine va_sld hx hb hX hbl hbA hS (And.left hw) dL_law_1059 ?_
  have hw := And.right hw
  refine lv_i2l (v := ((xs (x3 + (5 : Int32)).toNatClampNeg).toInt64)) hx hb dL_law_1060 rfl ?_
  refine lv_ldc2 (v := (4294967295 : Int64)) hx hb hC.2.2.2.1 (hC.2.2.2.2 _ bw_937) dL_law_1061 ?_
  refine lv_land hx hb dL_law_1064 ?_
  refine lv_lor hx hb dL_law_1065 ?_
  refine xc_wi (S := wXS) (wsz := fun q => (wsX G h q.1 ++ wsM G g q.2)) (f := fun u => (u, z0.2)) (xr_V hC (cX5_item_c (h := h) hw) ⟨rfl, rfl⟩ bw_571 calX5_item ⟨Nat.le_trans (Nat.le_of_ble_eq_true rfl) hF, Nat.le_trans (Nat.le_of_ble_eq_true rfl) hL⟩ (rest := []) (xpV hK (cut_XM_X0) hP hD rfl rfl) rfl hl rfl (Nat.le_of_ble_eq_true rfl) dL_law_1066 ⟨hRc, hRs⟩) (cut_XM_X0) hP hD hS hA (fun r1 u z1 H locs hz1 hw hP hD hS => ?_)
  have hw := hw z1 hz1
  refine lv_aload_n hx hb dL_law_1069 rfl (lv_at hl 2 rfl) ?_
  refine lv_aload_n hx hb dL_law_1070 rfl (lv_at hl 0 rfl) ?_
  refine lv_iload_n hx hb dL_law_1071 rfl (lv_at hl 3 rfl) ?_
  refine lv_iconst (v := (1 : Int32)) hx hb dL_law_1072 (by decide) ?_
  refine lv_iadd hx hb dL_law_1073 ?_
  refine va_sld hx hb hX hbl hbA hS (And.left hw) dL_law_1074 ?_
  have hw := And.right hw
  refine lv_aload_n hx hb dL_law_1075 rfl (lv_at hl 0 rfl) ?_
  refine lv_iload_n hx hb dL_law_1076 rfl (lv_at hl 3 rfl) ?_
  refine lv_iconst (v := (2 : Int32)) hx hb dL_law_1077 (by decide) ?_
  refine lv_iadd hx hb dL_law_1078 ?_
  refine va_sld hx hb hX hbl hbA hS (And.left hw) dL_law_1079 ?_
  have hw := And.right hw
  refine lv_aload_n hx hb dL_law_1080 rfl (lv_at hl 0 rfl) ?_
  refine lv_iload_n hx hb dL_law_1081 rfl (lv_at hl 3 rfl) ?_
  refine lv_iconst (v := (3 : Int32)) hx hb dL_law_1082 (by decide) ?_
  refine lv_iadd hx hb dL_law_1083 ?_
  refine va_sld hx hb hX hbl hbA hS (And.left hw) dL_law_1084 ?_
  have hw := And.right hw
  refine lv_aload_n hx hb dL_law_1085 rfl (lv_at hl 0 rfl) ?_
  refine lv_iload_n hx hb dL_law_1086 rfl (lv_at hl 3 rfl) ?_
  refine lv_iconst (v := (4 : Int32)) hx hb dL_law_1087 (by decide) ?_
  refine lv_iadd hx hb dL_law_1088 ?_
  refine va_sld hx hb hX hbl hbA hS (And.left hw) dL_law_1089 ?_
  have hw := And.right hw
  refine lv_i2l (v := ((xs (x3 + (4 : Int32)).toNatClampNeg).toInt64)) hx hb dL_law_1090 rfl ?_
  refine lv_bipush (v := (32 : Int32)) hx hb dL_law_1091 (by decide) ?_
  refine lv_lshl (v := (((xs (x3 + (4 : Int32)).toNatClampNeg).toInt64) <<< ((32 : Int32).toInt64 &&& 63))) hx hb dL_law_1093 rfl ?_
  refine lv_aload_n hx hb dL_law_1094 rfl (lv_at hl 0 rfl) ?_
  refine lv_iload_n hx hb dL_law_1095 rfl (lv_at hl 3 rfl) ?_
  refine lv_iconst (v := (5 : Int32)) hx hb dL_law_1096 (by decide) ?_
  refine lv_iadd hx hb dL_law_1097 ?_
  refine va_sld hx hb hX hbl hbA hS (And.left hw) dL_law_1098 ?_
  have hw := And.right hw
  refine lv_i2l (v := ((xs (x3 + (5 : Int32)).toNatClampNeg).toInt64)) hx hb dL_law_1099 rfl ?_
  refine lv_ldc2 (v := (4294967295 : Int64)) hx hb hC.2.2.2.1 (hC.2.2.2.2 _ bw_937) dL_law_1100 ?_
  refine lv_land hx hb dL_law_1103 ?_
  refine lv_lor hx hb dL_law_1104 ?_
  refine xc_wi (S := wSt) (wsz := fun q => (wsX G h q.1 ++ wsM G g q.2)) (f := fun u => (z1.1, u)) (xr_V hC (cX6_item_c (h := g) hw) ⟨rfl, rfl⟩ bw_910 calX6_item ⟨Nat.le_trans (Nat.le_of_ble_eq_true rfl) hF, Nat.le_trans (Nat.le_of_ble_eq_true rfl) hL⟩ (rest := [.int r1]) (xpV hK (cut_XM_M43) hP hD rfl rfl) rfl hl rfl (Nat.le_of_ble_eq_true rfl) dL_law_1105 ⟨hRc, hRs⟩) (cut_XM_M43) hP hD hS hA (fun r2 u z2 H locs hz1 hw hP hD hS => ?_)
  have hw := hw z2 hz1
  refine lv_icmp_eq (tgt := 1176) hx hb dL_law_1108 (by decide) (fun hc => ?_) (fun hc => ?_)
  · have hw := And.left hw hc
    exact B1176 x3 z2 _ _ _ hw hP hD hS (lv_sub hl [0, 1, 2, 3] rfl)
  · have hw := And.right hw hc
    refine lv_iconst (v := (0 : Int32)) hx hb dL_law_1111 (by decide) ?_
    exact False.elim hw
set_option maxHeartbeats 4000000 in
set_option maxRecDepth 100000 in
theorem blaw_1007 {p : Program} {l : Launch} {e : Env} {R : Room} {s : State} {m : MethodId} {args : Array Value} {below : List Frame} {meth : Method} {c : Code} {Q : State → Prop} {A : Nat → Prop} {G : wG} {h g : Nat → Nat} {b L : Nat} {xs : Nat → Int32} (hC : CallFix p m c cL_law 4 s args BIG RL) (hK : wKK G s) (hA : ∀ q, s.heap.size ≤ q → A q) (hX : va_X b L xs s s.heap) (hbl : b < s.heap.size) (hbA : ¬ A b) (hF : 2000 ≤ R.frames) (hL : 80000 ≤ R.locals) (hRc : 60 ≤ R.cells) (hRs : 818 ≤ R.slots) {k18 : Int32 → (wXS × wSt) → Prop} (I18 : ∀ (x3 : Int32) (z0 : wXS × wSt) (H : Heap) (locs : List Loc) (ls : Array Slot), k18 x3 z0 → va_P G.1 vwCl (wsX G h z0.1 ++ wsM G g z0.2) H → va_D A (wsX G h z0.1 ++ wsM G g z0.2) → va_S A s.heap H locs → lv_has ls 4 [(0, .ref b), (1, .ref (h 0)), (2, .ref (g 0)), (3, .int x3)] → W p l e R s m args below meth c H locs 60 818 Q (F0 m 18 ls [])) (B1176 : ∀ (x3 : Int32) (z0 : wXS × wSt) (H : Heap) (locs : List Loc) (ls : Array Slot), wplaw_1176 k18 L xs x3 z0 → va_P G.1 vwCl (wsX G h z0.1 ++ wsM G g z0.2) H → va_D A (wsX G h z0.1 ++ wsM G g z0.2) → va_S A s.heap H locs → lv_has ls 4 [(0, .ref b), (1, .ref (h 0)), (2, .ref (g 0)), (3, .int x3)] → W p l e R s m args below meth c H locs 60 818 Q (F0 m 1176 ls [])) : ∀ (x3 : Int32) (z0 : wXS × wSt) (H : Heap) (locs : List Loc) (ls : Array Slot), wplaw_1007 k18 L xs x3 z0 → va_P G.1 vwCl (wsX G h z0.1 ++ wsM G g z0.2) H → va_D A (wsX G h z0.1 ++ wsM G g z0.2) → va_S A s.heap H locs → lv_has ls 4 [(0, .ref b), (1, .ref (h 0)), (2, .ref (g 0)), (3, .int x3)] → W p l e R s m args below meth c H locs 60 818 Q (F0 m 1007 ls []) := by
  intro x3 z0 H locs ls hw hP hD hS hl
  have hx := hC.1
  have hb := hC.2.1
  unfold wplaw_1007 at hw
  refine lv_aload_n hx hb dL_law_1007 rfl (lv_at hl 1 rfl) ?_
  refine lv_aload_n hx hb dL_law_1008 rfl (lv_at hl 0 rfl) ?_
  refine lv_iload_n hx hb dL_law_1009 rfl (lv_at hl 3 rfl) ?_
  refine lv_iconst (v := (1 : Int32)) hx hb dL_law_1010 (by decide) ?_
  refine lv_iadd hx hb dL_law_1011 ?_
  refine va_sld hx hb hX hbl hbA hS (And.left hw) dL_law_1012 ?_
  have hw := And.right hw
  refine xc_wi (S := wXS) (wsz := fun q => (wsX G h q.1 ++ wsM G g q.2)) (f := fun u => (u, z0.2)) (xr_V hC (cX5_drop_c (h := h) hw) ⟨rfl, rfl⟩ bw_567 calX5_drop ⟨Nat.le_trans (Nat.le_of_ble_eq_true rfl) hF, Nat.le_trans (Nat.le_of_ble_eq_true rfl) hL⟩ (rest := []) (xpV hK (cut_XM_X0) hP hD rfl rfl) rfl hl rfl (Nat.le_of_ble_eq_true rfl) dL_law_1013 ⟨hRc, hRs⟩) (cut_XM_X0) hP hD hS hA (fun r1 u z1 H locs hz1 hw hP hD hS => ?_)
  have hw := hw z1 hz1
  refine lv_aload_n hx hb dL_law_1016 rfl (lv_at hl 2 rfl) ?_
  refine lv_aload_n hx hb dL_law_1017 rfl (lv_at hl 0 rfl) ?_
  refine lv_iload_n hx hb dL_law_1018 rfl (lv_at hl 3 rfl) ?_
  refine lv_iconst (v := (1 : Int32)) hx hb dL_law_1019 (by decide) ?_
  refine lv_iadd hx hb dL_law_1020 ?_
  refine va_sld hx hb hX hbl hbA hS (And.left hw) dL_law_1021 ?_
  have hw := And.right hw
  refine xc_wi (S := wSt) (wsz := fun q => (wsX G h q.1 ++ wsM G g q.2)) (f := fun u => (z1.1, u)) (xr_V hC (cX6_drop_c (h := g) hw) ⟨rfl, rfl⟩ bw_906 calX6_drop ⟨Nat.le_trans (Nat.le_of_ble_eq_true rfl) hF, Nat.le_trans (Nat.le_of_ble_eq_true rfl) hL⟩ (rest := [.int r1]) (xpV hK (cut_XM_M43) hP hD rfl rfl) rfl hl rfl (Nat.le_of_ble_eq_true rfl) dL_law_1022 ⟨hRc, hRs⟩) (cut_XM_M43) hP hD hS hA (fun r2 u z2 H locs hz1 hw hP hD hS => ?_)
  have hw := hw z2 hz1
  refine lv_icmp_eq (tgt := 1176) hx hb dL_law_1025 (by decide) (fun hc => ?_) (fun hc => ?_)
  · have hw := And.left hw hc
    exact B1176 x3 z2 _ _ _ hw hP hD hS (lv_sub hl [0, 1, 2, 3] rfl)
  · have hw := And.right hw hc
    refine lv_iconst (v := (0 : Int32)) hx hb dL_law_1028 (by decide) ?_
    exact False.elim hw
set_option maxHeartbeats 4000000 in
set_option maxRecDepth 100000 in
theorem blaw_964 {p : Program} {l : Launch} {e : Env} {R : Room} {s : State} {m : MethodId} {args : Array Value} {below : List Frame} {meth : Method} {c : Code} {Q : State → Prop} {A : Nat → Prop} {G : wG} {h g : Nat → Nat} {b L : Nat} {xs : Nat → Int32} (hC : CallFix p m c cL_law 4 s args BIG RL) (hK : wKK G s) (hA : ∀ q, s.heap.size ≤ q → A q) (hX : va_X b L xs s s.heap) (hbl : b < s.heap.size) (hbA : ¬ A b) (hF : 2000 ≤ R.frames) (hL : 80000 ≤ R.locals) (hRc : 60 ≤ R.cells) (hRs : 818 ≤ R.slots) {k18 : Int32 → (wXS × wSt) → Prop} (I18 : ∀ (x3 : Int32) (z0 : wXS × wSt) (H : Heap) (locs : List Loc) (ls : Array Slot), k18 x3 z0 → va_P G.1 vwCl (wsX G h z0.1 ++ wsM G g z0.2) H → va_D A (wsX G h z0.1 ++ wsM G g z0.2) → va_S A s.heap H locs → lv_has ls 4 [(0, .ref b), (1, .ref (h 0)), (2, .ref (g 0)), (3, .int x3)] → W p l e R s m args below meth c H locs 60 818 Q (F0 m 18 ls [])) (B1176 : ∀ (x3 : Int32) (z0 : wXS × wSt) (H : Heap) (locs : List Loc) (ls : Array Slot), wplaw_1176 k18 L xs x3 z0 → va_P G.1 vwCl (wsX G h z0.1 ++ wsM G g z0.2) H → va_D A (wsX G h z0.1 ++ wsM G g z0.2) → va_S A s.heap H locs → lv_has ls 4 [(0, .ref b), (1, .ref (h 0)), (2, .ref (g 0)), (3, .int x3)] → W p l e R s m args below meth c H locs 60 818 Q (F0 m 1176 ls [])) : ∀ (x3 : Int32) (z0 : wXS × wSt) (H : Heap) (locs : List Loc) (ls : Array Slot), wplaw_964 k18 L xs x3 z0 → va_P G.1 vwCl (wsX G h z0.1 ++ wsM G g z0.2) H → va_D A (wsX G h z0.1 ++ wsM G g z0.2) → va_S A s.heap H locs → lv_has ls 4 [(0, .ref b), (1, .ref (h 0)), (2, .ref (g 0)), (3, .int x3)] → W p l e R s m args below meth c H locs 60 818 Q (F0 m 964 ls []) := by
  intro x3 z0 H locs ls hw hP hD hS hl
  have hx := hC.1
  have hb := hC.2.1
  unfold wplaw_964 at hw
  refine lv_aload_n hx hb dL_law_964 rfl (lv_at hl 1 rfl) ?_
  refine lv_aload_n hx hb dL_law_965 rfl (lv_at hl 0 rfl) ?_
  refine lv_iload_n hx hb dL_law_966 rfl (lv_at hl 3 rfl) ?_
  refine lv_iconst (v := (1 : Int32)) hx hb dL_law_967 (by decide) ?_
  refine lv_iadd hx hb dL_law_968 ?_
  refine va_sld hx hb hX hbl hbA hS (And.left hw) dL_law_969 ?_
  have hw := And.right hw
  refine lv_aload_n hx hb dL_law_970 rfl (lv_at hl 0 rfl) ?_
  refine lv_iload_n hx hb dL_law_971 rfl (lv_at hl 3 rfl) ?_
  refine lv_iconst (v := (2 : Int32)) hx hb dL_law_972 (by decide) ?_
  refine lv_iadd hx hb dL_law_973 ?_
  refine va_sld hx hb hX hbl hbA hS (And.left hw) dL_law_974 ?_
  have hw := And.right hw
  refine lv_aload_n hx hb dL_law_975 rfl (lv_at hl 0 rfl) ?_
  refine lv_iload_n hx hb dL_law_976 rfl (lv_at hl 3 rfl) ?_
  refine lv_iconst (v := (3 : Int32)) hx hb dL_law_977 (by decide) ?_
  refine lv_iadd hx hb dL_law_978 ?_
  refine va_sld hx hb hX hbl hbA hS (And.left hw) dL_law_979 ?_
  have hw := And.right hw
  refine xc_wi (S := wXS) (wsz := fun q => (wsX G h q.1 ++ wsM G g q.2)) (f := fun u => (u, z0.2)) (xr_V hC (cX5_sheet_c (h := h) hw) ⟨rfl, rfl⟩ bw_559 calX5_sheet ⟨Nat.le_trans (Nat.le_of_ble_eq_true rfl) hF, Nat.le_trans (Nat.le_of_ble_eq_true rfl) hL⟩ (rest := []) (xpV hK (cut_XM_X0) hP hD rfl rfl) rfl hl rfl (Nat.le_of_ble_eq_true rfl) dL_law_980 ⟨hRc, hRs⟩) (cut_XM_X0) hP hD hS hA (fun r1 u z1 H locs hz1 hw hP hD hS => ?_)
  have hw := hw z1 hz1
  refine lv_aload_n hx hb dL_law_983 rfl (lv_at hl 2 rfl) ?_
  refine lv_aload_n hx hb dL_law_984 rfl (lv_at hl 0 rfl) ?_
  refine lv_iload_n hx hb dL_law_985 rfl (lv_at hl 3 rfl) ?_
  refine lv_iconst (v := (1 : Int32)) hx hb dL_law_986 (by decide) ?_
  refine lv_iadd hx hb dL_law_987 ?_
  refine va_sld hx hb hX hbl hbA hS (And.left hw) dL_law_988 ?_
  have hw := And.right hw
  refine lv_aload_n hx hb dL_law_989 rfl (lv_at hl 0 rfl) ?_
  refine lv_iload_n hx hb dL_law_990 rfl (lv_at hl 3 rfl) ?_
  refine lv_iconst (v := (2 : Int32)) hx hb dL_law_991 (by decide) ?_
  refine lv_iadd hx hb dL_law_992 ?_
  refine va_sld hx hb hX hbl hbA hS (And.left hw) dL_law_993 ?_
  have hw := And.right hw
  refine lv_aload_n hx hb dL_law_994 rfl (lv_at hl 0 rfl) ?_
  refine lv_iload_n hx hb dL_law_995 rfl (lv_at hl 3 rfl) ?_
  refine lv_iconst (v := (3 : Int32)) hx hb dL_law_996 (by decide) ?_
  refine lv_iadd hx hb dL_law_997 ?_
  refine va_sld hx hb hX hbl hbA hS (And.left hw) dL_law_998 ?_
  have hw := And.right hw
  refine xc_wi (S := wSt) (wsz := fun q => (wsX G h q.1 ++ wsM G g q.2)) (f := fun u => (z1.1, u)) (xr_V hC (cX6_sheet_c (h := g) hw) ⟨rfl, rfl⟩ bw_899 calX6_sheet ⟨Nat.le_trans (Nat.le_of_ble_eq_true rfl) hF, Nat.le_trans (Nat.le_of_ble_eq_true rfl) hL⟩ (rest := [.int r1]) (xpV hK (cut_XM_M43) hP hD rfl rfl) rfl hl rfl (Nat.le_of_ble_eq_true rfl) dL_law_999 ⟨hRc, hRs⟩) (cut_XM_M43) hP hD hS hA (fun r2 u z2 H locs hz1 hw hP hD hS => ?_)
  have hw := hw z2 hz1
  refine lv_icmp_eq (tgt := 1176) hx hb dL_law_1002 (by decide) (fun hc => ?_) (fun hc => ?_)
  · have hw := And.left hw hc
    exact B1176 x3 z2 _ _ _ hw hP hD hS (lv_sub hl [0, 1, 2, 3] rfl)
  · have hw := And.right hw hc
    refine lv_iconst (v := (0 : Int32)) hx hb dL_law_1005 (by decide) ?_
    exact False.elim hw
set_option maxHeartbeats 4000000 in
set_option maxRecDepth 100000 in
theorem blaw_911 {p : Program} {l : Launch} {e : Env} {R : Room} {s : State} {m : MethodId} {args : Array Value} {below : List Frame} {meth : Method} {c : Code} {Q : State → Prop} {A : Nat → Prop} {G : wG} {h g : Nat → Nat} {b L : Nat} {xs : Nat → Int32} (hC : CallFix p m c cL_law 4 s args BIG RL) (hK : wKK G s) (hA : ∀ q, s.heap.size ≤ q → A q) (hX : va_X b L xs s s.heap) (hbl : b < s.heap.size) (hbA : ¬ A b) (hF : 2000 ≤ R.frames) (hL : 80000 ≤ R.locals) (hRc : 60 ≤ R.cells) (hRs : 818 ≤ R.slots) {k18 : Int32 → (wXS × wSt) → Prop} (I18 : ∀ (x3 : Int32) (z0 : wXS × wSt) (H : Heap) (locs : List Loc) (ls : Array Slot), k18 x3 z0 → va_P G.1 vwCl (wsX G h z0.1 ++ wsM G g z0.2) H → va_D A (wsX G h z0.1 ++ wsM G g z0.2) → va_S A s.heap H locs → lv_has ls 4 [(0, .ref b), (1, .ref (h 0)), (2, .ref (g 0)), (3, .int x3)] → W p l e R s m args below meth c H locs 60 818 Q (F0 m 18 ls [])) (B1176 : ∀ (x3 : Int32) (z0 : wXS × wSt) (H : Heap) (locs : List Loc) (ls : Array Slot), wplaw_1176 k18 L xs x3 z0 → va_P G.1 vwCl (wsX G h z0.1 ++ wsM G g z0.2) H → va_D A (wsX G h z0.1 ++ wsM G g z0.2) → va_S A s.heap H locs → lv_has ls 4 [(0, .ref b), (1, .ref (h 0)), (2, .ref (g 0)), (3, .int x3)] → W p l e R s m args below meth c H locs 60 818 Q (F0 m 1176 ls [])) : ∀ (x3 : Int32) (z0 : wXS × wSt) (H : Heap) (locs : List Loc) (ls : Array Slot), wplaw_911 k18 L xs x3 z0 → va_P G.1 vwCl (wsX G h z0.1 ++ wsM G g z0.2) H → va_D A (wsX G h z0.1 ++ wsM G g z0.2) → va_S A s.heap H locs → lv_has ls 4 [(0, .ref b), (1, .ref (h 0)), (2, .ref (g 0)), (3, .int x3)] → W p l e R s m args below meth c H locs 60 818 Q (F0 m 911 ls []) := by
  intro x3 z0 H locs ls hw hP hD hS hl
  have hx := hC.1
  have hb := hC.2.1
  unfold wplaw_911 at hw
  refine lv_aload_n hx hb dL_law_911 rfl (lv_at hl 1 rfl) ?_
  refine lv_aload_n hx hb dL_law_912 rfl (lv_at hl 0 rfl) ?_
  refine lv_iload_n hx hb dL_law_913 rfl (lv_at hl 3 rfl) ?_
  refine lv_iconst (v := (1 : Int32)) hx hb dL_law_914 (by decide) ?_
  refine lv_iadd hx hb dL_law_915 ?_
  refine va_sld hx hb hX hbl hbA hS (And.left hw) dL_law_916 ?_
  have hw := And.right hw
  refine lv_aload_n hx hb dL_law_917 rfl (lv_at hl 0 rfl) ?_
  refine lv_iload_n hx hb dL_law_918 rfl (lv_at hl 3 rfl) ?_
  refine lv_iconst (v := (2 : Int32)) hx hb dL_law_919 (by decide) ?_
  refine lv_iadd hx hb dL_law_920 ?_
  refine va_sld hx hb hX hbl hbA hS (And.left hw) dL_law_921 ?_
  have hw := And.right hw
  refine lv_aload_n hx hb dL_law_922 rfl (lv_at hl 0 rfl) ?_
  refine lv_iload_n hx hb dL_law_923 rfl (lv_at hl 3 rfl) ?_
  refine lv_iconst (v := (3 : Int32)) hx hb dL_law_924 (by decide) ?_
  refine lv_iadd hx hb dL_law_925 ?_
  refine va_sld hx hb hX hbl hbA hS (And.left hw) dL_law_926 ?_
  have hw := And.right hw
  refine lv_aload_n hx hb dL_law_927 rfl (lv_at hl 0 rfl) ?_
  refine lv_iload_n hx hb dL_law_928 rfl (lv_at hl 3 rfl) ?_
  refine lv_iconst (v := (4 : Int32)) hx hb dL_law_929 (by decide) ?_
  refine lv_iadd hx hb dL_law_930 ?_
  refine va_sld hx hb hX hbl hbA hS (And.left hw) dL_law_931 ?_
  have hw := And.right hw
  refine xc_wi (S := wXS) (wsz := fun q => (wsX G h q.1 ++ wsM G g q.2)) (f := fun u => (u, z0.2)) (xr_V hC (cX5_film_c (h := h) hw) ⟨rfl, rfl⟩ bw_551 calX5_film ⟨Nat.le_trans (Nat.le_of_ble_eq_true rfl) hF, Nat.le_trans (Nat.le_of_ble_eq_true rfl) hL⟩ (rest := []) (xpV hK (cut_XM_X0) hP hD rfl rfl) rfl hl rfl (Nat.le_of_ble_eq_true rfl) dL_law_932 ⟨hRc, hRs⟩) (cut_XM_X0) hP hD hS hA (fun r1 u z1 H locs hz1 hw hP hD hS => ?_)
  have hw := hw z1 hz1
  refine lv_aload_n hx hb dL_law_935 rfl (lv_at hl 2 rfl) ?_
  refine lv_aload_n hx hb dL_law_936 rfl (lv_at hl 0 rfl) ?_
  refine lv_iload_n hx hb dL_law_937 rfl (lv_at hl 3 rfl) ?_
  refine lv_iconst (v := (1 : Int32)) hx hb dL_law_938 (by decide) ?_
  refine lv_iadd hx hb dL_law_939 ?_
  refine va_sld hx hb hX hbl hbA hS (And.left hw) dL_law_940 ?_
  have hw := And.right hw
  refine lv_aload_n hx hb dL_law_941 rfl (lv_at hl 0 rfl) ?_
  refine lv_iload_n hx hb dL_law_942 rfl (lv_at hl 3 rfl) ?_
  refine lv_iconst (v := (2 : Int32)) hx hb dL_law_943 (by decide) ?_
  refine lv_iadd hx hb dL_law_944 ?_
  refine va_sld hx hb hX hbl hbA hS (And.left hw) dL_law_945 ?_
  have hw := And.right hw
  refine lv_aload_n hx hb dL_law_946 rfl (lv_at hl 0 rfl) ?_
  refine lv_iload_n hx hb dL_law_947 rfl (lv_at hl 3 rfl) ?_
  refine lv_iconst (v := (3 : Int32)) hx hb dL_law_948 (by decide) ?_
  refine lv_iadd hx hb dL_law_949 ?_
  refine va_sld hx hb hX hbl hbA hS (And.left hw) dL_law_950 ?_
  have hw := And.right hw
  refine lv_aload_n hx hb dL_law_951 rfl (lv_at hl 0 rfl) ?_
  refine lv_iload_n hx hb dL_law_952 rfl (lv_at hl 3 rfl) ?_
  refine lv_iconst (v := (4 : Int32)) hx hb dL_law_953 (by decide) ?_
  refine lv_iadd hx hb dL_law_954 ?_
  refine va_sld hx hb hX hbl hbA hS (And.left hw) dL_law_955 ?_
  have hw := And.right hw
  refine xc_wi (S := wSt) (wsz := fun q => (wsX G h q.1 ++ wsM G g q.2)) (f := fun u => (z1.1, u)) (xr_V hC (cX6_film_c (h := g) hw) ⟨rfl, rfl⟩ bw_929 calX6_film ⟨Nat.le_trans (Nat.le_of_ble_eq_true rfl) hF, Nat.le_trans (Nat.le_of_ble_eq_true rfl) hL⟩ (rest := [.int r1]) (xpV hK (cut_XM_M43) hP hD rfl rfl) rfl hl rfl (Nat.le_of_ble_eq_true rfl) dL_law_956 ⟨hRc, hRs⟩) (cut_XM_M43) hP hD hS hA (fun r2 u z2 H locs hz1 hw hP hD hS => ?_)
  have hw := hw z2 hz1
  refine lv_icmp_eq (tgt := 1176) hx hb dL_law_959 (by decide) (fun hc => ?_) (fun hc => ?_)
  · have hw := And.left hw hc
    exact B1176 x3 z2 _ _ _ hw hP hD hS (lv_sub hl [0, 1, 2, 3] rfl)
  · have hw := And.right hw hc
    refine lv_iconst (v := (0 : Int32)) hx hb dL_law_962 (by decide) ?_
    exact False.elim hw
set_option maxHeartbeats 4000000 in
set_option maxRecDepth 100000 in
theorem blaw_858 {p : Program} {l : Launch} {e : Env} {R : Room} {s : State} {m : MethodId} {args : Array Value} {below : List Frame} {meth : Method} {c : Code} {Q : State → Prop} {A : Nat → Prop} {G : wG} {h g : Nat → Nat} {b L : Nat} {xs : Nat → Int32} (hC : CallFix p m c cL_law 4 s args BIG RL) (hK : wKK G s) (hA : ∀ q, s.heap.size ≤ q → A q) (hX : va_X b L xs s s.heap) (hbl : b < s.heap.size) (hbA : ¬ A b) (hF : 2000 ≤ R.frames) (hL : 80000 ≤ R.locals) (hRc : 60 ≤ R.cells) (hRs : 818 ≤ R.slots) {k18 : Int32 → (wXS × wSt) → Prop} (I18 : ∀ (x3 : Int32) (z0 : wXS × wSt) (H : Heap) (locs : List Loc) (ls : Array Slot), k18 x3 z0 → va_P G.1 vwCl (wsX G h z0.1 ++ wsM G g z0.2) H → va_D A (wsX G h z0.1 ++ wsM G g z0.2) → va_S A s.heap H locs → lv_has ls 4 [(0, .ref b), (1, .ref (h 0)), (2, .ref (g 0)), (3, .int x3)] → W p l e R s m args below meth c H locs 60 818 Q (F0 m 18 ls [])) (B1176 : ∀ (x3 : Int32) (z0 : wXS × wSt) (H : Heap) (locs : List Loc) (ls : Array Slot), wplaw_1176 k18 L xs x3 z0 → va_P G.1 vwCl (wsX G h z0.1 ++ wsM G g z0.2) H → va_D A (wsX G h z0.1 ++ wsM G g z0.2) → va_S A s.heap H locs → lv_has ls 4 [(0, .ref b), (1, .ref (h 0)), (2, .ref (g 0)), (3, .int x3)] → W p l e R s m args below meth c H locs 60 818 Q (F0 m 1176 ls [])) : ∀ (x3 : Int32) (z0 : wXS × wSt) (H : Heap) (locs : List Loc) (ls : Array Slot), wplaw_858 k18 L xs x3 z0 → va_P G.1 vwCl (wsX G h z0.1 ++ wsM G g z0.2) H → va_D A (wsX G h z0.1 ++ wsM G g z0.2) → va_S A s.heap H locs → lv_has ls 4 [(0, .ref b), (1, .ref (h 0)), (2, .ref (g 0)), (3, .int x3)] → W p l e R s m args below meth c H locs 60 818 Q (F0 m 858 ls []) := by
  intro x3 z0 H locs ls hw hP hD hS hl
  have hx := hC.1
  have hb := hC.2.1
  unfold wplaw_858 at hw
  refine lv_aload_n hx hb dL_law_858 rfl (lv_at hl 1 rfl) ?_
  refine lv_aload_n hx hb dL_law_859 rfl (lv_at hl 0 rfl) ?_
  refine lv_iload_n hx hb dL_law_860 rfl (lv_at hl 3 rfl) ?_
  refine lv_iconst (v := (1 : Int32)) hx hb dL_law_861 (by decide) ?_
  refine lv_iadd hx hb dL_law_862 ?_
  refine va_sld hx hb hX hbl hbA hS (And.left hw) dL_law_863 ?_
  have hw := And.right hw
  refine lv_aload_n hx hb dL_law_864 rfl (lv_at hl 0 rfl) ?_
  refine lv_iload_n hx hb dL_law_865 rfl (lv_at hl 3 rfl) ?_
  refine lv_iconst (v := (2 : Int32)) hx hb dL_law_866 (by decide) ?_
  refine lv_iadd hx hb dL_law_867 ?_
  refine va_sld hx hb hX hbl hbA hS (And.left hw) dL_law_868 ?_
  have hw := And.right hw
  refine lv_aload_n hx hb dL_law_869 rfl (lv_at hl 0 rfl) ?_
  refine lv_iload_n hx hb dL_law_870 rfl (lv_at hl 3 rfl) ?_
  refine lv_iconst (v := (3 : Int32)) hx hb dL_law_871 (by decide) ?_
  refine lv_iadd hx hb dL_law_872 ?_
  refine va_sld hx hb hX hbl hbA hS (And.left hw) dL_law_873 ?_
  have hw := And.right hw
  refine lv_aload_n hx hb dL_law_874 rfl (lv_at hl 0 rfl) ?_
  refine lv_iload_n hx hb dL_law_875 rfl (lv_at hl 3 rfl) ?_
  refine lv_iconst (v := (4 : Int32)) hx hb dL_law_876 (by decide) ?_
  refine lv_iadd hx hb dL_law_877 ?_
  refine va_sld hx hb hX hbl hbA hS (And.left hw) dL_law_878 ?_
  have hw := And.right hw
  refine vp_callSi (xro (xr_V hC (cX5_fit_c (h := h) hw) ⟨rfl, rfl⟩ bw_524 calX5_fit ⟨Nat.le_trans (Nat.le_of_ble_eq_true rfl) hF, Nat.le_trans (Nat.le_of_ble_eq_true rfl) hL⟩ (rest := []) (xpR hK (xCut.P (cut_XM_X0) hP) rfl rfl) rfl hl rfl (Nat.le_of_ble_eq_true rfl) dL_law_879 ⟨hRc, hRs⟩)) (fun r1 hw => ?_)
  refine lv_aload_n hx hb dL_law_882 rfl (lv_at hl 2 rfl) ?_
  refine lv_aload_n hx hb dL_law_883 rfl (lv_at hl 0 rfl) ?_
  refine lv_iload_n hx hb dL_law_884 rfl (lv_at hl 3 rfl) ?_
  refine lv_iconst (v := (1 : Int32)) hx hb dL_law_885 (by decide) ?_
  refine lv_iadd hx hb dL_law_886 ?_
  refine va_sld hx hb hX hbl hbA hS (And.left hw) dL_law_887 ?_
  have hw := And.right hw
  refine lv_aload_n hx hb dL_law_888 rfl (lv_at hl 0 rfl) ?_
  refine lv_iload_n hx hb dL_law_889 rfl (lv_at hl 3 rfl) ?_
  refine lv_iconst (v := (2 : Int32)) hx hb dL_law_890 (by decide) ?_
  refine lv_iadd hx hb dL_law_891 ?_
  refine va_sld hx hb hX hbl hbA hS (And.left hw) dL_law_892 ?_
  have hw := And.right hw
  refine lv_aload_n hx hb dL_law_893 rfl (lv_at hl 0 rfl) ?_
  refine lv_iload_n hx hb dL_law_894 rfl (lv_at hl 3 rfl) ?_
  refine lv_iconst (v := (3 : Int32)) hx hb dL_law_895 (by decide) ?_
  refine lv_iadd hx hb dL_law_896 ?_
  refine va_sld hx hb hX hbl hbA hS (And.left hw) dL_law_897 ?_
  have hw := And.right hw
  refine lv_aload_n hx hb dL_law_898 rfl (lv_at hl 0 rfl) ?_
  refine lv_iload_n hx hb dL_law_899 rfl (lv_at hl 3 rfl) ?_
  refine lv_iconst (v := (4 : Int32)) hx hb dL_law_900 (by decide) ?_
  refine lv_iadd hx hb dL_law_901 ?_
  refine va_sld hx hb hX hbl hbA hS (And.left hw) dL_law_902 ?_
  have hw := And.right hw
  refine vp_callSi (xro (xr_V hC (cX6_fit_c (h := g) hw) ⟨rfl, rfl⟩ bw_921 calX6_fit ⟨Nat.le_trans (Nat.le_of_ble_eq_true rfl) hF, Nat.le_trans (Nat.le_of_ble_eq_true rfl) hL⟩ (rest := [.int r1]) (xpR hK (xCut.P (cut_XM_M43) hP) rfl rfl) rfl hl rfl (Nat.le_of_ble_eq_true rfl) dL_law_903 ⟨hRc, hRs⟩)) (fun r2 hw => ?_)
  refine lv_icmp_eq (tgt := 1176) hx hb dL_law_906 (by decide) (fun hc => ?_) (fun hc => ?_)
  · have hw := And.left hw hc
    exact B1176 x3 z0 _ _ _ hw hP hD hS (lv_sub hl [0, 1, 2, 3] rfl)
  · have hw := And.right hw hc
    refine lv_iconst (v := (0 : Int32)) hx hb dL_law_909 (by decide) ?_
    exact False.elim hw
set_option maxHeartbeats 4000000 in
set_option maxRecDepth 100000 in
theorem blaw_845 {p : Program} {l : Launch} {e : Env} {R : Room} {s : State} {m : MethodId} {args : Array Value} {below : List Frame} {meth : Method} {c : Code} {Q : State → Prop} {A : Nat → Prop} {G : wG} {h g : Nat → Nat} {b L : Nat} {xs : Nat → Int32} (hC : CallFix p m c cL_law 4 s args BIG RL) (hK : wKK G s) (hA : ∀ q, s.heap.size ≤ q → A q) (hX : va_X b L xs s s.heap) (hbl : b < s.heap.size) (hbA : ¬ A b) (hF : 2000 ≤ R.frames) (hL : 80000 ≤ R.locals) (hRc : 60 ≤ R.cells) (hRs : 818 ≤ R.slots) {k18 : Int32 → (wXS × wSt) → Prop} (I18 : ∀ (x3 : Int32) (z0 : wXS × wSt) (H : Heap) (locs : List Loc) (ls : Array Slot), k18 x3 z0 → va_P G.1 vwCl (wsX G h z0.1 ++ wsM G g z0.2) H → va_D A (wsX G h z0.1 ++ wsM G g z0.2) → va_S A s.heap H locs → lv_has ls 4 [(0, .ref b), (1, .ref (h 0)), (2, .ref (g 0)), (3, .int x3)] → W p l e R s m args below meth c H locs 60 818 Q (F0 m 18 ls [])) (B1176 : ∀ (x3 : Int32) (z0 : wXS × wSt) (H : Heap) (locs : List Loc) (ls : Array Slot), wplaw_1176 k18 L xs x3 z0 → va_P G.1 vwCl (wsX G h z0.1 ++ wsM G g z0.2) H → va_D A (wsX G h z0.1 ++ wsM G g z0.2) → va_S A s.heap H locs → lv_has ls 4 [(0, .ref b), (1, .ref (h 0)), (2, .ref (g 0)), (3, .int x3)] → W p l e R s m args below meth c H locs 60 818 Q (F0 m 1176 ls [])) : ∀ (x3 : Int32) (z0 : wXS × wSt) (H : Heap) (locs : List Loc) (ls : Array Slot), wplaw_845 k18 L xs x3 z0 → va_P G.1 vwCl (wsX G h z0.1 ++ wsM G g z0.2) H → va_D A (wsX G h z0.1 ++ wsM G g z0.2) → va_S A s.heap H locs → lv_has ls 4 [(0, .ref b), (1, .ref (h 0)), (2, .ref (g 0)), (3, .int x3)] → W p l e R s m args below meth c H locs 60 818 Q (F0 m 845 ls []) := by
  intro x3 z0 H locs ls hw hP hD hS hl
  have hx := hC.1
  have hb := hC.2.1
  unfold wplaw_845 at hw
  refine lv_aload_n hx hb dL_law_845 rfl (lv_at hl 1 rfl) ?_
  refine xc_wi (S := wXS) (wsz := fun q => (wsX G h q.1 ++ wsM G g q.2)) (f := fun u => (u, z0.2)) (xr_V hC (cX5_restore_c (h := h) hw) ⟨rfl, rfl⟩ bw_520 calX5_restore ⟨Nat.le_trans (Nat.le_of_ble_eq_true rfl) hF, Nat.le_trans (Nat.le_of_ble_eq_true rfl) hL⟩ (rest := []) (xpV hK (cut_XM_X0) hP hD rfl rfl) rfl hl rfl (Nat.le_of_ble_eq_true rfl) dL_law_846 ⟨hRc, hRs⟩) (cut_XM_X0) hP hD hS hA (fun r1 u z1 H locs hz1 hw hP hD hS => ?_)
  have hw := hw z1 hz1
  refine lv_aload_n hx hb dL_law_849 rfl (lv_at hl 2 rfl) ?_
  refine xc_wi (S := wSt) (wsz := fun q => (wsX G h q.1 ++ wsM G g q.2)) (f := fun u => (z1.1, u)) (xr_V hC (cX6_restore_c (h := g) hw) ⟨rfl, rfl⟩ bw_895 calX6_restore ⟨Nat.le_trans (Nat.le_of_ble_eq_true rfl) hF, Nat.le_trans (Nat.le_of_ble_eq_true rfl) hL⟩ (rest := [.int r1]) (xpV hK (cut_XM_M43) hP hD rfl rfl) rfl hl rfl (Nat.le_of_ble_eq_true rfl) dL_law_850 ⟨hRc, hRs⟩) (cut_XM_M43) hP hD hS hA (fun r2 u z2 H locs hz1 hw hP hD hS => ?_)
  have hw := hw z2 hz1
  refine lv_icmp_eq (tgt := 1176) hx hb dL_law_853 (by decide) (fun hc => ?_) (fun hc => ?_)
  · have hw := And.left hw hc
    exact B1176 x3 z2 _ _ _ hw hP hD hS (lv_sub hl [0, 1, 2, 3] rfl)
  · have hw := And.right hw hc
    refine lv_iconst (v := (0 : Int32)) hx hb dL_law_856 (by decide) ?_
    exact False.elim hw
set_option maxHeartbeats 4000000 in
set_option maxRecDepth 100000 in
theorem blaw_832 {p : Program} {l : Launch} {e : Env} {R : Room} {s : State} {m : MethodId} {args : Array Value} {below : List Frame} {meth : Method} {c : Code} {Q : State → Prop} {A : Nat → Prop} {G : wG} {h g : Nat → Nat} {b L : Nat} {xs : Nat → Int32} (hC : CallFix p m c cL_law 4 s args BIG RL) (hK : wKK G s) (hA : ∀ q, s.heap.size ≤ q → A q) (hX : va_X b L xs s s.heap) (hbl : b < s.heap.size) (hbA : ¬ A b) (hF : 2000 ≤ R.frames) (hL : 80000 ≤ R.locals) (hRc : 60 ≤ R.cells) (hRs : 818 ≤ R.slots) {k18 : Int32 → (wXS × wSt) → Prop} (I18 : ∀ (x3 : Int32) (z0 : wXS × wSt) (H : Heap) (locs : List Loc) (ls : Array Slot), k18 x3 z0 → va_P G.1 vwCl (wsX G h z0.1 ++ wsM G g z0.2) H → va_D A (wsX G h z0.1 ++ wsM G g z0.2) → va_S A s.heap H locs → lv_has ls 4 [(0, .ref b), (1, .ref (h 0)), (2, .ref (g 0)), (3, .int x3)] → W p l e R s m args below meth c H locs 60 818 Q (F0 m 18 ls [])) (B1176 : ∀ (x3 : Int32) (z0 : wXS × wSt) (H : Heap) (locs : List Loc) (ls : Array Slot), wplaw_1176 k18 L xs x3 z0 → va_P G.1 vwCl (wsX G h z0.1 ++ wsM G g z0.2) H → va_D A (wsX G h z0.1 ++ wsM G g z0.2) → va_S A s.heap H locs → lv_has ls 4 [(0, .ref b), (1, .ref (h 0)), (2, .ref (g 0)), (3, .int x3)] → W p l e R s m args below meth c H locs 60 818 Q (F0 m 1176 ls [])) : ∀ (x3 : Int32) (z0 : wXS × wSt) (H : Heap) (locs : List Loc) (ls : Array Slot), wplaw_832 k18 L xs x3 z0 → va_P G.1 vwCl (wsX G h z0.1 ++ wsM G g z0.2) H → va_D A (wsX G h z0.1 ++ wsM G g z0.2) → va_S A s.heap H locs → lv_has ls 4 [(0, .ref b), (1, .ref (h 0)), (2, .ref (g 0)), (3, .int x3)] → W p l e R s m args below meth c H locs 60 818 Q (F0 m 832 ls []) := by
  intro x3 z0 H locs ls hw hP hD hS hl
  have hx := hC.1
  have hb := hC.2.1
  unfold wplaw_832 at hw
  refine lv_aload_n hx hb dL_law_832 rfl (lv_at hl 1 rfl) ?_
  refine xc_wi (S := wXS) (wsz := fun q => (wsX G h q.1 ++ wsM G g q.2)) (f := fun u => (u, z0.2)) (xr_V hC (cX5_image_c (h := h) hw) ⟨rfl, rfl⟩ bw_512 calX5_image ⟨Nat.le_trans (Nat.le_of_ble_eq_true rfl) hF, Nat.le_trans (Nat.le_of_ble_eq_true rfl) hL⟩ (rest := []) (xpV hK (cut_XM_X0) hP hD rfl rfl) rfl hl rfl (Nat.le_of_ble_eq_true rfl) dL_law_833 ⟨hRc, hRs⟩) (cut_XM_X0) hP hD hS hA (fun r1 u z1 H locs hz1 hw hP hD hS => ?_)
  have hw := hw z1 hz1
  refine lv_aload_n hx hb dL_law_836 rfl (lv_at hl 2 rfl) ?_
  refine xc_wi (S := wSt) (wsz := fun q => (wsX G h q.1 ++ wsM G g q.2)) (f := fun u => (z1.1, u)) (xr_V hC (cX6_image_c (h := g) hw) ⟨rfl, rfl⟩ bw_887 calX6_image ⟨Nat.le_trans (Nat.le_of_ble_eq_true rfl) hF, Nat.le_trans (Nat.le_of_ble_eq_true rfl) hL⟩ (rest := [.int r1]) (xpV hK (cut_XM_M43) hP hD rfl rfl) rfl hl rfl (Nat.le_of_ble_eq_true rfl) dL_law_837 ⟨hRc, hRs⟩) (cut_XM_M43) hP hD hS hA (fun r2 u z2 H locs hz1 hw hP hD hS => ?_)
  have hw := hw z2 hz1
  refine lv_icmp_eq (tgt := 1176) hx hb dL_law_840 (by decide) (fun hc => ?_) (fun hc => ?_)
  · have hw := And.left hw hc
    exact B1176 x3 z2 _ _ _ hw hP hD hS (lv_sub hl [0, 1, 2, 3] rfl)
  · have hw := And.right hw hc
    refine lv_iconst (v := (0 : Int32)) hx hb dL_law_843 (by decide) ?_
    exact False.elim hw
set_option maxHeartbeats 4000000 in
set_option maxRecDepth 100000 in
theorem blaw_809 {p : Program} {l : Launch} {e : Env} {R : Room} {s : State} {m : MethodId} {args : Array Value} {below : List Frame} {meth : Method} {c : Code} {Q : State → Prop} {A : Nat → Prop} {G : wG} {h g : Nat → Nat} {b L : Nat} {xs : Nat → Int32} (hC : CallFix p m c cL_law 4 s args BIG RL) (hK : wKK G s) (hA : ∀ q, s.heap.size ≤ q → A q) (hX : va_X b L xs s s.heap) (hbl : b < s.heap.size) (hbA : ¬ A b) (hF : 2000 ≤ R.frames) (hL : 80000 ≤ R.locals) (hRc : 60 ≤ R.cells) (hRs : 818 ≤ R.slots) {k18 : Int32 → (wXS × wSt) → Prop} (I18 : ∀ (x3 : Int32) (z0 : wXS × wSt) (H : Heap) (locs : List Loc) (ls : Array Slot), k18 x3 z0 → va_P G.1 vwCl (wsX G h z0.1 ++ wsM G g z0.2) H → va_D A (wsX G h z0.1 ++ wsM G g z0.2) → va_S A s.heap H locs → lv_has ls 4 [(0, .ref b), (1, .ref (h 0)), (2, .ref (g 0)), (3, .int x3)] → W p l e R s m args below meth c H locs 60 818 Q (F0 m 18 ls [])) (B1176 : ∀ (x3 : Int32) (z0 : wXS × wSt) (H : Heap) (locs : List Loc) (ls : Array Slot), wplaw_1176 k18 L xs x3 z0 → va_P G.1 vwCl (wsX G h z0.1 ++ wsM G g z0.2) H → va_D A (wsX G h z0.1 ++ wsM G g z0.2) → va_S A s.heap H locs → lv_has ls 4 [(0, .ref b), (1, .ref (h 0)), (2, .ref (g 0)), (3, .int x3)] → W p l e R s m args below meth c H locs 60 818 Q (F0 m 1176 ls [])) : ∀ (x3 : Int32) (z0 : wXS × wSt) (H : Heap) (locs : List Loc) (ls : Array Slot), wplaw_809 k18 L xs x3 z0 → va_P G.1 vwCl (wsX G h z0.1 ++ wsM G g z0.2) H → va_D A (wsX G h z0.1 ++ wsM G g z0.2) → va_S A s.heap H locs → lv_has ls 4 [(0, .ref b), (1, .ref (h 0)), (2, .ref (g 0)), (3, .int x3)] → W p l e R s m args below meth c H locs 60 818 Q (F0 m 809 ls []) := by
  intro x3 z0 H locs ls hw hP hD hS hl
  have hx := hC.1
  have hb := hC.2.1
  unfold wplaw_809 at hw
  refine lv_aload_n hx hb dL_law_809 rfl (lv_at hl 1 rfl) ?_
  refine lv_aload_n hx hb dL_law_810 rfl (lv_at hl 0 rfl) ?_
  refine lv_iload_n hx hb dL_law_811 rfl (lv_at hl 3 rfl) ?_
  refine lv_iconst (v := (1 : Int32)) hx hb dL_law_812 (by decide) ?_
  refine lv_iadd hx hb dL_law_813 ?_
  refine va_sld hx hb hX hbl hbA hS (And.left hw) dL_law_814 ?_
  have hw := And.right hw
  refine xc_wi (S := wXS) (wsz := fun q => (wsX G h q.1 ++ wsM G g q.2)) (f := fun u => (u, z0.2)) (xr_V hC (cX5_seed_c (h := h) hw) ⟨rfl, rfl⟩ bw_508 calX5_seed ⟨Nat.le_trans (Nat.le_of_ble_eq_true rfl) hF, Nat.le_trans (Nat.le_of_ble_eq_true rfl) hL⟩ (rest := []) (xpV hK (cut_XM_X0) hP hD rfl rfl) rfl hl rfl (Nat.le_of_ble_eq_true rfl) dL_law_815 ⟨hRc, hRs⟩) (cut_XM_X0) hP hD hS hA (fun r1 u z1 H locs hz1 hw hP hD hS => ?_)
  have hw := hw z1 hz1
  refine lv_aload_n hx hb dL_law_818 rfl (lv_at hl 2 rfl) ?_
  refine lv_aload_n hx hb dL_law_819 rfl (lv_at hl 0 rfl) ?_
  refine lv_iload_n hx hb dL_law_820 rfl (lv_at hl 3 rfl) ?_
  refine lv_iconst (v := (1 : Int32)) hx hb dL_law_821 (by decide) ?_
  refine lv_iadd hx hb dL_law_822 ?_
  refine va_sld hx hb hX hbl hbA hS (And.left hw) dL_law_823 ?_
  have hw := And.right hw
  refine xc_wi (S := wSt) (wsz := fun q => (wsX G h q.1 ++ wsM G g q.2)) (f := fun u => (z1.1, u)) (xr_V hC (cX6_seed_c (h := g) hw) ⟨rfl, rfl⟩ bw_883 calX6_seed ⟨Nat.le_trans (Nat.le_of_ble_eq_true rfl) hF, Nat.le_trans (Nat.le_of_ble_eq_true rfl) hL⟩ (rest := [.int r1]) (xpV hK (cut_XM_M43) hP hD rfl rfl) rfl hl rfl (Nat.le_of_ble_eq_true rfl) dL_law_824 ⟨hRc, hRs⟩) (cut_XM_M43) hP hD hS hA (fun r2 u z2 H locs hz1 hw hP hD hS => ?_)
  have hw := hw z2 hz1
  refine lv_icmp_eq (tgt := 1176) hx hb dL_law_827 (by decide) (fun hc => ?_) (fun hc => ?_)
  · have hw := And.left hw hc
    exact B1176 x3 z2 _ _ _ hw hP hD hS (lv_sub hl [0, 1, 2, 3] rfl)
  · have hw := And.right hw hc
    refine lv_iconst (v := (0 : Int32)) hx hb dL_law_830 (by decide) ?_
    exact False.elim hw
set_option maxHeartbeats 4000000 in
set_option maxRecDepth 100000 in
theorem blaw_786 {p : Program} {l : Launch} {e : Env} {R : Room} {s : State} {m : MethodId} {args : Array Value} {below : List Frame} {meth : Method} {c : Code} {Q : State → Prop} {A : Nat → Prop} {G : wG} {h g : Nat → Nat} {b L : Nat} {xs : Nat → Int32} (hC : CallFix p m c cL_law 4 s args BIG RL) (hK : wKK G s) (hA : ∀ q, s.heap.size ≤ q → A q) (hX : va_X b L xs s s.heap) (hbl : b < s.heap.size) (hbA : ¬ A b) (hF : 2000 ≤ R.frames) (hL : 80000 ≤ R.locals) (hRc : 60 ≤ R.cells) (hRs : 818 ≤ R.slots) {k18 : Int32 → (wXS × wSt) → Prop} (I18 : ∀ (x3 : Int32) (z0 : wXS × wSt) (H : Heap) (locs : List Loc) (ls : Array Slot), k18 x3 z0 → va_P G.1 vwCl (wsX G h z0.1 ++ wsM G g z0.2) H → va_D A (wsX G h z0.1 ++ wsM G g z0.2) → va_S A s.heap H locs → lv_has ls 4 [(0, .ref b), (1, .ref (h 0)), (2, .ref (g 0)), (3, .int x3)] → W p l e R s m args below meth c H locs 60 818 Q (F0 m 18 ls [])) (B1176 : ∀ (x3 : Int32) (z0 : wXS × wSt) (H : Heap) (locs : List Loc) (ls : Array Slot), wplaw_1176 k18 L xs x3 z0 → va_P G.1 vwCl (wsX G h z0.1 ++ wsM G g z0.2) H → va_D A (wsX G h z0.1 ++ wsM G g z0.2) → va_S A s.heap H locs → lv_has ls 4 [(0, .ref b), (1, .ref (h 0)), (2, .ref (g 0)), (3, .int x3)] → W p l e R s m args below meth c H locs 60 818 Q (F0 m 1176 ls [])) : ∀ (x3 : Int32) (z0 : wXS × wSt) (H : Heap) (locs : List Loc) (ls : Array Slot), wplaw_786 k18 L xs x3 z0 → va_P G.1 vwCl (wsX G h z0.1 ++ wsM G g z0.2) H → va_D A (wsX G h z0.1 ++ wsM G g z0.2) → va_S A s.heap H locs → lv_has ls 4 [(0, .ref b), (1, .ref (h 0)), (2, .ref (g 0)), (3, .int x3)] → W p l e R s m args below meth c H locs 60 818 Q (F0 m 786 ls []) := by
  intro x3 z0 H locs ls hw hP hD hS hl
  have hx := hC.1
  have hb := hC.2.1
  unfold wplaw_786 at hw
  refine lv_aload_n hx hb dL_law_786 rfl (lv_at hl 1 rfl) ?_
  refine lv_aload_n hx hb dL_law_787 rfl (lv_at hl 0 rfl) ?_
  refine lv_iload_n hx hb dL_law_788 rfl (lv_at hl 3 rfl) ?_
  refine lv_iconst (v := (1 : Int32)) hx hb dL_law_789 (by decide) ?_
  refine lv_iadd hx hb dL_law_790 ?_
  refine va_sld hx hb hX hbl hbA hS (And.left hw) dL_law_791 ?_
  have hw := And.right hw
  refine xc_wi (S := wXS) (wsz := fun q => (wsX G h q.1 ++ wsM G g q.2)) (f := fun u => (u, z0.2)) (xr_V hC (cX5_drawn_c (h := h) hw) ⟨rfl, rfl⟩ bw_496 calX5_drawn ⟨Nat.le_trans (Nat.le_of_ble_eq_true rfl) hF, Nat.le_trans (Nat.le_of_ble_eq_true rfl) hL⟩ (rest := []) (xpV hK (cut_XM_X0) hP hD rfl rfl) rfl hl rfl (Nat.le_of_ble_eq_true rfl) dL_law_792 ⟨hRc, hRs⟩) (cut_XM_X0) hP hD hS hA (fun r1 u z1 H locs hz1 hw hP hD hS => ?_)
  have hw := hw z1 hz1
  refine lv_aload_n hx hb dL_law_795 rfl (lv_at hl 2 rfl) ?_
  refine lv_aload_n hx hb dL_law_796 rfl (lv_at hl 0 rfl) ?_
  refine lv_iload_n hx hb dL_law_797 rfl (lv_at hl 3 rfl) ?_
  refine lv_iconst (v := (1 : Int32)) hx hb dL_law_798 (by decide) ?_
  refine lv_iadd hx hb dL_law_799 ?_
  refine va_sld hx hb hX hbl hbA hS (And.left hw) dL_law_800 ?_
  have hw := And.right hw
  refine xc_wi (S := wSt) (wsz := fun q => (wsX G h q.1 ++ wsM G g q.2)) (f := fun u => (z1.1, u)) (xr_V hC (cX6_drawn_c (h := g) hw) ⟨rfl, rfl⟩ bw_875 calX6_drawn ⟨Nat.le_trans (Nat.le_of_ble_eq_true rfl) hF, Nat.le_trans (Nat.le_of_ble_eq_true rfl) hL⟩ (rest := [.int r1]) (xpV hK (cut_XM_M43) hP hD rfl rfl) rfl hl rfl (Nat.le_of_ble_eq_true rfl) dL_law_801 ⟨hRc, hRs⟩) (cut_XM_M43) hP hD hS hA (fun r2 u z2 H locs hz1 hw hP hD hS => ?_)
  have hw := hw z2 hz1
  refine lv_icmp_eq (tgt := 1176) hx hb dL_law_804 (by decide) (fun hc => ?_) (fun hc => ?_)
  · have hw := And.left hw hc
    exact B1176 x3 z2 _ _ _ hw hP hD hS (lv_sub hl [0, 1, 2, 3] rfl)
  · have hw := And.right hw hc
    refine lv_iconst (v := (0 : Int32)) hx hb dL_law_807 (by decide) ?_
    exact False.elim hw
set_option maxHeartbeats 4000000 in
set_option maxRecDepth 100000 in
theorem blaw_763 {p : Program} {l : Launch} {e : Env} {R : Room} {s : State} {m : MethodId} {args : Array Value} {below : List Frame} {meth : Method} {c : Code} {Q : State → Prop} {A : Nat → Prop} {G : wG} {h g : Nat → Nat} {b L : Nat} {xs : Nat → Int32} (hC : CallFix p m c cL_law 4 s args BIG RL) (hK : wKK G s) (hA : ∀ q, s.heap.size ≤ q → A q) (hX : va_X b L xs s s.heap) (hbl : b < s.heap.size) (hbA : ¬ A b) (hF : 2000 ≤ R.frames) (hL : 80000 ≤ R.locals) (hRc : 60 ≤ R.cells) (hRs : 818 ≤ R.slots) {k18 : Int32 → (wXS × wSt) → Prop} (I18 : ∀ (x3 : Int32) (z0 : wXS × wSt) (H : Heap) (locs : List Loc) (ls : Array Slot), k18 x3 z0 → va_P G.1 vwCl (wsX G h z0.1 ++ wsM G g z0.2) H → va_D A (wsX G h z0.1 ++ wsM G g z0.2) → va_S A s.heap H locs → lv_has ls 4 [(0, .ref b), (1, .ref (h 0)), (2, .ref (g 0)), (3, .int x3)] → W p l e R s m args below meth c H locs 60 818 Q (F0 m 18 ls [])) (B1176 : ∀ (x3 : Int32) (z0 : wXS × wSt) (H : Heap) (locs : List Loc) (ls : Array Slot), wplaw_1176 k18 L xs x3 z0 → va_P G.1 vwCl (wsX G h z0.1 ++ wsM G g z0.2) H → va_D A (wsX G h z0.1 ++ wsM G g z0.2) → va_S A s.heap H locs → lv_has ls 4 [(0, .ref b), (1, .ref (h 0)), (2, .ref (g 0)), (3, .int x3)] → W p l e R s m args below meth c H locs 60 818 Q (F0 m 1176 ls [])) : ∀ (x3 : Int32) (z0 : wXS × wSt) (H : Heap) (locs : List Loc) (ls : Array Slot), wplaw_763 k18 L xs x3 z0 → va_P G.1 vwCl (wsX G h z0.1 ++ wsM G g z0.2) H → va_D A (wsX G h z0.1 ++ wsM G g z0.2) → va_S A s.heap H locs → lv_has ls 4 [(0, .ref b), (1, .ref (h 0)), (2, .ref (g 0)), (3, .int x3)] → W p l e R s m args below meth c H locs 60 818 Q (F0 m 763 ls []) := by
  intro x3 z0 H locs ls hw hP hD hS hl
  have hx := hC.1
  have hb := hC.2.1
  unfold wplaw_763 at hw
  refine lv_aload_n hx hb dL_law_763 rfl (lv_at hl 1 rfl) ?_
  refine lv_aload_n hx hb dL_law_764 rfl (lv_at hl 0 rfl) ?_
  refine lv_iload_n hx hb dL_law_765 rfl (lv_at hl 3 rfl) ?_
  refine lv_iconst (v := (1 : Int32)) hx hb dL_law_766 (by decide) ?_
  refine lv_iadd hx hb dL_law_767 ?_
  refine va_sld hx hb hX hbl hbA hS (And.left hw) dL_law_768 ?_
  have hw := And.right hw
  refine xc_wi (S := wXS) (wsz := fun q => (wsX G h q.1 ++ wsM G g q.2)) (f := fun u => (u, z0.2)) (xr_V hC (cX5_other_c (h := h) hw) ⟨rfl, rfl⟩ bw_492 calX5_other ⟨Nat.le_trans (Nat.le_of_ble_eq_true rfl) hF, Nat.le_trans (Nat.le_of_ble_eq_true rfl) hL⟩ (rest := []) (xpV hK (cut_XM_X0) hP hD rfl rfl) rfl hl rfl (Nat.le_of_ble_eq_true rfl) dL_law_769 ⟨hRc, hRs⟩) (cut_XM_X0) hP hD hS hA (fun r1 u z1 H locs hz1 hw hP hD hS => ?_)
  have hw := hw z1 hz1
  refine lv_aload_n hx hb dL_law_772 rfl (lv_at hl 2 rfl) ?_
  refine lv_aload_n hx hb dL_law_773 rfl (lv_at hl 0 rfl) ?_
  refine lv_iload_n hx hb dL_law_774 rfl (lv_at hl 3 rfl) ?_
  refine lv_iconst (v := (1 : Int32)) hx hb dL_law_775 (by decide) ?_
  refine lv_iadd hx hb dL_law_776 ?_
  refine va_sld hx hb hX hbl hbA hS (And.left hw) dL_law_777 ?_
  have hw := And.right hw
  refine xc_wi (S := wSt) (wsz := fun q => (wsX G h q.1 ++ wsM G g q.2)) (f := fun u => (z1.1, u)) (xr_V hC (cX6_other_c (h := g) hw) ⟨rfl, rfl⟩ bw_855 calX6_other ⟨Nat.le_trans (Nat.le_of_ble_eq_true rfl) hF, Nat.le_trans (Nat.le_of_ble_eq_true rfl) hL⟩ (rest := [.int r1]) (xpV hK (cut_XM_M43) hP hD rfl rfl) rfl hl rfl (Nat.le_of_ble_eq_true rfl) dL_law_778 ⟨hRc, hRs⟩) (cut_XM_M43) hP hD hS hA (fun r2 u z2 H locs hz1 hw hP hD hS => ?_)
  have hw := hw z2 hz1
  refine lv_icmp_eq (tgt := 1176) hx hb dL_law_781 (by decide) (fun hc => ?_) (fun hc => ?_)
  · have hw := And.left hw hc
    exact B1176 x3 z2 _ _ _ hw hP hD hS (lv_sub hl [0, 1, 2, 3] rfl)
  · have hw := And.right hw hc
    refine lv_iconst (v := (0 : Int32)) hx hb dL_law_784 (by decide) ?_
    exact False.elim hw
set_option maxHeartbeats 4000000 in
set_option maxRecDepth 100000 in
theorem blaw_688 {p : Program} {l : Launch} {e : Env} {R : Room} {s : State} {m : MethodId} {args : Array Value} {below : List Frame} {meth : Method} {c : Code} {Q : State → Prop} {A : Nat → Prop} {G : wG} {h g : Nat → Nat} {b L : Nat} {xs : Nat → Int32} (hC : CallFix p m c cL_law 4 s args BIG RL) (hK : wKK G s) (hA : ∀ q, s.heap.size ≤ q → A q) (hX : va_X b L xs s s.heap) (hbl : b < s.heap.size) (hbA : ¬ A b) (hF : 2000 ≤ R.frames) (hL : 80000 ≤ R.locals) (hRc : 60 ≤ R.cells) (hRs : 818 ≤ R.slots) {k18 : Int32 → (wXS × wSt) → Prop} (I18 : ∀ (x3 : Int32) (z0 : wXS × wSt) (H : Heap) (locs : List Loc) (ls : Array Slot), k18 x3 z0 → va_P G.1 vwCl (wsX G h z0.1 ++ wsM G g z0.2) H → va_D A (wsX G h z0.1 ++ wsM G g z0.2) → va_S A s.heap H locs → lv_has ls 4 [(0, .ref b), (1, .ref (h 0)), (2, .ref (g 0)), (3, .int x3)] → W p l e R s m args below meth c H locs 60 818 Q (F0 m 18 ls [])) (B1176 : ∀ (x3 : Int32) (z0 : wXS × wSt) (H : Heap) (locs : List Loc) (ls : Array Slot), wplaw_1176 k18 L xs x3 z0 → va_P G.1 vwCl (wsX G h z0.1 ++ wsM G g z0.2) H → va_D A (wsX G h z0.1 ++ wsM G g z0.2) → va_S A s.heap H locs → lv_has ls 4 [(0, .ref b), (1, .ref (h 0)), (2, .ref (g 0)), (3, .int x3)] → W p l e R s m args below meth c H locs 60 818 Q (F0 m 1176 ls [])) : ∀ (x3 : Int32) (z0 : wXS × wSt) (H : Heap) (locs : List Loc) (ls : Array Slot), wplaw_688 k18 L xs x3 z0 → va_P G.1 vwCl (wsX G h z0.1 ++ wsM G g z0.2) H → va_D A (wsX G h z0.1 ++ wsM G g z0.2) → va_S A s.heap H locs → lv_has ls 4 [(0, .ref b), (1, .ref (h 0)), (2, .ref (g 0)), (3, .int x3)] → W p l e R s m args below meth c H locs 60 818 Q (F0 m 688 ls []) := by
  intro x3 z0 H locs ls hw hP hD hS hl
  have hx := hC.1
  have hb := hC.2.1
  unfold wplaw_688 at hw
  refine lv_aload_n hx hb dL_law_688 rfl (lv_at hl 1 rfl) ?_
  refine lv_aload_n hx hb dL_law_689 rfl (lv_at hl 0 rfl) ?_
  refine lv_iload_n hx hb dL_law_690 rfl (lv_at hl 3 rfl) ?_
  refine lv_iconst (v := (1 : Int32)) hx hb dL_law_691 (by decide) ?_
  refine lv_iadd hx hb dL_law_692 ?_
  refine va_sld hx hb hX hbl hbA hS (And.left hw) dL_law_693 ?_
  have hw := And.right hw
  refine lv_aload_n hx hb dL_law_694 rfl (lv_at hl 0 rfl) ?_
  refine lv_iload_n hx hb dL_law_695 rfl (lv_at hl 3 rfl) ?_
  refine lv_iconst (v := (2 : Int32)) hx hb dL_law_696 (by decide) ?_
  refine lv_iadd hx hb dL_law_697 ?_
  refine va_sld hx hb hX hbl hbA hS (And.left hw) dL_law_698 ?_
  have hw := And.right hw
  refine lv_aload_n hx hb dL_law_699 rfl (lv_at hl 0 rfl) ?_
  refine lv_iload_n hx hb dL_law_700 rfl (lv_at hl 3 rfl) ?_
  refine lv_iconst (v := (3 : Int32)) hx hb dL_law_701 (by decide) ?_
  refine lv_iadd hx hb dL_law_702 ?_
  refine va_sld hx hb hX hbl hbA hS (And.left hw) dL_law_703 ?_
  have hw := And.right hw
  refine lv_aload_n hx hb dL_law_704 rfl (lv_at hl 0 rfl) ?_
  refine lv_iload_n hx hb dL_law_705 rfl (lv_at hl 3 rfl) ?_
  refine lv_iconst (v := (4 : Int32)) hx hb dL_law_706 (by decide) ?_
  refine lv_iadd hx hb dL_law_707 ?_
  refine va_sld hx hb hX hbl hbA hS (And.left hw) dL_law_708 ?_
  have hw := And.right hw
  refine lv_aload_n hx hb dL_law_709 rfl (lv_at hl 0 rfl) ?_
  refine lv_iload_n hx hb dL_law_710 rfl (lv_at hl 3 rfl) ?_
  refine lv_iconst (v := (5 : Int32)) hx hb dL_law_711 (by decide) ?_
  refine lv_iadd hx hb dL_law_712 ?_
  refine va_sld hx hb hX hbl hbA hS (And.left hw) dL_law_713 ?_
  have hw := And.right hw
  refine lv_aload_n hx hb dL_law_714 rfl (lv_at hl 0 rfl) ?_
  refine lv_iload_n hx hb dL_law_715 rfl (lv_at hl 3 rfl) ?_
  refine lv_bipush (v := (6 : Int32)) hx hb dL_law_716 (by decide) ?_
  refine lv_iadd hx hb dL_law_718 ?_
  refine va_sld hx hb hX hbl hbA hS (And.left hw) dL_law_719 ?_
  have hw := And.right hw
  refine vp_callSi (xro (xr_V hC (cX5_liar_c (h := h) hw) ⟨rfl, rfl⟩ bw_484 calX5_liar ⟨Nat.le_trans (Nat.le_of_ble_eq_true rfl) hF, Nat.le_trans (Nat.le_of_ble_eq_true rfl) hL⟩ (rest := []) (xpR hK (xCut.P (cut_XM_X0) hP) rfl rfl) rfl hl rfl (Nat.le_of_ble_eq_true rfl) dL_law_720 ⟨hRc, hRs⟩)) (fun r1 hw => ?_)
  refine lv_aload_n hx hb dL_law_723 rfl (lv_at hl 2 rfl) ?_
  refine lv_aload_n hx hb dL_law_724 rfl (lv_at hl 0 rfl) ?_
  refine lv_iload_n hx hb dL_law_725 rfl (lv_at hl 3 rfl) ?_
  refine lv_iconst (v := (1 : Int32)) hx hb dL_law_726 (by decide) ?_
  refine lv_iadd hx hb dL_law_727 ?_
  refine va_sld hx hb hX hbl hbA hS (And.left hw) dL_law_728 ?_
  have hw := And.right hw
  refine lv_aload_n hx hb dL_law_729 rfl (lv_at hl 0 rfl) ?_
  refine lv_iload_n hx hb dL_law_730 rfl (lv_at hl 3 rfl) ?_
  refine lv_iconst (v := (2 : Int32)) hx hb dL_law_731 (by decide) ?_
  refine lv_iadd hx hb dL_law_732 ?_
  refine va_sld hx hb hX hbl hbA hS (And.left hw) dL_law_733 ?_
  have hw := And.right hw
  refine lv_aload_n hx hb dL_law_734 rfl (lv_at hl 0 rfl) ?_
  refine lv_iload_n hx hb dL_law_735 rfl (lv_at hl 3 rfl) ?_
  refine lv_iconst (v := (3 : Int32)) hx hb dL_law_736 (by decide) ?_
  refine lv_iadd hx hb dL_law_737 ?_
  refine va_sld hx hb hX hbl hbA hS (And.left hw) dL_law_738 ?_
  have hw := And.right hw
  refine lv_aload_n hx hb dL_law_739 rfl (lv_at hl 0 rfl) ?_
  refine lv_iload_n hx hb dL_law_740 rfl (lv_at hl 3 rfl) ?_
  refine lv_iconst (v := (4 : Int32)) hx hb dL_law_741 (by decide) ?_
  refine lv_iadd hx hb dL_law_742 ?_
  refine va_sld hx hb hX hbl hbA hS (And.left hw) dL_law_743 ?_
  have hw := And.right hw
  refine lv_aload_n hx hb dL_law_744 rfl (lv_at hl 0 rfl) ?_
  refine lv_iload_n hx hb dL_law_745 rfl (lv_at hl 3 rfl) ?_
  refine lv_iconst (v := (5 : Int32)) hx hb dL_law_746 (by decide) ?_
  refine lv_iadd hx hb dL_law_747 ?_
  refine va_sld hx hb hX hbl hbA hS (And.left hw) dL_law_748 ?_
  have hw := And.right hw
  refine lv_aload_n hx hb dL_law_749 rfl (lv_at hl 0 rfl) ?_
  refine lv_iload_n hx hb dL_law_750 rfl (lv_at hl 3 rfl) ?_
  refine lv_bipush (v := (6 : Int32)) hx hb dL_law_751 (by decide) ?_
  refine lv_iadd hx hb dL_law_753 ?_
  refine va_sld hx hb hX hbl hbA hS (And.left hw) dL_law_754 ?_
  have hw := And.right hw
  refine vp_callSi (xro (xr_V hC (cX6_liar_c (h := g) hw) ⟨rfl, rfl⟩ bw_871 calX6_liar ⟨Nat.le_trans (Nat.le_of_ble_eq_true rfl) hF, Nat.le_trans (Nat.le_of_ble_eq_true rfl) hL⟩ (rest := [.int r1]) (xpR hK (xCut.P (cut_XM_M43) hP) rfl rfl) rfl hl rfl (Nat.le_of_ble_eq_true rfl) dL_law_755 ⟨hRc, hRs⟩)) (fun r2 hw => ?_)
  refine lv_icmp_eq (tgt := 1176) hx hb dL_law_758 (by decide) (fun hc => ?_) (fun hc => ?_)
  · have hw := And.left hw hc
    exact B1176 x3 z0 _ _ _ hw hP hD hS (lv_sub hl [0, 1, 2, 3] rfl)
  · have hw := And.right hw hc
    refine lv_iconst (v := (0 : Int32)) hx hb dL_law_761 (by decide) ?_
    exact False.elim hw
set_option maxHeartbeats 4000000 in
set_option maxRecDepth 100000 in
theorem blaw_645 {p : Program} {l : Launch} {e : Env} {R : Room} {s : State} {m : MethodId} {args : Array Value} {below : List Frame} {meth : Method} {c : Code} {Q : State → Prop} {A : Nat → Prop} {G : wG} {h g : Nat → Nat} {b L : Nat} {xs : Nat → Int32} (hC : CallFix p m c cL_law 4 s args BIG RL) (hK : wKK G s) (hA : ∀ q, s.heap.size ≤ q → A q) (hX : va_X b L xs s s.heap) (hbl : b < s.heap.size) (hbA : ¬ A b) (hF : 2000 ≤ R.frames) (hL : 80000 ≤ R.locals) (hRc : 60 ≤ R.cells) (hRs : 818 ≤ R.slots) {k18 : Int32 → (wXS × wSt) → Prop} (I18 : ∀ (x3 : Int32) (z0 : wXS × wSt) (H : Heap) (locs : List Loc) (ls : Array Slot), k18 x3 z0 → va_P G.1 vwCl (wsX G h z0.1 ++ wsM G g z0.2) H → va_D A (wsX G h z0.1 ++ wsM G g z0.2) → va_S A s.heap H locs → lv_has ls 4 [(0, .ref b), (1, .ref (h 0)), (2, .ref (g 0)), (3, .int x3)] → W p l e R s m args below meth c H locs 60 818 Q (F0 m 18 ls [])) (B1176 : ∀ (x3 : Int32) (z0 : wXS × wSt) (H : Heap) (locs : List Loc) (ls : Array Slot), wplaw_1176 k18 L xs x3 z0 → va_P G.1 vwCl (wsX G h z0.1 ++ wsM G g z0.2) H → va_D A (wsX G h z0.1 ++ wsM G g z0.2) → va_S A s.heap H locs → lv_has ls 4 [(0, .ref b), (1, .ref (h 0)), (2, .ref (g 0)), (3, .int x3)] → W p l e R s m args below meth c H locs 60 818 Q (F0 m 1176 ls [])) : ∀ (x3 : Int32) (z0 : wXS × wSt) (H : Heap) (locs : List Loc) (ls : Array Slot), wplaw_645 k18 L xs x3 z0 → va_P G.1 vwCl (wsX G h z0.1 ++ wsM G g z0.2) H → va_D A (wsX G h z0.1 ++ wsM G g z0.2) → va_S A s.heap H locs → lv_has ls 4 [(0, .ref b), (1, .ref (h 0)), (2, .ref (g 0)), (3, .int x3)] → W p l e R s m args below meth c H locs 60 818 Q (F0 m 645 ls []) := by
  intro x3 z0 H locs ls hw hP hD hS hl
  have hx := hC.1
  have hb := hC.2.1
  unfold wplaw_645 at hw
  refine lv_aload_n hx hb dL_law_645 rfl (lv_at hl 1 rfl) ?_
  refine lv_aload_n hx hb dL_law_646 rfl (lv_at hl 0 rfl) ?_
  refine lv_iload_n hx hb dL_law_647 rfl (lv_at hl 3 rfl) ?_
  refine lv_iconst (v := (1 : Int32)) hx hb dL_law_648 (by decide) ?_
  refine lv_iadd hx hb dL_law_649 ?_
  refine va_sld hx hb hX hbl hbA hS (And.left hw) dL_law_650 ?_
  have hw := And.right hw
  refine lv_aload_n hx hb dL_law_651 rfl (lv_at hl 0 rfl) ?_
  refine lv_iload_n hx hb dL_law_652 rfl (lv_at hl 3 rfl) ?_
  refine lv_iconst (v := (2 : Int32)) hx hb dL_law_653 (by decide) ?_
  refine lv_iadd hx hb dL_law_654 ?_
  refine va_sld hx hb hX hbl hbA hS (And.left hw) dL_law_655 ?_
  have hw := And.right hw
  refine lv_aload_n hx hb dL_law_656 rfl (lv_at hl 0 rfl) ?_
  refine lv_iload_n hx hb dL_law_657 rfl (lv_at hl 3 rfl) ?_
  refine lv_iconst (v := (3 : Int32)) hx hb dL_law_658 (by decide) ?_
  refine lv_iadd hx hb dL_law_659 ?_
  refine va_sld hx hb hX hbl hbA hS (And.left hw) dL_law_660 ?_
  have hw := And.right hw
  refine vp_callSi (xro (xr_V hC (cX5_stranger_c (h := h) hw) ⟨rfl, rfl⟩ bw_473 calX5_stranger ⟨Nat.le_trans (Nat.le_of_ble_eq_true rfl) hF, Nat.le_trans (Nat.le_of_ble_eq_true rfl) hL⟩ (rest := []) (xpR hK (xCut.P (cut_XM_X0) hP) rfl rfl) rfl hl rfl (Nat.le_of_ble_eq_true rfl) dL_law_661 ⟨hRc, hRs⟩)) (fun r1 hw => ?_)
  refine lv_aload_n hx hb dL_law_664 rfl (lv_at hl 2 rfl) ?_
  refine lv_aload_n hx hb dL_law_665 rfl (lv_at hl 0 rfl) ?_
  refine lv_iload_n hx hb dL_law_666 rfl (lv_at hl 3 rfl) ?_
  refine lv_iconst (v := (1 : Int32)) hx hb dL_law_667 (by decide) ?_
  refine lv_iadd hx hb dL_law_668 ?_
  refine va_sld hx hb hX hbl hbA hS (And.left hw) dL_law_669 ?_
  have hw := And.right hw
  refine lv_aload_n hx hb dL_law_670 rfl (lv_at hl 0 rfl) ?_
  refine lv_iload_n hx hb dL_law_671 rfl (lv_at hl 3 rfl) ?_
  refine lv_iconst (v := (2 : Int32)) hx hb dL_law_672 (by decide) ?_
  refine lv_iadd hx hb dL_law_673 ?_
  refine va_sld hx hb hX hbl hbA hS (And.left hw) dL_law_674 ?_
  have hw := And.right hw
  refine lv_aload_n hx hb dL_law_675 rfl (lv_at hl 0 rfl) ?_
  refine lv_iload_n hx hb dL_law_676 rfl (lv_at hl 3 rfl) ?_
  refine lv_iconst (v := (3 : Int32)) hx hb dL_law_677 (by decide) ?_
  refine lv_iadd hx hb dL_law_678 ?_
  refine va_sld hx hb hX hbl hbA hS (And.left hw) dL_law_679 ?_
  have hw := And.right hw
  refine vp_callSi (xro (xr_V hC (cX6_stranger_c (h := g) hw) ⟨rfl, rfl⟩ bw_867 calX6_stranger ⟨Nat.le_trans (Nat.le_of_ble_eq_true rfl) hF, Nat.le_trans (Nat.le_of_ble_eq_true rfl) hL⟩ (rest := [.int r1]) (xpR hK (xCut.P (cut_XM_M43) hP) rfl rfl) rfl hl rfl (Nat.le_of_ble_eq_true rfl) dL_law_680 ⟨hRc, hRs⟩)) (fun r2 hw => ?_)
  refine lv_icmp_eq (tgt := 1176) hx hb dL_law_683 (by decide) (fun hc => ?_) (fun hc => ?_)
  · have hw := And.left hw hc
    exact B1176 x3 z0 _ _ _ hw hP hD hS (lv_sub hl [0, 1, 2, 3] rfl)
  · have hw := And.right hw hc
    refine lv_iconst (v := (0 : Int32)) hx hb dL_law_686 (by decide) ?_
    exact False.elim hw
set_option maxHeartbeats 4000000 in
set_option maxRecDepth 100000 in
theorem blaw_612 {p : Program} {l : Launch} {e : Env} {R : Room} {s : State} {m : MethodId} {args : Array Value} {below : List Frame} {meth : Method} {c : Code} {Q : State → Prop} {A : Nat → Prop} {G : wG} {h g : Nat → Nat} {b L : Nat} {xs : Nat → Int32} (hC : CallFix p m c cL_law 4 s args BIG RL) (hK : wKK G s) (hA : ∀ q, s.heap.size ≤ q → A q) (hX : va_X b L xs s s.heap) (hbl : b < s.heap.size) (hbA : ¬ A b) (hF : 2000 ≤ R.frames) (hL : 80000 ≤ R.locals) (hRc : 60 ≤ R.cells) (hRs : 818 ≤ R.slots) {k18 : Int32 → (wXS × wSt) → Prop} (I18 : ∀ (x3 : Int32) (z0 : wXS × wSt) (H : Heap) (locs : List Loc) (ls : Array Slot), k18 x3 z0 → va_P G.1 vwCl (wsX G h z0.1 ++ wsM G g z0.2) H → va_D A (wsX G h z0.1 ++ wsM G g z0.2) → va_S A s.heap H locs → lv_has ls 4 [(0, .ref b), (1, .ref (h 0)), (2, .ref (g 0)), (3, .int x3)] → W p l e R s m args below meth c H locs 60 818 Q (F0 m 18 ls [])) (B1176 : ∀ (x3 : Int32) (z0 : wXS × wSt) (H : Heap) (locs : List Loc) (ls : Array Slot), wplaw_1176 k18 L xs x3 z0 → va_P G.1 vwCl (wsX G h z0.1 ++ wsM G g z0.2) H → va_D A (wsX G h z0.1 ++ wsM G g z0.2) → va_S A s.heap H locs → lv_has ls 4 [(0, .ref b), (1, .ref (h 0)), (2, .ref (g 0)), (3, .int x3)] → W p l e R s m args below meth c H locs 60 818 Q (F0 m 1176 ls [])) : ∀ (x3 : Int32) (z0 : wXS × wSt) (H : Heap) (locs : List Loc) (ls : Array Slot), wplaw_612 k18 L xs x3 z0 → va_P G.1 vwCl (wsX G h z0.1 ++ wsM G g z0.2) H → va_D A (wsX G h z0.1 ++ wsM G g z0.2) → va_S A s.heap H locs → lv_has ls 4 [(0, .ref b), (1, .ref (h 0)), (2, .ref (g 0)), (3, .int x3)] → W p l e R s m args below meth c H locs 60 818 Q (F0 m 612 ls []) := by
  intro x3 z0 H locs ls hw hP hD hS hl
  have hx := hC.1
  have hb := hC.2.1
  unfold wplaw_612 at hw
  refine lv_aload_n hx hb dL_law_612 rfl (lv_at hl 1 rfl) ?_
  refine lv_aload_n hx hb dL_law_613 rfl (lv_at hl 0 rfl) ?_
  refine lv_iload_n hx hb dL_law_614 rfl (lv_at hl 3 rfl) ?_
  refine lv_iconst (v := (1 : Int32)) hx hb dL_law_615 (by decide) ?_
  refine lv_iadd hx hb dL_law_616 ?_
  refine va_sld hx hb hX hbl hbA hS (And.left hw) dL_law_617 ?_
  have hw := And.right hw
  refine lv_aload_n hx hb dL_law_618 rfl (lv_at hl 0 rfl) ?_
  refine lv_iload_n hx hb dL_law_619 rfl (lv_at hl 3 rfl) ?_
  refine lv_iconst (v := (2 : Int32)) hx hb dL_law_620 (by decide) ?_
  refine lv_iadd hx hb dL_law_621 ?_
  refine va_sld hx hb hX hbl hbA hS (And.left hw) dL_law_622 ?_
  have hw := And.right hw
  refine vp_callSi (xro (xr_V hC (cX5_gives_c (h := h) hw) ⟨rfl, rfl⟩ bw_464 calX5_gives ⟨Nat.le_trans (Nat.le_of_ble_eq_true rfl) hF, Nat.le_trans (Nat.le_of_ble_eq_true rfl) hL⟩ (rest := []) (xpR hK (xCut.P (cut_XM_X0) hP) rfl rfl) rfl hl rfl (Nat.le_of_ble_eq_true rfl) dL_law_623 ⟨hRc, hRs⟩)) (fun r1 hw => ?_)
  refine lv_aload_n hx hb dL_law_626 rfl (lv_at hl 2 rfl) ?_
  refine lv_aload_n hx hb dL_law_627 rfl (lv_at hl 0 rfl) ?_
  refine lv_iload_n hx hb dL_law_628 rfl (lv_at hl 3 rfl) ?_
  refine lv_iconst (v := (1 : Int32)) hx hb dL_law_629 (by decide) ?_
  refine lv_iadd hx hb dL_law_630 ?_
  refine va_sld hx hb hX hbl hbA hS (And.left hw) dL_law_631 ?_
  have hw := And.right hw
  refine lv_aload_n hx hb dL_law_632 rfl (lv_at hl 0 rfl) ?_
  refine lv_iload_n hx hb dL_law_633 rfl (lv_at hl 3 rfl) ?_
  refine lv_iconst (v := (2 : Int32)) hx hb dL_law_634 (by decide) ?_
  refine lv_iadd hx hb dL_law_635 ?_
  refine va_sld hx hb hX hbl hbA hS (And.left hw) dL_law_636 ?_
  have hw := And.right hw
  refine vp_callSi (xro (xr_V hC (cX6_gives_c (h := g) hw) ⟨rfl, rfl⟩ bw_859 calX6_gives ⟨Nat.le_trans (Nat.le_of_ble_eq_true rfl) hF, Nat.le_trans (Nat.le_of_ble_eq_true rfl) hL⟩ (rest := [.int r1]) (xpR hK (xCut.P (cut_XM_M43) hP) rfl rfl) rfl hl rfl (Nat.le_of_ble_eq_true rfl) dL_law_637 ⟨hRc, hRs⟩)) (fun r2 hw => ?_)
  refine lv_icmp_eq (tgt := 1176) hx hb dL_law_640 (by decide) (fun hc => ?_) (fun hc => ?_)
  · have hw := And.left hw hc
    exact B1176 x3 z0 _ _ _ hw hP hD hS (lv_sub hl [0, 1, 2, 3] rfl)
  · have hw := And.right hw hc
    refine lv_iconst (v := (0 : Int32)) hx hb dL_law_643 (by decide) ?_
    exact False.elim hw
set_option maxHeartbeats 4000000 in
set_option maxRecDepth 100000 in
theorem blaw_599 {p : Program} {l : Launch} {e : Env} {R : Room} {s : State} {m : MethodId} {args : Array Value} {below : List Frame} {meth : Method} {c : Code} {Q : State → Prop} {A : Nat → Prop} {G : wG} {h g : Nat → Nat} {b L : Nat} {xs : Nat → Int32} (hC : CallFix p m c cL_law 4 s args BIG RL) (hK : wKK G s) (hA : ∀ q, s.heap.size ≤ q → A q) (hX : va_X b L xs s s.heap) (hbl : b < s.heap.size) (hbA : ¬ A b) (hF : 2000 ≤ R.frames) (hL : 80000 ≤ R.locals) (hRc : 60 ≤ R.cells) (hRs : 818 ≤ R.slots) {k18 : Int32 → (wXS × wSt) → Prop} (I18 : ∀ (x3 : Int32) (z0 : wXS × wSt) (H : Heap) (locs : List Loc) (ls : Array Slot), k18 x3 z0 → va_P G.1 vwCl (wsX G h z0.1 ++ wsM G g z0.2) H → va_D A (wsX G h z0.1 ++ wsM G g z0.2) → va_S A s.heap H locs → lv_has ls 4 [(0, .ref b), (1, .ref (h 0)), (2, .ref (g 0)), (3, .int x3)] → W p l e R s m args below meth c H locs 60 818 Q (F0 m 18 ls [])) (B1176 : ∀ (x3 : Int32) (z0 : wXS × wSt) (H : Heap) (locs : List Loc) (ls : Array Slot), wplaw_1176 k18 L xs x3 z0 → va_P G.1 vwCl (wsX G h z0.1 ++ wsM G g z0.2) H → va_D A (wsX G h z0.1 ++ wsM G g z0.2) → va_S A s.heap H locs → lv_has ls 4 [(0, .ref b), (1, .ref (h 0)), (2, .ref (g 0)), (3, .int x3)] → W p l e R s m args below meth c H locs 60 818 Q (F0 m 1176 ls [])) : ∀ (x3 : Int32) (z0 : wXS × wSt) (H : Heap) (locs : List Loc) (ls : Array Slot), wplaw_599 k18 L xs x3 z0 → va_P G.1 vwCl (wsX G h z0.1 ++ wsM G g z0.2) H → va_D A (wsX G h z0.1 ++ wsM G g z0.2) → va_S A s.heap H locs → lv_has ls 4 [(0, .ref b), (1, .ref (h 0)), (2, .ref (g 0)), (3, .int x3)] → W p l e R s m args below meth c H locs 60 818 Q (F0 m 599 ls []) := by
  intro x3 z0 H locs ls hw hP hD hS hl
  have hx := hC.1
  have hb := hC.2.1
  unfold wplaw_599 at hw
  refine lv_aload_n hx hb dL_law_599 rfl (lv_at hl 1 rfl) ?_
  refine xc_wi (S := wXS) (wsz := fun q => (wsX G h q.1 ++ wsM G g q.2)) (f := fun u => (u, z0.2)) (xr_V hC (cX5_peace_c (h := h) hw) ⟨rfl, rfl⟩ bw_456 calX5_peace ⟨Nat.le_trans (Nat.le_of_ble_eq_true rfl) hF, Nat.le_trans (Nat.le_of_ble_eq_true rfl) hL⟩ (rest := []) (xpV hK (cut_XM_X0) hP hD rfl rfl) rfl hl rfl (Nat.le_of_ble_eq_true rfl) dL_law_600 ⟨hRc, hRs⟩) (cut_XM_X0) hP hD hS hA (fun r1 u z1 H locs hz1 hw hP hD hS => ?_)
  have hw := hw z1 hz1
  refine lv_aload_n hx hb dL_law_603 rfl (lv_at hl 2 rfl) ?_
  refine xc_wi (S := wSt) (wsz := fun q => (wsX G h q.1 ++ wsM G g q.2)) (f := fun u => (z1.1, u)) (xr_V hC (cX6_peace_c (h := g) hw) ⟨rfl, rfl⟩ bw_851 calX6_peace ⟨Nat.le_trans (Nat.le_of_ble_eq_true rfl) hF, Nat.le_trans (Nat.le_of_ble_eq_true rfl) hL⟩ (rest := [.int r1]) (xpV hK (cut_XM_M43) hP hD rfl rfl) rfl hl rfl (Nat.le_of_ble_eq_true rfl) dL_law_604 ⟨hRc, hRs⟩) (cut_XM_M43) hP hD hS hA (fun r2 u z2 H locs hz1 hw hP hD hS => ?_)
  have hw := hw z2 hz1
  refine lv_icmp_eq (tgt := 1176) hx hb dL_law_607 (by decide) (fun hc => ?_) (fun hc => ?_)
  · have hw := And.left hw hc
    exact B1176 x3 z2 _ _ _ hw hP hD hS (lv_sub hl [0, 1, 2, 3] rfl)
  · have hw := And.right hw hc
    refine lv_iconst (v := (0 : Int32)) hx hb dL_law_610 (by decide) ?_
    exact False.elim hw
set_option maxHeartbeats 4000000 in
set_option maxRecDepth 100000 in
theorem blaw_576 {p : Program} {l : Launch} {e : Env} {R : Room} {s : State} {m : MethodId} {args : Array Value} {below : List Frame} {meth : Method} {c : Code} {Q : State → Prop} {A : Nat → Prop} {G : wG} {h g : Nat → Nat} {b L : Nat} {xs : Nat → Int32} (hC : CallFix p m c cL_law 4 s args BIG RL) (hK : wKK G s) (hA : ∀ q, s.heap.size ≤ q → A q) (hX : va_X b L xs s s.heap) (hbl : b < s.heap.size) (hbA : ¬ A b) (hF : 2000 ≤ R.frames) (hL : 80000 ≤ R.locals) (hRc : 60 ≤ R.cells) (hRs : 818 ≤ R.slots) {k18 : Int32 → (wXS × wSt) → Prop} (I18 : ∀ (x3 : Int32) (z0 : wXS × wSt) (H : Heap) (locs : List Loc) (ls : Array Slot), k18 x3 z0 → va_P G.1 vwCl (wsX G h z0.1 ++ wsM G g z0.2) H → va_D A (wsX G h z0.1 ++ wsM G g z0.2) → va_S A s.heap H locs → lv_has ls 4 [(0, .ref b), (1, .ref (h 0)), (2, .ref (g 0)), (3, .int x3)] → W p l e R s m args below meth c H locs 60 818 Q (F0 m 18 ls [])) (B1176 : ∀ (x3 : Int32) (z0 : wXS × wSt) (H : Heap) (locs : List Loc) (ls : Array Slot), wplaw_1176 k18 L xs x3 z0 → va_P G.1 vwCl (wsX G h z0.1 ++ wsM G g z0.2) H → va_D A (wsX G h z0.1 ++ wsM G g z0.2) → va_S A s.heap H locs → lv_has ls 4 [(0, .ref b), (1, .ref (h 0)), (2, .ref (g 0)), (3, .int x3)] → W p l e R s m args below meth c H locs 60 818 Q (F0 m 1176 ls [])) : ∀ (x3 : Int32) (z0 : wXS × wSt) (H : Heap) (locs : List Loc) (ls : Array Slot), wplaw_576 k18 L xs x3 z0 → va_P G.1 vwCl (wsX G h z0.1 ++ wsM G g z0.2) H → va_D A (wsX G h z0.1 ++ wsM G g z0.2) → va_S A s.heap H locs → lv_has ls 4 [(0, .ref b), (1, .ref (h 0)), (2, .ref (g 0)), (3, .int x3)] → W p l e R s m args below meth c H locs 60 818 Q (F0 m 576 ls []) := by
  intro x3 z0 H locs ls hw hP hD hS hl
  have hx := hC.1
  have hb := hC.2.1
  unfold wplaw_576 at hw
  refine lv_aload_n hx hb dL_law_576 rfl (lv_at hl 1 rfl) ?_
  refine lv_aload_n hx hb dL_law_577 rfl (lv_at hl 0 rfl) ?_
  refine lv_iload_n hx hb dL_law_578 rfl (lv_at hl 3 rfl) ?_
  refine lv_iconst (v := (1 : Int32)) hx hb dL_law_579 (by decide) ?_
  refine lv_iadd hx hb dL_law_580 ?_
  refine va_sld hx hb hX hbl hbA hS (And.left hw) dL_law_581 ?_
  have hw := And.right hw
  refine xc_wi (S := wXS) (wsz := fun q => (wsX G h q.1 ++ wsM G g q.2)) (f := fun u => (u, z0.2)) (xr_V hC (cX5_fewest_c (h := h) hw) ⟨rfl, rfl⟩ bw_452 calX5_fewest ⟨Nat.le_trans (Nat.le_of_ble_eq_true rfl) hF, Nat.le_trans (Nat.le_of_ble_eq_true rfl) hL⟩ (rest := []) (xpV hK (cut_XM_X0) hP hD rfl rfl) rfl hl rfl (Nat.le_of_ble_eq_true rfl) dL_law_582 ⟨hRc, hRs⟩) (cut_XM_X0) hP hD hS hA (fun r1 u z1 H locs hz1 hw hP hD hS => ?_)
  have hw := hw z1 hz1
  refine lv_aload_n hx hb dL_law_585 rfl (lv_at hl 2 rfl) ?_
  refine lv_aload_n hx hb dL_law_586 rfl (lv_at hl 0 rfl) ?_
  refine lv_iload_n hx hb dL_law_587 rfl (lv_at hl 3 rfl) ?_
  refine lv_iconst (v := (1 : Int32)) hx hb dL_law_588 (by decide) ?_
  refine lv_iadd hx hb dL_law_589 ?_
  refine va_sld hx hb hX hbl hbA hS (And.left hw) dL_law_590 ?_
  have hw := And.right hw
  refine xc_wi (S := wSt) (wsz := fun q => (wsX G h q.1 ++ wsM G g q.2)) (f := fun u => (z1.1, u)) (xr_V hC (cX6_fewest_c (h := g) hw) ⟨rfl, rfl⟩ bw_846 calX6_fewest ⟨Nat.le_trans (Nat.le_of_ble_eq_true rfl) hF, Nat.le_trans (Nat.le_of_ble_eq_true rfl) hL⟩ (rest := [.int r1]) (xpV hK (cut_XM_M43) hP hD rfl rfl) rfl hl rfl (Nat.le_of_ble_eq_true rfl) dL_law_591 ⟨hRc, hRs⟩) (cut_XM_M43) hP hD hS hA (fun r2 u z2 H locs hz1 hw hP hD hS => ?_)
  have hw := hw z2 hz1
  refine lv_icmp_eq (tgt := 1176) hx hb dL_law_594 (by decide) (fun hc => ?_) (fun hc => ?_)
  · have hw := And.left hw hc
    exact B1176 x3 z2 _ _ _ hw hP hD hS (lv_sub hl [0, 1, 2, 3] rfl)
  · have hw := And.right hw hc
    refine lv_iconst (v := (0 : Int32)) hx hb dL_law_597 (by decide) ?_
    exact False.elim hw
set_option maxHeartbeats 4000000 in
set_option maxRecDepth 100000 in
theorem blaw_543 {p : Program} {l : Launch} {e : Env} {R : Room} {s : State} {m : MethodId} {args : Array Value} {below : List Frame} {meth : Method} {c : Code} {Q : State → Prop} {A : Nat → Prop} {G : wG} {h g : Nat → Nat} {b L : Nat} {xs : Nat → Int32} (hC : CallFix p m c cL_law 4 s args BIG RL) (hK : wKK G s) (hA : ∀ q, s.heap.size ≤ q → A q) (hX : va_X b L xs s s.heap) (hbl : b < s.heap.size) (hbA : ¬ A b) (hF : 2000 ≤ R.frames) (hL : 80000 ≤ R.locals) (hRc : 60 ≤ R.cells) (hRs : 818 ≤ R.slots) {k18 : Int32 → (wXS × wSt) → Prop} (I18 : ∀ (x3 : Int32) (z0 : wXS × wSt) (H : Heap) (locs : List Loc) (ls : Array Slot), k18 x3 z0 → va_P G.1 vwCl (wsX G h z0.1 ++ wsM G g z0.2) H → va_D A (wsX G h z0.1 ++ wsM G g z0.2) → va_S A s.heap H locs → lv_has ls 4 [(0, .ref b), (1, .ref (h 0)), (2, .ref (g 0)), (3, .int x3)] → W p l e R s m args below meth c H locs 60 818 Q (F0 m 18 ls [])) (B1176 : ∀ (x3 : Int32) (z0 : wXS × wSt) (H : Heap) (locs : List Loc) (ls : Array Slot), wplaw_1176 k18 L xs x3 z0 → va_P G.1 vwCl (wsX G h z0.1 ++ wsM G g z0.2) H → va_D A (wsX G h z0.1 ++ wsM G g z0.2) → va_S A s.heap H locs → lv_has ls 4 [(0, .ref b), (1, .ref (h 0)), (2, .ref (g 0)), (3, .int x3)] → W p l e R s m args below meth c H locs 60 818 Q (F0 m 1176 ls [])) : ∀ (x3 : Int32) (z0 : wXS × wSt) (H : Heap) (locs : List Loc) (ls : Array Slot), wplaw_543 k18 L xs x3 z0 → va_P G.1 vwCl (wsX G h z0.1 ++ wsM G g z0.2) H → va_D A (wsX G h z0.1 ++ wsM G g z0.2) → va_S A s.heap H locs → lv_has ls 4 [(0, .ref b), (1, .ref (h 0)), (2, .ref (g 0)), (3, .int x3)] → W p l e R s m args below meth c H locs 60 818 Q (F0 m 543 ls []) := by
  intro x3 z0 H locs ls hw hP hD hS hl
  have hx := hC.1
  have hb := hC.2.1
  unfold wplaw_543 at hw
  refine lv_aload_n hx hb dL_law_543 rfl (lv_at hl 1 rfl) ?_
  refine lv_aload_n hx hb dL_law_544 rfl (lv_at hl 0 rfl) ?_
  refine lv_iload_n hx hb dL_law_545 rfl (lv_at hl 3 rfl) ?_
  refine lv_iconst (v := (1 : Int32)) hx hb dL_law_546 (by decide) ?_
  refine lv_iadd hx hb dL_law_547 ?_
  refine va_sld hx hb hX hbl hbA hS (And.left hw) dL_law_548 ?_
  have hw := And.right hw
  refine lv_aload_n hx hb dL_law_549 rfl (lv_at hl 0 rfl) ?_
  refine lv_iload_n hx hb dL_law_550 rfl (lv_at hl 3 rfl) ?_
  refine lv_iconst (v := (2 : Int32)) hx hb dL_law_551 (by decide) ?_
  refine lv_iadd hx hb dL_law_552 ?_
  refine va_sld hx hb hX hbl hbA hS (And.left hw) dL_law_553 ?_
  have hw := And.right hw
  refine xc_wi (S := wXS) (wsz := fun q => (wsX G h q.1 ++ wsM G g q.2)) (f := fun u => (u, z0.2)) (xr_V hC (cX5_row_c (h := h) hw) ⟨rfl, rfl⟩ bw_448 calX5_row ⟨Nat.le_trans (Nat.le_of_ble_eq_true rfl) hF, Nat.le_trans (Nat.le_of_ble_eq_true rfl) hL⟩ (rest := []) (xpV hK (cut_XM_X0) hP hD rfl rfl) rfl hl rfl (Nat.le_of_ble_eq_true rfl) dL_law_554 ⟨hRc, hRs⟩) (cut_XM_X0) hP hD hS hA (fun r1 u z1 H locs hz1 hw hP hD hS => ?_)
  have hw := hw z1 hz1
  refine lv_aload_n hx hb dL_law_557 rfl (lv_at hl 2 rfl) ?_
  refine lv_aload_n hx hb dL_law_558 rfl (lv_at hl 0 rfl) ?_
  refine lv_iload_n hx hb dL_law_559 rfl (lv_at hl 3 rfl) ?_
  refine lv_iconst (v := (1 : Int32)) hx hb dL_law_560 (by decide) ?_
  refine lv_iadd hx hb dL_law_561 ?_
  refine va_sld hx hb hX hbl hbA hS (And.left hw) dL_law_562 ?_
  have hw := And.right hw
  refine lv_aload_n hx hb dL_law_563 rfl (lv_at hl 0 rfl) ?_
  refine lv_iload_n hx hb dL_law_564 rfl (lv_at hl 3 rfl) ?_
  refine lv_iconst (v := (2 : Int32)) hx hb dL_law_565 (by decide) ?_
  refine lv_iadd hx hb dL_law_566 ?_
  refine va_sld hx hb hX hbl hbA hS (And.left hw) dL_law_567 ?_
  have hw := And.right hw
  refine xc_wi (S := wSt) (wsz := fun q => (wsX G h q.1 ++ wsM G g q.2)) (f := fun u => (z1.1, u)) (xr_V hC (cX6_row_c (h := g) hw) ⟨rfl, rfl⟩ bw_842 calX6_row ⟨Nat.le_trans (Nat.le_of_ble_eq_true rfl) hF, Nat.le_trans (Nat.le_of_ble_eq_true rfl) hL⟩ (rest := [.int r1]) (xpV hK (cut_XM_M43) hP hD rfl rfl) rfl hl rfl (Nat.le_of_ble_eq_true rfl) dL_law_568 ⟨hRc, hRs⟩) (cut_XM_M43) hP hD hS hA (fun r2 u z2 H locs hz1 hw hP hD hS => ?_)
  have hw := hw z2 hz1
  refine lv_icmp_eq (tgt := 1176) hx hb dL_law_571 (by decide) (fun hc => ?_) (fun hc => ?_)
  · have hw := And.left hw hc
    exact B1176 x3 z2 _ _ _ hw hP hD hS (lv_sub hl [0, 1, 2, 3] rfl)
  · have hw := And.right hw hc
    refine lv_iconst (v := (0 : Int32)) hx hb dL_law_574 (by decide) ?_
    exact False.elim hw
set_option maxHeartbeats 4000000 in
set_option maxRecDepth 100000 in
theorem blaw_520 {p : Program} {l : Launch} {e : Env} {R : Room} {s : State} {m : MethodId} {args : Array Value} {below : List Frame} {meth : Method} {c : Code} {Q : State → Prop} {A : Nat → Prop} {G : wG} {h g : Nat → Nat} {b L : Nat} {xs : Nat → Int32} (hC : CallFix p m c cL_law 4 s args BIG RL) (hK : wKK G s) (hA : ∀ q, s.heap.size ≤ q → A q) (hX : va_X b L xs s s.heap) (hbl : b < s.heap.size) (hbA : ¬ A b) (hF : 2000 ≤ R.frames) (hL : 80000 ≤ R.locals) (hRc : 60 ≤ R.cells) (hRs : 818 ≤ R.slots) {k18 : Int32 → (wXS × wSt) → Prop} (I18 : ∀ (x3 : Int32) (z0 : wXS × wSt) (H : Heap) (locs : List Loc) (ls : Array Slot), k18 x3 z0 → va_P G.1 vwCl (wsX G h z0.1 ++ wsM G g z0.2) H → va_D A (wsX G h z0.1 ++ wsM G g z0.2) → va_S A s.heap H locs → lv_has ls 4 [(0, .ref b), (1, .ref (h 0)), (2, .ref (g 0)), (3, .int x3)] → W p l e R s m args below meth c H locs 60 818 Q (F0 m 18 ls [])) (B1176 : ∀ (x3 : Int32) (z0 : wXS × wSt) (H : Heap) (locs : List Loc) (ls : Array Slot), wplaw_1176 k18 L xs x3 z0 → va_P G.1 vwCl (wsX G h z0.1 ++ wsM G g z0.2) H → va_D A (wsX G h z0.1 ++ wsM G g z0.2) → va_S A s.heap H locs → lv_has ls 4 [(0, .ref b), (1, .ref (h 0)), (2, .ref (g 0)), (3, .int x3)] → W p l e R s m args below meth c H locs 60 818 Q (F0 m 1176 ls [])) : ∀ (x3 : Int32) (z0 : wXS × wSt) (H : Heap) (locs : List Loc) (ls : Array Slot), wplaw_520 k18 L xs x3 z0 → va_P G.1 vwCl (wsX G h z0.1 ++ wsM G g z0.2) H → va_D A (wsX G h z0.1 ++ wsM G g z0.2) → va_S A s.heap H locs → lv_has ls 4 [(0, .ref b), (1, .ref (h 0)), (2, .ref (g 0)), (3, .int x3)] → W p l e R s m args below meth c H locs 60 818 Q (F0 m 520 ls []) := by
  intro x3 z0 H locs ls hw hP hD hS hl
  have hx := hC.1
  have hb := hC.2.1
  unfold wplaw_520 at hw
  refine lv_aload_n hx hb dL_law_520 rfl (lv_at hl 1 rfl) ?_
  refine lv_aload_n hx hb dL_law_521 rfl (lv_at hl 0 rfl) ?_
  refine lv_iload_n hx hb dL_law_522 rfl (lv_at hl 3 rfl) ?_
  refine lv_iconst (v := (1 : Int32)) hx hb dL_law_523 (by decide) ?_
  refine lv_iadd hx hb dL_law_524 ?_
  refine va_sld hx hb hX hbl hbA hS (And.left hw) dL_law_525 ?_
  have hw := And.right hw
  refine xc_wi (S := wXS) (wsz := fun q => (wsX G h q.1 ++ wsM G g q.2)) (f := fun u => (u, z0.2)) (xr_V hC (cX5_most_c (h := h) hw) ⟨rfl, rfl⟩ bw_412 calX5_most ⟨Nat.le_trans (Nat.le_of_ble_eq_true rfl) hF, Nat.le_trans (Nat.le_of_ble_eq_true rfl) hL⟩ (rest := []) (xpV hK (cut_XM_X0) hP hD rfl rfl) rfl hl rfl (Nat.le_of_ble_eq_true rfl) dL_law_526 ⟨hRc, hRs⟩) (cut_XM_X0) hP hD hS hA (fun r1 u z1 H locs hz1 hw hP hD hS => ?_)
  have hw := hw z1 hz1
  refine lv_aload_n hx hb dL_law_529 rfl (lv_at hl 2 rfl) ?_
  refine lv_aload_n hx hb dL_law_530 rfl (lv_at hl 0 rfl) ?_
  refine lv_iload_n hx hb dL_law_531 rfl (lv_at hl 3 rfl) ?_
  refine lv_iconst (v := (1 : Int32)) hx hb dL_law_532 (by decide) ?_
  refine lv_iadd hx hb dL_law_533 ?_
  refine va_sld hx hb hX hbl hbA hS (And.left hw) dL_law_534 ?_
  have hw := And.right hw
  refine xc_wi (S := wSt) (wsz := fun q => (wsX G h q.1 ++ wsM G g q.2)) (f := fun u => (z1.1, u)) (xr_V hC (cX6_most_c (h := g) hw) ⟨rfl, rfl⟩ bw_829 calX6_most ⟨Nat.le_trans (Nat.le_of_ble_eq_true rfl) hF, Nat.le_trans (Nat.le_of_ble_eq_true rfl) hL⟩ (rest := [.int r1]) (xpV hK (cut_XM_M43) hP hD rfl rfl) rfl hl rfl (Nat.le_of_ble_eq_true rfl) dL_law_535 ⟨hRc, hRs⟩) (cut_XM_M43) hP hD hS hA (fun r2 u z2 H locs hz1 hw hP hD hS => ?_)
  have hw := hw z2 hz1
  refine lv_icmp_eq (tgt := 1176) hx hb dL_law_538 (by decide) (fun hc => ?_) (fun hc => ?_)
  · have hw := And.left hw hc
    exact B1176 x3 z2 _ _ _ hw hP hD hS (lv_sub hl [0, 1, 2, 3] rfl)
  · have hw := And.right hw hc
    refine lv_iconst (v := (0 : Int32)) hx hb dL_law_541 (by decide) ?_
    exact False.elim hw
set_option maxHeartbeats 4000000 in
set_option maxRecDepth 100000 in
theorem blaw_507 {p : Program} {l : Launch} {e : Env} {R : Room} {s : State} {m : MethodId} {args : Array Value} {below : List Frame} {meth : Method} {c : Code} {Q : State → Prop} {A : Nat → Prop} {G : wG} {h g : Nat → Nat} {b L : Nat} {xs : Nat → Int32} (hC : CallFix p m c cL_law 4 s args BIG RL) (hK : wKK G s) (hA : ∀ q, s.heap.size ≤ q → A q) (hX : va_X b L xs s s.heap) (hbl : b < s.heap.size) (hbA : ¬ A b) (hF : 2000 ≤ R.frames) (hL : 80000 ≤ R.locals) (hRc : 60 ≤ R.cells) (hRs : 818 ≤ R.slots) {k18 : Int32 → (wXS × wSt) → Prop} (I18 : ∀ (x3 : Int32) (z0 : wXS × wSt) (H : Heap) (locs : List Loc) (ls : Array Slot), k18 x3 z0 → va_P G.1 vwCl (wsX G h z0.1 ++ wsM G g z0.2) H → va_D A (wsX G h z0.1 ++ wsM G g z0.2) → va_S A s.heap H locs → lv_has ls 4 [(0, .ref b), (1, .ref (h 0)), (2, .ref (g 0)), (3, .int x3)] → W p l e R s m args below meth c H locs 60 818 Q (F0 m 18 ls [])) (B1176 : ∀ (x3 : Int32) (z0 : wXS × wSt) (H : Heap) (locs : List Loc) (ls : Array Slot), wplaw_1176 k18 L xs x3 z0 → va_P G.1 vwCl (wsX G h z0.1 ++ wsM G g z0.2) H → va_D A (wsX G h z0.1 ++ wsM G g z0.2) → va_S A s.heap H locs → lv_has ls 4 [(0, .ref b), (1, .ref (h 0)), (2, .ref (g 0)), (3, .int x3)] → W p l e R s m args below meth c H locs 60 818 Q (F0 m 1176 ls [])) : ∀ (x3 : Int32) (z0 : wXS × wSt) (H : Heap) (locs : List Loc) (ls : Array Slot), wplaw_507 k18 L xs x3 z0 → va_P G.1 vwCl (wsX G h z0.1 ++ wsM G g z0.2) H → va_D A (wsX G h z0.1 ++ wsM G g z0.2) → va_S A s.heap H locs → lv_has ls 4 [(0, .ref b), (1, .ref (h 0)), (2, .ref (g 0)), (3, .int x3)] → W p l e R s m args below meth c H locs 60 818 Q (F0 m 507 ls []) := by
  intro x3 z0 H locs ls hw hP hD hS hl
  have hx := hC.1
  have hb := hC.2.1
  unfold wplaw_507 at hw
  refine lv_aload_n hx hb dL_law_507 rfl (lv_at hl 1 rfl) ?_
  refine xc_wi (S := wXS) (wsz := fun q => (wsX G h q.1 ++ wsM G g q.2)) (f := fun u => (u, z0.2)) (xr_V hC (cX5_run_c (h := h) hw) ⟨rfl, rfl⟩ bw_403 calX5_run ⟨Nat.le_trans (Nat.le_of_ble_eq_true rfl) hF, Nat.le_trans (Nat.le_of_ble_eq_true rfl) hL⟩ (rest := []) (xpV hK (cut_XM_X0) hP hD rfl rfl) rfl hl rfl (Nat.le_of_ble_eq_true rfl) dL_law_508 ⟨hRc, hRs⟩) (cut_XM_X0) hP hD hS hA (fun r1 u z1 H locs hz1 hw hP hD hS => ?_)
  have hw := hw z1 hz1
  refine lv_aload_n hx hb dL_law_511 rfl (lv_at hl 2 rfl) ?_
  refine xc_wi (S := wSt) (wsz := fun q => (wsX G h q.1 ++ wsM G g q.2)) (f := fun u => (z1.1, u)) (xr_V hC (cX6_run_c (h := g) hw) ⟨rfl, rfl⟩ bw_825 calX6_run ⟨Nat.le_trans (Nat.le_of_ble_eq_true rfl) hF, Nat.le_trans (Nat.le_of_ble_eq_true rfl) hL⟩ (rest := [.int r1]) (xpV hK (cut_XM_M43) hP hD rfl rfl) rfl hl rfl (Nat.le_of_ble_eq_true rfl) dL_law_512 ⟨hRc, hRs⟩) (cut_XM_M43) hP hD hS hA (fun r2 u z2 H locs hz1 hw hP hD hS => ?_)
  have hw := hw z2 hz1
  refine lv_icmp_eq (tgt := 1176) hx hb dL_law_515 (by decide) (fun hc => ?_) (fun hc => ?_)
  · have hw := And.left hw hc
    exact B1176 x3 z2 _ _ _ hw hP hD hS (lv_sub hl [0, 1, 2, 3] rfl)
  · have hw := And.right hw hc
    refine lv_iconst (v := (0 : Int32)) hx hb dL_law_518 (by decide) ?_
    exact False.elim hw
set_option maxHeartbeats 4000000 in
set_option maxRecDepth 100000 in
theorem blaw_484 {p : Program} {l : Launch} {e : Env} {R : Room} {s : State} {m : MethodId} {args : Array Value} {below : List Frame} {meth : Method} {c : Code} {Q : State → Prop} {A : Nat → Prop} {G : wG} {h g : Nat → Nat} {b L : Nat} {xs : Nat → Int32} (hC : CallFix p m c cL_law 4 s args BIG RL) (hK : wKK G s) (hA : ∀ q, s.heap.size ≤ q → A q) (hX : va_X b L xs s s.heap) (hbl : b < s.heap.size) (hbA : ¬ A b) (hF : 2000 ≤ R.frames) (hL : 80000 ≤ R.locals) (hRc : 60 ≤ R.cells) (hRs : 818 ≤ R.slots) {k18 : Int32 → (wXS × wSt) → Prop} (I18 : ∀ (x3 : Int32) (z0 : wXS × wSt) (H : Heap) (locs : List Loc) (ls : Array Slot), k18 x3 z0 → va_P G.1 vwCl (wsX G h z0.1 ++ wsM G g z0.2) H → va_D A (wsX G h z0.1 ++ wsM G g z0.2) → va_S A s.heap H locs → lv_has ls 4 [(0, .ref b), (1, .ref (h 0)), (2, .ref (g 0)), (3, .int x3)] → W p l e R s m args below meth c H locs 60 818 Q (F0 m 18 ls [])) (B1176 : ∀ (x3 : Int32) (z0 : wXS × wSt) (H : Heap) (locs : List Loc) (ls : Array Slot), wplaw_1176 k18 L xs x3 z0 → va_P G.1 vwCl (wsX G h z0.1 ++ wsM G g z0.2) H → va_D A (wsX G h z0.1 ++ wsM G g z0.2) → va_S A s.heap H locs → lv_has ls 4 [(0, .ref b), (1, .ref (h 0)), (2, .ref (g 0)), (3, .int x3)] → W p l e R s m args below meth c H locs 60 818 Q (F0 m 1176 ls [])) : ∀ (x3 : Int32) (z0 : wXS × wSt) (H : Heap) (locs : List Loc) (ls : Array Slot), wplaw_484 k18 L xs x3 z0 → va_P G.1 vwCl (wsX G h z0.1 ++ wsM G g z0.2) H → va_D A (wsX G h z0.1 ++ wsM G g z0.2) → va_S A s.heap H locs → lv_has ls 4 [(0, .ref b), (1, .ref (h 0)), (2, .ref (g 0)), (3, .int x3)] → W p l e R s m args below meth c H locs 60 818 Q (F0 m 484 ls []) := by
  intro x3 z0 H locs ls hw hP hD hS hl
  have hx := hC.1
  have hb := hC.2.1
  unfold wplaw_484 at hw
  refine lv_aload_n hx hb dL_law_484 rfl (lv_at hl 1 rfl) ?_
  refine lv_aload_n hx hb dL_law_485 rfl (lv_at hl 0 rfl) ?_
  refine lv_iload_n hx hb dL_law_486 rfl (lv_at hl 3 rfl) ?_
  refine lv_iconst (v := (1 : Int32)) hx hb dL_law_487 (by decide) ?_
  refine lv_iadd hx hb dL_law_488 ?_
  refine va_sld hx hb hX hbl hbA hS (And.left hw) dL_law_489 ?_
  have hw := And.right hw
  refine xc_wi (S := wXS) (wsz := fun q => (wsX G h q.1 ++ wsM G g q.2)) (f := fun u => (u, z0.2)) (xr_V hC (cX5_pass_c (h := h) hw) ⟨rfl, rfl⟩ bw_399 calX5_pass ⟨Nat.le_trans (Nat.le_of_ble_eq_true rfl) hF, Nat.le_trans (Nat.le_of_ble_eq_true rfl) hL⟩ (rest := []) (xpV hK (cut_XM_X0) hP hD rfl rfl) rfl hl rfl (Nat.le_of_ble_eq_true rfl) dL_law_490 ⟨hRc, hRs⟩) (cut_XM_X0) hP hD hS hA (fun r1 u z1 H locs hz1 hw hP hD hS => ?_)
  have hw := hw z1 hz1
  refine lv_aload_n hx hb dL_law_493 rfl (lv_at hl 2 rfl) ?_
  refine lv_aload_n hx hb dL_law_494 rfl (lv_at hl 0 rfl) ?_
  refine lv_iload_n hx hb dL_law_495 rfl (lv_at hl 3 rfl) ?_
  refine lv_iconst (v := (1 : Int32)) hx hb dL_law_496 (by decide) ?_
  refine lv_iadd hx hb dL_law_497 ?_
  refine va_sld hx hb hX hbl hbA hS (And.left hw) dL_law_498 ?_
  have hw := And.right hw
  refine xc_wi (S := wSt) (wsz := fun q => (wsX G h q.1 ++ wsM G g q.2)) (f := fun u => (z1.1, u)) (xr_V hC (cX6_pass_c (h := g) hw) ⟨rfl, rfl⟩ bw_820 calX6_pass ⟨Nat.le_trans (Nat.le_of_ble_eq_true rfl) hF, Nat.le_trans (Nat.le_of_ble_eq_true rfl) hL⟩ (rest := [.int r1]) (xpV hK (cut_XM_M43) hP hD rfl rfl) rfl hl rfl (Nat.le_of_ble_eq_true rfl) dL_law_499 ⟨hRc, hRs⟩) (cut_XM_M43) hP hD hS hA (fun r2 u z2 H locs hz1 hw hP hD hS => ?_)
  have hw := hw z2 hz1
  refine lv_icmp_eq (tgt := 1176) hx hb dL_law_502 (by decide) (fun hc => ?_) (fun hc => ?_)
  · have hw := And.left hw hc
    exact B1176 x3 z2 _ _ _ hw hP hD hS (lv_sub hl [0, 1, 2, 3] rfl)
  · have hw := And.right hw hc
    refine lv_iconst (v := (0 : Int32)) hx hb dL_law_505 (by decide) ?_
    exact False.elim hw
set_option maxHeartbeats 4000000 in
set_option maxRecDepth 100000 in
theorem blaw_461 {p : Program} {l : Launch} {e : Env} {R : Room} {s : State} {m : MethodId} {args : Array Value} {below : List Frame} {meth : Method} {c : Code} {Q : State → Prop} {A : Nat → Prop} {G : wG} {h g : Nat → Nat} {b L : Nat} {xs : Nat → Int32} (hC : CallFix p m c cL_law 4 s args BIG RL) (hK : wKK G s) (hA : ∀ q, s.heap.size ≤ q → A q) (hX : va_X b L xs s s.heap) (hbl : b < s.heap.size) (hbA : ¬ A b) (hF : 2000 ≤ R.frames) (hL : 80000 ≤ R.locals) (hRc : 60 ≤ R.cells) (hRs : 818 ≤ R.slots) {k18 : Int32 → (wXS × wSt) → Prop} (I18 : ∀ (x3 : Int32) (z0 : wXS × wSt) (H : Heap) (locs : List Loc) (ls : Array Slot), k18 x3 z0 → va_P G.1 vwCl (wsX G h z0.1 ++ wsM G g z0.2) H → va_D A (wsX G h z0.1 ++ wsM G g z0.2) → va_S A s.heap H locs → lv_has ls 4 [(0, .ref b), (1, .ref (h 0)), (2, .ref (g 0)), (3, .int x3)] → W p l e R s m args below meth c H locs 60 818 Q (F0 m 18 ls [])) (B1176 : ∀ (x3 : Int32) (z0 : wXS × wSt) (H : Heap) (locs : List Loc) (ls : Array Slot), wplaw_1176 k18 L xs x3 z0 → va_P G.1 vwCl (wsX G h z0.1 ++ wsM G g z0.2) H → va_D A (wsX G h z0.1 ++ wsM G g z0.2) → va_S A s.heap H locs → lv_has ls 4 [(0, .ref b), (1, .ref (h 0)), (2, .ref (g 0)), (3, .int x3)] → W p l e R s m args below meth c H locs 60 818 Q (F0 m 1176 ls [])) : ∀ (x3 : Int32) (z0 : wXS × wSt) (H : Heap) (locs : List Loc) (ls : Array Slot), wplaw_461 k18 L xs x3 z0 → va_P G.1 vwCl (wsX G h z0.1 ++ wsM G g z0.2) H → va_D A (wsX G h z0.1 ++ wsM G g z0.2) → va_S A s.heap H locs → lv_has ls 4 [(0, .ref b), (1, .ref (h 0)), (2, .ref (g 0)), (3, .int x3)] → W p l e R s m args below meth c H locs 60 818 Q (F0 m 461 ls []) := by
  intro x3 z0 H locs ls hw hP hD hS hl
  have hx := hC.1
  have hb := hC.2.1
  unfold wplaw_461 at hw
  refine lv_aload_n hx hb dL_law_461 rfl (lv_at hl 1 rfl) ?_
  refine lv_aload_n hx hb dL_law_462 rfl (lv_at hl 0 rfl) ?_
  refine lv_iload_n hx hb dL_law_463 rfl (lv_at hl 3 rfl) ?_
  refine lv_iconst (v := (1 : Int32)) hx hb dL_law_464 (by decide) ?_
  refine lv_iadd hx hb dL_law_465 ?_
  refine va_sld hx hb hX hbl hbA hS (And.left hw) dL_law_466 ?_
  have hw := And.right hw
  refine xc_wi (S := wXS) (wsz := fun q => (wsX G h q.1 ++ wsM G g q.2)) (f := fun u => (u, z0.2)) (xr_V hC (cX5_draw_c (h := h) hw) ⟨rfl, rfl⟩ bw_342 calX5_draw ⟨Nat.le_trans (Nat.le_of_ble_eq_true rfl) hF, Nat.le_trans (Nat.le_of_ble_eq_true rfl) hL⟩ (rest := []) (xpV hK (cut_XM_X0) hP hD rfl rfl) rfl hl rfl (Nat.le_of_ble_eq_true rfl) dL_law_467 ⟨hRc, hRs⟩) (cut_XM_X0) hP hD hS hA (fun r1 u z1 H locs hz1 hw hP hD hS => ?_)
  have hw := hw z1 hz1
  refine lv_aload_n hx hb dL_law_470 rfl (lv_at hl 2 rfl) ?_
  refine lv_aload_n hx hb dL_law_471 rfl (lv_at hl 0 rfl) ?_
  refine lv_iload_n hx hb dL_law_472 rfl (lv_at hl 3 rfl) ?_
  refine lv_iconst (v := (1 : Int32)) hx hb dL_law_473 (by decide) ?_
  refine lv_iadd hx hb dL_law_474 ?_
  refine va_sld hx hb hX hbl hbA hS (And.left hw) dL_law_475 ?_
  have hw := And.right hw
  refine xc_wi (S := wSt) (wsz := fun q => (wsX G h q.1 ++ wsM G g q.2)) (f := fun u => (z1.1, u)) (xr_V hC (cX6_draw_c (h := g) hw) ⟨rfl, rfl⟩ bw_781 calX6_draw ⟨Nat.le_trans (Nat.le_of_ble_eq_true rfl) hF, Nat.le_trans (Nat.le_of_ble_eq_true rfl) hL⟩ (rest := [.int r1]) (xpV hK (cut_XM_M43) hP hD rfl rfl) rfl hl rfl (Nat.le_of_ble_eq_true rfl) dL_law_476 ⟨hRc, hRs⟩) (cut_XM_M43) hP hD hS hA (fun r2 u z2 H locs hz1 hw hP hD hS => ?_)
  have hw := hw z2 hz1
  refine lv_icmp_eq (tgt := 1176) hx hb dL_law_479 (by decide) (fun hc => ?_) (fun hc => ?_)
  · have hw := And.left hw hc
    exact B1176 x3 z2 _ _ _ hw hP hD hS (lv_sub hl [0, 1, 2, 3] rfl)
  · have hw := And.right hw hc
    refine lv_iconst (v := (0 : Int32)) hx hb dL_law_482 (by decide) ?_
    exact False.elim hw
set_option maxHeartbeats 4000000 in
set_option maxRecDepth 100000 in
theorem blaw_448 {p : Program} {l : Launch} {e : Env} {R : Room} {s : State} {m : MethodId} {args : Array Value} {below : List Frame} {meth : Method} {c : Code} {Q : State → Prop} {A : Nat → Prop} {G : wG} {h g : Nat → Nat} {b L : Nat} {xs : Nat → Int32} (hC : CallFix p m c cL_law 4 s args BIG RL) (hK : wKK G s) (hA : ∀ q, s.heap.size ≤ q → A q) (hX : va_X b L xs s s.heap) (hbl : b < s.heap.size) (hbA : ¬ A b) (hF : 2000 ≤ R.frames) (hL : 80000 ≤ R.locals) (hRc : 60 ≤ R.cells) (hRs : 818 ≤ R.slots) {k18 : Int32 → (wXS × wSt) → Prop} (I18 : ∀ (x3 : Int32) (z0 : wXS × wSt) (H : Heap) (locs : List Loc) (ls : Array Slot), k18 x3 z0 → va_P G.1 vwCl (wsX G h z0.1 ++ wsM G g z0.2) H → va_D A (wsX G h z0.1 ++ wsM G g z0.2) → va_S A s.heap H locs → lv_has ls 4 [(0, .ref b), (1, .ref (h 0)), (2, .ref (g 0)), (3, .int x3)] → W p l e R s m args below meth c H locs 60 818 Q (F0 m 18 ls [])) (B1176 : ∀ (x3 : Int32) (z0 : wXS × wSt) (H : Heap) (locs : List Loc) (ls : Array Slot), wplaw_1176 k18 L xs x3 z0 → va_P G.1 vwCl (wsX G h z0.1 ++ wsM G g z0.2) H → va_D A (wsX G h z0.1 ++ wsM G g z0.2) → va_S A s.heap H locs → lv_has ls 4 [(0, .ref b), (1, .ref (h 0)), (2, .ref (g 0)), (3, .int x3)] → W p l e R s m args below meth c H locs 60 818 Q (F0 m 1176 ls [])) : ∀ (x3 : Int32) (z0 : wXS × wSt) (H : Heap) (locs : List Loc) (ls : Array Slot), wplaw_448 k18 L xs x3 z0 → va_P G.1 vwCl (wsX G h z0.1 ++ wsM G g z0.2) H → va_D A (wsX G h z0.1 ++ wsM G g z0.2) → va_S A s.heap H locs → lv_has ls 4 [(0, .ref b), (1, .ref (h 0)), (2, .ref (g 0)), (3, .int x3)] → W p l e R s m args below meth c H locs 60 818 Q (F0 m 448 ls []) := by
  intro x3 z0 H locs ls hw hP hD hS hl
  have hx := hC.1
  have hb := hC.2.1
  unfold wplaw_448 at hw
  refine lv_aload_n hx hb dL_law_448 rfl (lv_at hl 1 rfl) ?_
  refine vp_callSi (xro (xr_V hC (cX5_may_c (h := h) hw) ⟨rfl, rfl⟩ bw_333 calX5_may ⟨Nat.le_trans (Nat.le_of_ble_eq_true rfl) hF, Nat.le_trans (Nat.le_of_ble_eq_true rfl) hL⟩ (rest := []) (xpR hK (xCut.P (cut_XM_X0) hP) rfl rfl) rfl hl rfl (Nat.le_of_ble_eq_true rfl) dL_law_449 ⟨hRc, hRs⟩)) (fun r1 hw => ?_)
  refine lv_aload_n hx hb dL_law_452 rfl (lv_at hl 2 rfl) ?_
  refine vp_callSi (xro (xr_V hC (cX6_may_c (h := g) hw) ⟨rfl, rfl⟩ bw_777 calX6_may ⟨Nat.le_trans (Nat.le_of_ble_eq_true rfl) hF, Nat.le_trans (Nat.le_of_ble_eq_true rfl) hL⟩ (rest := [.int r1]) (xpR hK (xCut.P (cut_XM_M43) hP) rfl rfl) rfl hl rfl (Nat.le_of_ble_eq_true rfl) dL_law_453 ⟨hRc, hRs⟩)) (fun r2 hw => ?_)
  refine lv_icmp_eq (tgt := 1176) hx hb dL_law_456 (by decide) (fun hc => ?_) (fun hc => ?_)
  · have hw := And.left hw hc
    exact B1176 x3 z0 _ _ _ hw hP hD hS (lv_sub hl [0, 1, 2, 3] rfl)
  · have hw := And.right hw hc
    refine lv_iconst (v := (0 : Int32)) hx hb dL_law_459 (by decide) ?_
    exact False.elim hw
set_option maxHeartbeats 4000000 in
set_option maxRecDepth 100000 in
theorem blaw_435 {p : Program} {l : Launch} {e : Env} {R : Room} {s : State} {m : MethodId} {args : Array Value} {below : List Frame} {meth : Method} {c : Code} {Q : State → Prop} {A : Nat → Prop} {G : wG} {h g : Nat → Nat} {b L : Nat} {xs : Nat → Int32} (hC : CallFix p m c cL_law 4 s args BIG RL) (hK : wKK G s) (hA : ∀ q, s.heap.size ≤ q → A q) (hX : va_X b L xs s s.heap) (hbl : b < s.heap.size) (hbA : ¬ A b) (hF : 2000 ≤ R.frames) (hL : 80000 ≤ R.locals) (hRc : 60 ≤ R.cells) (hRs : 818 ≤ R.slots) {k18 : Int32 → (wXS × wSt) → Prop} (I18 : ∀ (x3 : Int32) (z0 : wXS × wSt) (H : Heap) (locs : List Loc) (ls : Array Slot), k18 x3 z0 → va_P G.1 vwCl (wsX G h z0.1 ++ wsM G g z0.2) H → va_D A (wsX G h z0.1 ++ wsM G g z0.2) → va_S A s.heap H locs → lv_has ls 4 [(0, .ref b), (1, .ref (h 0)), (2, .ref (g 0)), (3, .int x3)] → W p l e R s m args below meth c H locs 60 818 Q (F0 m 18 ls [])) (B1176 : ∀ (x3 : Int32) (z0 : wXS × wSt) (H : Heap) (locs : List Loc) (ls : Array Slot), wplaw_1176 k18 L xs x3 z0 → va_P G.1 vwCl (wsX G h z0.1 ++ wsM G g z0.2) H → va_D A (wsX G h z0.1 ++ wsM G g z0.2) → va_S A s.heap H locs → lv_has ls 4 [(0, .ref b), (1, .ref (h 0)), (2, .ref (g 0)), (3, .int x3)] → W p l e R s m args below meth c H locs 60 818 Q (F0 m 1176 ls [])) : ∀ (x3 : Int32) (z0 : wXS × wSt) (H : Heap) (locs : List Loc) (ls : Array Slot), wplaw_435 k18 L xs x3 z0 → va_P G.1 vwCl (wsX G h z0.1 ++ wsM G g z0.2) H → va_D A (wsX G h z0.1 ++ wsM G g z0.2) → va_S A s.heap H locs → lv_has ls 4 [(0, .ref b), (1, .ref (h 0)), (2, .ref (g 0)), (3, .int x3)] → W p l e R s m args below meth c H locs 60 818 Q (F0 m 435 ls []) := by
  intro x3 z0 H locs ls hw hP hD hS hl
  have hx := hC.1
  have hb := hC.2.1
  unfold wplaw_435 at hw
  refine lv_aload_n hx hb dL_law_435 rfl (lv_at hl 1 rfl) ?_
  refine xc_wi (S := wXS) (wsz := fun q => (wsX G h q.1 ++ wsM G g q.2)) (f := fun u => (u, z0.2)) (xr_V hC (cX5_plan_c (h := h) hw) ⟨rfl, rfl⟩ bw_314 calX5_plan ⟨Nat.le_trans (Nat.le_of_ble_eq_true rfl) hF, Nat.le_trans (Nat.le_of_ble_eq_true rfl) hL⟩ (rest := []) (xpV hK (cut_XM_X0) hP hD rfl rfl) rfl hl rfl (Nat.le_of_ble_eq_true rfl) dL_law_436 ⟨hRc, hRs⟩) (cut_XM_X0) hP hD hS hA (fun r1 u z1 H locs hz1 hw hP hD hS => ?_)
  have hw := hw z1 hz1
  refine lv_aload_n hx hb dL_law_439 rfl (lv_at hl 2 rfl) ?_
  refine xc_wi (S := wSt) (wsz := fun q => (wsX G h q.1 ++ wsM G g q.2)) (f := fun u => (z1.1, u)) (xr_V hC (cX6_plan_c (h := g) hw) ⟨rfl, rfl⟩ bw_769 calX6_plan ⟨Nat.le_trans (Nat.le_of_ble_eq_true rfl) hF, Nat.le_trans (Nat.le_of_ble_eq_true rfl) hL⟩ (rest := [.int r1]) (xpV hK (cut_XM_M43) hP hD rfl rfl) rfl hl rfl (Nat.le_of_ble_eq_true rfl) dL_law_440 ⟨hRc, hRs⟩) (cut_XM_M43) hP hD hS hA (fun r2 u z2 H locs hz1 hw hP hD hS => ?_)
  have hw := hw z2 hz1
  refine lv_icmp_eq (tgt := 1176) hx hb dL_law_443 (by decide) (fun hc => ?_) (fun hc => ?_)
  · have hw := And.left hw hc
    exact B1176 x3 z2 _ _ _ hw hP hD hS (lv_sub hl [0, 1, 2, 3] rfl)
  · have hw := And.right hw hc
    refine lv_iconst (v := (0 : Int32)) hx hb dL_law_446 (by decide) ?_
    exact False.elim hw
set_option maxHeartbeats 4000000 in
set_option maxRecDepth 100000 in
theorem blaw_422 {p : Program} {l : Launch} {e : Env} {R : Room} {s : State} {m : MethodId} {args : Array Value} {below : List Frame} {meth : Method} {c : Code} {Q : State → Prop} {A : Nat → Prop} {G : wG} {h g : Nat → Nat} {b L : Nat} {xs : Nat → Int32} (hC : CallFix p m c cL_law 4 s args BIG RL) (hK : wKK G s) (hA : ∀ q, s.heap.size ≤ q → A q) (hX : va_X b L xs s s.heap) (hbl : b < s.heap.size) (hbA : ¬ A b) (hF : 2000 ≤ R.frames) (hL : 80000 ≤ R.locals) (hRc : 60 ≤ R.cells) (hRs : 818 ≤ R.slots) {k18 : Int32 → (wXS × wSt) → Prop} (I18 : ∀ (x3 : Int32) (z0 : wXS × wSt) (H : Heap) (locs : List Loc) (ls : Array Slot), k18 x3 z0 → va_P G.1 vwCl (wsX G h z0.1 ++ wsM G g z0.2) H → va_D A (wsX G h z0.1 ++ wsM G g z0.2) → va_S A s.heap H locs → lv_has ls 4 [(0, .ref b), (1, .ref (h 0)), (2, .ref (g 0)), (3, .int x3)] → W p l e R s m args below meth c H locs 60 818 Q (F0 m 18 ls [])) (B1176 : ∀ (x3 : Int32) (z0 : wXS × wSt) (H : Heap) (locs : List Loc) (ls : Array Slot), wplaw_1176 k18 L xs x3 z0 → va_P G.1 vwCl (wsX G h z0.1 ++ wsM G g z0.2) H → va_D A (wsX G h z0.1 ++ wsM G g z0.2) → va_S A s.heap H locs → lv_has ls 4 [(0, .ref b), (1, .ref (h 0)), (2, .ref (g 0)), (3, .int x3)] → W p l e R s m args below meth c H locs 60 818 Q (F0 m 1176 ls [])) : ∀ (x3 : Int32) (z0 : wXS × wSt) (H : Heap) (locs : List Loc) (ls : Array Slot), wplaw_422 k18 L xs x3 z0 → va_P G.1 vwCl (wsX G h z0.1 ++ wsM G g z0.2) H → va_D A (wsX G h z0.1 ++ wsM G g z0.2) → va_S A s.heap H locs → lv_has ls 4 [(0, .ref b), (1, .ref (h 0)), (2, .ref (g 0)), (3, .int x3)] → W p l e R s m args below meth c H locs 60 818 Q (F0 m 422 ls []) := by
  intro x3 z0 H locs ls hw hP hD hS hl
  have hx := hC.1
  have hb := hC.2.1
  unfold wplaw_422 at hw
  refine lv_aload_n hx hb dL_law_422 rfl (lv_at hl 1 rfl) ?_
  refine xc_wi (S := wXS) (wsz := fun q => (wsX G h q.1 ++ wsM G g q.2)) (f := fun u => (u, z0.2)) (xr_V hC (cX5_village_c (h := h) hw) ⟨rfl, rfl⟩ bw_277 calX5_village ⟨Nat.le_trans (Nat.le_of_ble_eq_true rfl) hF, Nat.le_trans (Nat.le_of_ble_eq_true rfl) hL⟩ (rest := []) (xpV hK (cut_XM_X0) hP hD rfl rfl) rfl hl rfl (Nat.le_of_ble_eq_true rfl) dL_law_423 ⟨hRc, hRs⟩) (cut_XM_X0) hP hD hS hA (fun r1 u z1 H locs hz1 hw hP hD hS => ?_)
  have hw := hw z1 hz1
  refine lv_aload_n hx hb dL_law_426 rfl (lv_at hl 2 rfl) ?_
  refine xc_wi (S := wSt) (wsz := fun q => (wsX G h q.1 ++ wsM G g q.2)) (f := fun u => (z1.1, u)) (xr_V hC (cX6_village_c (h := g) hw) ⟨rfl, rfl⟩ bw_749 calX6_village ⟨Nat.le_trans (Nat.le_of_ble_eq_true rfl) hF, Nat.le_trans (Nat.le_of_ble_eq_true rfl) hL⟩ (rest := [.int r1]) (xpV hK (cut_XM_M43) hP hD rfl rfl) rfl hl rfl (Nat.le_of_ble_eq_true rfl) dL_law_427 ⟨hRc, hRs⟩) (cut_XM_M43) hP hD hS hA (fun r2 u z2 H locs hz1 hw hP hD hS => ?_)
  have hw := hw z2 hz1
  refine lv_icmp_eq (tgt := 1176) hx hb dL_law_430 (by decide) (fun hc => ?_) (fun hc => ?_)
  · have hw := And.left hw hc
    exact B1176 x3 z2 _ _ _ hw hP hD hS (lv_sub hl [0, 1, 2, 3] rfl)
  · have hw := And.right hw hc
    refine lv_iconst (v := (0 : Int32)) hx hb dL_law_433 (by decide) ?_
    exact False.elim hw
set_option maxHeartbeats 4000000 in
set_option maxRecDepth 100000 in
theorem blaw_359 {p : Program} {l : Launch} {e : Env} {R : Room} {s : State} {m : MethodId} {args : Array Value} {below : List Frame} {meth : Method} {c : Code} {Q : State → Prop} {A : Nat → Prop} {G : wG} {h g : Nat → Nat} {b L : Nat} {xs : Nat → Int32} (hC : CallFix p m c cL_law 4 s args BIG RL) (hK : wKK G s) (hA : ∀ q, s.heap.size ≤ q → A q) (hX : va_X b L xs s s.heap) (hbl : b < s.heap.size) (hbA : ¬ A b) (hF : 2000 ≤ R.frames) (hL : 80000 ≤ R.locals) (hRc : 60 ≤ R.cells) (hRs : 818 ≤ R.slots) {k18 : Int32 → (wXS × wSt) → Prop} (I18 : ∀ (x3 : Int32) (z0 : wXS × wSt) (H : Heap) (locs : List Loc) (ls : Array Slot), k18 x3 z0 → va_P G.1 vwCl (wsX G h z0.1 ++ wsM G g z0.2) H → va_D A (wsX G h z0.1 ++ wsM G g z0.2) → va_S A s.heap H locs → lv_has ls 4 [(0, .ref b), (1, .ref (h 0)), (2, .ref (g 0)), (3, .int x3)] → W p l e R s m args below meth c H locs 60 818 Q (F0 m 18 ls [])) (B1176 : ∀ (x3 : Int32) (z0 : wXS × wSt) (H : Heap) (locs : List Loc) (ls : Array Slot), wplaw_1176 k18 L xs x3 z0 → va_P G.1 vwCl (wsX G h z0.1 ++ wsM G g z0.2) H → va_D A (wsX G h z0.1 ++ wsM G g z0.2) → va_S A s.heap H locs → lv_has ls 4 [(0, .ref b), (1, .ref (h 0)), (2, .ref (g 0)), (3, .int x3)] → W p l e R s m args below meth c H locs 60 818 Q (F0 m 1176 ls [])) : ∀ (x3 : Int32) (z0 : wXS × wSt) (H : Heap) (locs : List Loc) (ls : Array Slot), wplaw_359 k18 L xs x3 z0 → va_P G.1 vwCl (wsX G h z0.1 ++ wsM G g z0.2) H → va_D A (wsX G h z0.1 ++ wsM G g z0.2) → va_S A s.heap H locs → lv_has ls 4 [(0, .ref b), (1, .ref (h 0)), (2, .ref (g 0)), (3, .int x3)] → W p l e R s m args below meth c H locs 60 818 Q (F0 m 359 ls []) := by
  intro x3 z0 H locs ls hw hP hD hS hl
  have hx := hC.1
  have hb := hC.2.1
  unfold wplaw_359 at hw
  refine lv_aload_n hx hb dL_law_359 rfl (lv_at hl 1 rfl) ?_
  refine lv_aload_n hx hb dL_law_360 rfl (lv_at hl 0 rfl) ?_
  refine lv_iload_n hx hb dL_law_361 rfl (lv_at hl 3 rfl) ?_
  refine lv_iconst (v := (1 : Int32)) hx hb dL_law_362 (by decide) ?_
  refine lv_iadd hx hb dL_law_363 ?_
  refine va_sld hx hb hX hbl hbA hS (And.left hw) dL_law_364 ?_
  have hw := And.right hw
  refine lv_i2l (v := ((xs (x3 + (1 : Int32)).toNatClampNeg).toInt64)) hx hb dL_law_365 rfl ?_
  refine lv_bipush (v := (32 : Int32)) hx hb dL_law_366 (by decide) ?_
  refine lv_lshl (v := (((xs (x3 + (1 : Int32)).toNatClampNeg).toInt64) <<< ((32 : Int32).toInt64 &&& 63))) hx hb dL_law_368 rfl ?_
  refine lv_aload_n hx hb dL_law_369 rfl (lv_at hl 0 rfl) ?_
  refine lv_iload_n hx hb dL_law_370 rfl (lv_at hl 3 rfl) ?_
  refine lv_iconst (v := (2 : Int32)) hx hb dL_law_371 (by decide) ?_
  refine lv_iadd hx hb dL_law_372 ?_
  refine va_sld hx hb hX hbl hbA hS (And.left hw) dL_law_373 ?_
  have hw := And.right hw
  refine lv_i2l (v := ((xs (x3 + (2 : Int32)).toNatClampNeg).toInt64)) hx hb dL_law_374 rfl ?_
  refine lv_ldc2 (v := (4294967295 : Int64)) hx hb hC.2.2.2.1 (hC.2.2.2.2 _ bw_937) dL_law_375 ?_
  refine lv_land hx hb dL_law_378 ?_
  refine lv_lor hx hb dL_law_379 ?_
  refine lv_aload_n hx hb dL_law_380 rfl (lv_at hl 0 rfl) ?_
  refine lv_iload_n hx hb dL_law_381 rfl (lv_at hl 3 rfl) ?_
  refine lv_iconst (v := (3 : Int32)) hx hb dL_law_382 (by decide) ?_
  refine lv_iadd hx hb dL_law_383 ?_
  refine va_sld hx hb hX hbl hbA hS (And.left hw) dL_law_384 ?_
  have hw := And.right hw
  refine xc_wi (S := wXS) (wsz := fun q => (wsX G h q.1 ++ wsM G g q.2)) (f := fun u => (u, z0.2)) (xr_V hC (cX5_type_c (h := h) hw) ⟨rfl, rfl⟩ bw_263 calX5_type ⟨Nat.le_trans (Nat.le_of_ble_eq_true rfl) hF, Nat.le_trans (Nat.le_of_ble_eq_true rfl) hL⟩ (rest := []) (xpV hK (cut_XM_X0) hP hD rfl rfl) rfl hl rfl (Nat.le_of_ble_eq_true rfl) dL_law_385 ⟨hRc, hRs⟩) (cut_XM_X0) hP hD hS hA (fun r1 u z1 H locs hz1 hw hP hD hS => ?_)
  have hw := hw z1 hz1
  refine lv_aload_n hx hb dL_law_388 rfl (lv_at hl 2 rfl) ?_
  refine lv_aload_n hx hb dL_law_389 rfl (lv_at hl 0 rfl) ?_
  refine lv_iload_n hx hb dL_law_390 rfl (lv_at hl 3 rfl) ?_
  refine lv_iconst (v := (1 : Int32)) hx hb dL_law_391 (by decide) ?_
  refine lv_iadd hx hb dL_law_392 ?_
  refine va_sld hx hb hX hbl hbA hS (And.left hw) dL_law_393 ?_
  have hw := And.right hw
  refine lv_i2l (v := ((xs (x3 + (1 : Int32)).toNatClampNeg).toInt64)) hx hb dL_law_394 rfl ?_
  refine lv_bipush (v := (32 : Int32)) hx hb dL_law_395 (by decide) ?_
  refine lv_lshl (v := (((xs (x3 + (1 : Int32)).toNatClampNeg).toInt64) <<< ((32 : Int32).toInt64 &&& 63))) hx hb dL_law_397 rfl ?_
  refine lv_aload_n hx hb dL_law_398 rfl (lv_at hl 0 rfl) ?_
  refine lv_iload_n hx hb dL_law_399 rfl (lv_at hl 3 rfl) ?_
  refine lv_iconst (v := (2 : Int32)) hx hb dL_law_400 (by decide) ?_
  refine lv_iadd hx hb dL_law_401 ?_
  refine va_sld hx hb hX hbl hbA hS (And.left hw) dL_law_402 ?_
  have hw := And.right hw
  refine lv_i2l (v := ((xs (x3 + (2 : Int32)).toNatClampNeg).toInt64)) hx hb dL_law_403 rfl ?_
  refine lv_ldc2 (v := (4294967295 : Int64)) hx hb hC.2.2.2.1 (hC.2.2.2.2 _ bw_937) dL_law_404 ?_
  refine lv_land hx hb dL_law_407 ?_
  refine lv_lor hx hb dL_law_408 ?_
  refine lv_aload_n hx hb dL_law_409 rfl (lv_at hl 0 rfl) ?_
  refine lv_iload_n hx hb dL_law_410 rfl (lv_at hl 3 rfl) ?_
  refine lv_iconst (v := (3 : Int32)) hx hb dL_law_411 (by decide) ?_
  refine lv_iadd hx hb dL_law_412 ?_
  refine va_sld hx hb hX hbl hbA hS (And.left hw) dL_law_413 ?_
  have hw := And.right hw
  refine xc_wi (S := wSt) (wsz := fun q => (wsX G h q.1 ++ wsM G g q.2)) (f := fun u => (z1.1, u)) (xr_V hC (cX6_type_c (h := g) hw) ⟨rfl, rfl⟩ bw_741 calX6_type ⟨Nat.le_trans (Nat.le_of_ble_eq_true rfl) hF, Nat.le_trans (Nat.le_of_ble_eq_true rfl) hL⟩ (rest := [.int r1]) (xpV hK (cut_XM_M43) hP hD rfl rfl) rfl hl rfl (Nat.le_of_ble_eq_true rfl) dL_law_414 ⟨hRc, hRs⟩) (cut_XM_M43) hP hD hS hA (fun r2 u z2 H locs hz1 hw hP hD hS => ?_)
  have hw := hw z2 hz1
  refine lv_icmp_eq (tgt := 1176) hx hb dL_law_417 (by decide) (fun hc => ?_) (fun hc => ?_)
  · have hw := And.left hw hc
    exact B1176 x3 z2 _ _ _ hw hP hD hS (lv_sub hl [0, 1, 2, 3] rfl)
  · have hw := And.right hw hc
    refine lv_iconst (v := (0 : Int32)) hx hb dL_law_420 (by decide) ?_
    exact False.elim hw
set_option maxHeartbeats 4000000 in
set_option maxRecDepth 100000 in
theorem blaw_336 {p : Program} {l : Launch} {e : Env} {R : Room} {s : State} {m : MethodId} {args : Array Value} {below : List Frame} {meth : Method} {c : Code} {Q : State → Prop} {A : Nat → Prop} {G : wG} {h g : Nat → Nat} {b L : Nat} {xs : Nat → Int32} (hC : CallFix p m c cL_law 4 s args BIG RL) (hK : wKK G s) (hA : ∀ q, s.heap.size ≤ q → A q) (hX : va_X b L xs s s.heap) (hbl : b < s.heap.size) (hbA : ¬ A b) (hF : 2000 ≤ R.frames) (hL : 80000 ≤ R.locals) (hRc : 60 ≤ R.cells) (hRs : 818 ≤ R.slots) {k18 : Int32 → (wXS × wSt) → Prop} (I18 : ∀ (x3 : Int32) (z0 : wXS × wSt) (H : Heap) (locs : List Loc) (ls : Array Slot), k18 x3 z0 → va_P G.1 vwCl (wsX G h z0.1 ++ wsM G g z0.2) H → va_D A (wsX G h z0.1 ++ wsM G g z0.2) → va_S A s.heap H locs → lv_has ls 4 [(0, .ref b), (1, .ref (h 0)), (2, .ref (g 0)), (3, .int x3)] → W p l e R s m args below meth c H locs 60 818 Q (F0 m 18 ls [])) (B1176 : ∀ (x3 : Int32) (z0 : wXS × wSt) (H : Heap) (locs : List Loc) (ls : Array Slot), wplaw_1176 k18 L xs x3 z0 → va_P G.1 vwCl (wsX G h z0.1 ++ wsM G g z0.2) H → va_D A (wsX G h z0.1 ++ wsM G g z0.2) → va_S A s.heap H locs → lv_has ls 4 [(0, .ref b), (1, .ref (h 0)), (2, .ref (g 0)), (3, .int x3)] → W p l e R s m args below meth c H locs 60 818 Q (F0 m 1176 ls [])) : ∀ (x3 : Int32) (z0 : wXS × wSt) (H : Heap) (locs : List Loc) (ls : Array Slot), wplaw_336 k18 L xs x3 z0 → va_P G.1 vwCl (wsX G h z0.1 ++ wsM G g z0.2) H → va_D A (wsX G h z0.1 ++ wsM G g z0.2) → va_S A s.heap H locs → lv_has ls 4 [(0, .ref b), (1, .ref (h 0)), (2, .ref (g 0)), (3, .int x3)] → W p l e R s m args below meth c H locs 60 818 Q (F0 m 336 ls []) := by
  intro x3 z0 H locs ls hw hP hD hS hl
  have hx := hC.1
  have hb := hC.2.1
  unfold wplaw_336 at hw
  refine lv_aload_n hx hb dL_law_336 rfl (lv_at hl 1 rfl) ?_
  refine lv_aload_n hx hb dL_law_337 rfl (lv_at hl 0 rfl) ?_
  refine lv_iload_n hx hb dL_law_338 rfl (lv_at hl 3 rfl) ?_
  refine lv_iconst (v := (1 : Int32)) hx hb dL_law_339 (by decide) ?_
  refine lv_iadd hx hb dL_law_340 ?_
  refine va_sld hx hb hX hbl hbA hS (And.left hw) dL_law_341 ?_
  have hw := And.right hw
  refine vp_callSi (xro (xr_V hC (cX5_is_c (h := h) hw) ⟨rfl, rfl⟩ bw_259 calX5_is ⟨Nat.le_trans (Nat.le_of_ble_eq_true rfl) hF, Nat.le_trans (Nat.le_of_ble_eq_true rfl) hL⟩ (rest := []) (xpR hK (xCut.P (cut_XM_X0) hP) rfl rfl) rfl hl rfl (Nat.le_of_ble_eq_true rfl) dL_law_342 ⟨hRc, hRs⟩)) (fun r1 hw => ?_)
  refine lv_aload_n hx hb dL_law_345 rfl (lv_at hl 2 rfl) ?_
  refine lv_aload_n hx hb dL_law_346 rfl (lv_at hl 0 rfl) ?_
  refine lv_iload_n hx hb dL_law_347 rfl (lv_at hl 3 rfl) ?_
  refine lv_iconst (v := (1 : Int32)) hx hb dL_law_348 (by decide) ?_
  refine lv_iadd hx hb dL_law_349 ?_
  refine va_sld hx hb hX hbl hbA hS (And.left hw) dL_law_350 ?_
  have hw := And.right hw
  refine vp_callSi (xro (xr_V hC (cX6_is_c (h := g) hw) ⟨rfl, rfl⟩ bw_737 calX6_is ⟨Nat.le_trans (Nat.le_of_ble_eq_true rfl) hF, Nat.le_trans (Nat.le_of_ble_eq_true rfl) hL⟩ (rest := [.int r1]) (xpR hK (xCut.P (cut_XM_M43) hP) rfl rfl) rfl hl rfl (Nat.le_of_ble_eq_true rfl) dL_law_351 ⟨hRc, hRs⟩)) (fun r2 hw => ?_)
  refine lv_icmp_eq (tgt := 1176) hx hb dL_law_354 (by decide) (fun hc => ?_) (fun hc => ?_)
  · have hw := And.left hw hc
    exact B1176 x3 z0 _ _ _ hw hP hD hS (lv_sub hl [0, 1, 2, 3] rfl)
  · have hw := And.right hw hc
    refine lv_iconst (v := (0 : Int32)) hx hb dL_law_357 (by decide) ?_
    exact False.elim hw
set_option maxHeartbeats 4000000 in
set_option maxRecDepth 100000 in
theorem blaw_303 {p : Program} {l : Launch} {e : Env} {R : Room} {s : State} {m : MethodId} {args : Array Value} {below : List Frame} {meth : Method} {c : Code} {Q : State → Prop} {A : Nat → Prop} {G : wG} {h g : Nat → Nat} {b L : Nat} {xs : Nat → Int32} (hC : CallFix p m c cL_law 4 s args BIG RL) (hK : wKK G s) (hA : ∀ q, s.heap.size ≤ q → A q) (hX : va_X b L xs s s.heap) (hbl : b < s.heap.size) (hbA : ¬ A b) (hF : 2000 ≤ R.frames) (hL : 80000 ≤ R.locals) (hRc : 60 ≤ R.cells) (hRs : 818 ≤ R.slots) {k18 : Int32 → (wXS × wSt) → Prop} (I18 : ∀ (x3 : Int32) (z0 : wXS × wSt) (H : Heap) (locs : List Loc) (ls : Array Slot), k18 x3 z0 → va_P G.1 vwCl (wsX G h z0.1 ++ wsM G g z0.2) H → va_D A (wsX G h z0.1 ++ wsM G g z0.2) → va_S A s.heap H locs → lv_has ls 4 [(0, .ref b), (1, .ref (h 0)), (2, .ref (g 0)), (3, .int x3)] → W p l e R s m args below meth c H locs 60 818 Q (F0 m 18 ls [])) (B1176 : ∀ (x3 : Int32) (z0 : wXS × wSt) (H : Heap) (locs : List Loc) (ls : Array Slot), wplaw_1176 k18 L xs x3 z0 → va_P G.1 vwCl (wsX G h z0.1 ++ wsM G g z0.2) H → va_D A (wsX G h z0.1 ++ wsM G g z0.2) → va_S A s.heap H locs → lv_has ls 4 [(0, .ref b), (1, .ref (h 0)), (2, .ref (g 0)), (3, .int x3)] → W p l e R s m args below meth c H locs 60 818 Q (F0 m 1176 ls [])) : ∀ (x3 : Int32) (z0 : wXS × wSt) (H : Heap) (locs : List Loc) (ls : Array Slot), wplaw_303 k18 L xs x3 z0 → va_P G.1 vwCl (wsX G h z0.1 ++ wsM G g z0.2) H → va_D A (wsX G h z0.1 ++ wsM G g z0.2) → va_S A s.heap H locs → lv_has ls 4 [(0, .ref b), (1, .ref (h 0)), (2, .ref (g 0)), (3, .int x3)] → W p l e R s m args below meth c H locs 60 818 Q (F0 m 303 ls []) := by
  intro x3 z0 H locs ls hw hP hD hS hl
  have hx := hC.1
  have hb := hC.2.1
  unfold wplaw_303 at hw
  refine lv_aload_n hx hb dL_law_303 rfl (lv_at hl 1 rfl) ?_
  refine lv_aload_n hx hb dL_law_304 rfl (lv_at hl 0 rfl) ?_
  refine lv_iload_n hx hb dL_law_305 rfl (lv_at hl 3 rfl) ?_
  refine lv_iconst (v := (1 : Int32)) hx hb dL_law_306 (by decide) ?_
  refine lv_iadd hx hb dL_law_307 ?_
  refine va_sld hx hb hX hbl hbA hS (And.left hw) dL_law_308 ?_
  have hw := And.right hw
  refine lv_aload_n hx hb dL_law_309 rfl (lv_at hl 0 rfl) ?_
  refine lv_iload_n hx hb dL_law_310 rfl (lv_at hl 3 rfl) ?_
  refine lv_iconst (v := (2 : Int32)) hx hb dL_law_311 (by decide) ?_
  refine lv_iadd hx hb dL_law_312 ?_
  refine va_sld hx hb hX hbl hbA hS (And.left hw) dL_law_313 ?_
  have hw := And.right hw
  refine xc_wi (S := wXS) (wsz := fun q => (wsX G h q.1 ++ wsM G g q.2)) (f := fun u => (u, z0.2)) (xr_V hC (cX5_set_c (h := h) hw) ⟨rfl, rfl⟩ bw_252 calX5_set ⟨Nat.le_trans (Nat.le_of_ble_eq_true rfl) hF, Nat.le_trans (Nat.le_of_ble_eq_true rfl) hL⟩ (rest := []) (xpV hK (cut_XM_X0) hP hD rfl rfl) rfl hl rfl (Nat.le_of_ble_eq_true rfl) dL_law_314 ⟨hRc, hRs⟩) (cut_XM_X0) hP hD hS hA (fun r1 u z1 H locs hz1 hw hP hD hS => ?_)
  have hw := hw z1 hz1
  refine lv_aload_n hx hb dL_law_317 rfl (lv_at hl 2 rfl) ?_
  refine lv_aload_n hx hb dL_law_318 rfl (lv_at hl 0 rfl) ?_
  refine lv_iload_n hx hb dL_law_319 rfl (lv_at hl 3 rfl) ?_
  refine lv_iconst (v := (1 : Int32)) hx hb dL_law_320 (by decide) ?_
  refine lv_iadd hx hb dL_law_321 ?_
  refine va_sld hx hb hX hbl hbA hS (And.left hw) dL_law_322 ?_
  have hw := And.right hw
  refine lv_aload_n hx hb dL_law_323 rfl (lv_at hl 0 rfl) ?_
  refine lv_iload_n hx hb dL_law_324 rfl (lv_at hl 3 rfl) ?_
  refine lv_iconst (v := (2 : Int32)) hx hb dL_law_325 (by decide) ?_
  refine lv_iadd hx hb dL_law_326 ?_
  refine va_sld hx hb hX hbl hbA hS (And.left hw) dL_law_327 ?_
  have hw := And.right hw
  refine xc_wi (S := wSt) (wsz := fun q => (wsX G h q.1 ++ wsM G g q.2)) (f := fun u => (z1.1, u)) (xr_V hC (cX6_set_c (h := g) hw) ⟨rfl, rfl⟩ bw_727 calX6_set ⟨Nat.le_trans (Nat.le_of_ble_eq_true rfl) hF, Nat.le_trans (Nat.le_of_ble_eq_true rfl) hL⟩ (rest := [.int r1]) (xpV hK (cut_XM_M43) hP hD rfl rfl) rfl hl rfl (Nat.le_of_ble_eq_true rfl) dL_law_328 ⟨hRc, hRs⟩) (cut_XM_M43) hP hD hS hA (fun r2 u z2 H locs hz1 hw hP hD hS => ?_)
  have hw := hw z2 hz1
  refine lv_icmp_eq (tgt := 1176) hx hb dL_law_331 (by decide) (fun hc => ?_) (fun hc => ?_)
  · have hw := And.left hw hc
    exact B1176 x3 z2 _ _ _ hw hP hD hS (lv_sub hl [0, 1, 2, 3] rfl)
  · have hw := And.right hw hc
    refine lv_iconst (v := (0 : Int32)) hx hb dL_law_334 (by decide) ?_
    exact False.elim hw
set_option maxHeartbeats 4000000 in
set_option maxRecDepth 100000 in
theorem blaw_295 {p : Program} {l : Launch} {e : Env} {R : Room} {s : State} {m : MethodId} {args : Array Value} {below : List Frame} {meth : Method} {c : Code} {Q : State → Prop} {A : Nat → Prop} {G : wG} {h g : Nat → Nat} {b L : Nat} {xs : Nat → Int32} (hC : CallFix p m c cL_law 4 s args BIG RL) (hK : wKK G s) (hA : ∀ q, s.heap.size ≤ q → A q) (hX : va_X b L xs s s.heap) (hbl : b < s.heap.size) (hbA : ¬ A b) (hF : 2000 ≤ R.frames) (hL : 80000 ≤ R.locals) (hRc : 60 ≤ R.cells) (hRs : 818 ≤ R.slots) {k18 : Int32 → (wXS × wSt) → Prop} (I18 : ∀ (x3 : Int32) (z0 : wXS × wSt) (H : Heap) (locs : List Loc) (ls : Array Slot), k18 x3 z0 → va_P G.1 vwCl (wsX G h z0.1 ++ wsM G g z0.2) H → va_D A (wsX G h z0.1 ++ wsM G g z0.2) → va_S A s.heap H locs → lv_has ls 4 [(0, .ref b), (1, .ref (h 0)), (2, .ref (g 0)), (3, .int x3)] → W p l e R s m args below meth c H locs 60 818 Q (F0 m 18 ls [])) (B1176 : ∀ (x3 : Int32) (z0 : wXS × wSt) (H : Heap) (locs : List Loc) (ls : Array Slot), wplaw_1176 k18 L xs x3 z0 → va_P G.1 vwCl (wsX G h z0.1 ++ wsM G g z0.2) H → va_D A (wsX G h z0.1 ++ wsM G g z0.2) → va_S A s.heap H locs → lv_has ls 4 [(0, .ref b), (1, .ref (h 0)), (2, .ref (g 0)), (3, .int x3)] → W p l e R s m args below meth c H locs 60 818 Q (F0 m 1176 ls [])) : ∀ (x3 : Int32) (t0 : Int32) (t1 : Int32) (t2 : Int32) (t4 : Int32) (z0 : wXS × wSt) (H : Heap) (locs : List Loc) (ls : Array Slot), wplaw_295 k18 L xs x3 t0 t1 t2 t4 z0 → va_P G.1 vwCl (wsX G h z0.1 ++ wsM G g z0.2) H → va_D A (wsX G h z0.1 ++ wsM G g z0.2) → va_S A s.heap H locs → lv_has ls 4 [(0, .ref b), (1, .ref (h 0)), (2, .ref (g 0)), (3, .int x3)] → W p l e R s m args below meth c H locs 60 818 Q (F0 m 295 ls [.int t0, .int t1, .int t2, .ref (g 0), .int t4]) := by
  intro x3 t0 t1 t2 t4 z0 H locs ls hw hP hD hS hl
  have hx := hC.1
  have hb := hC.2.1
  unfold wplaw_295 at hw
  refine xc_wi (S := wSt) (wsz := fun q => (wsX G h q.1 ++ wsM G g q.2)) (f := fun u => (z0.1, u)) (xr_V hC (cX6_quarrel_c (h := g) hw) ⟨rfl, rfl⟩ bw_719 calX6_quarrel ⟨Nat.le_trans (Nat.le_of_ble_eq_true rfl) hF, Nat.le_trans (Nat.le_of_ble_eq_true rfl) hL⟩ (rest := [.int t4]) (xpV hK (cut_XM_M43) hP hD rfl rfl) rfl hl rfl (Nat.le_of_ble_eq_true rfl) dL_law_295 ⟨hRc, hRs⟩) (cut_XM_M43) hP hD hS hA (fun r1 u z1 H locs hz1 hw hP hD hS => ?_)
  have hw := hw z1 hz1
  refine lv_icmp_eq (tgt := 1176) hx hb dL_law_298 (by decide) (fun hc => ?_) (fun hc => ?_)
  · have hw := And.left hw hc
    exact B1176 x3 z1 _ _ _ hw hP hD hS (lv_sub hl [0, 1, 2, 3] rfl)
  · have hw := And.right hw hc
    refine lv_iconst (v := (0 : Int32)) hx hb dL_law_301 (by decide) ?_
    exact False.elim hw
set_option maxHeartbeats 4000000 in
set_option maxRecDepth 100000 in
theorem blaw_268 {p : Program} {l : Launch} {e : Env} {R : Room} {s : State} {m : MethodId} {args : Array Value} {below : List Frame} {meth : Method} {c : Code} {Q : State → Prop} {A : Nat → Prop} {G : wG} {h g : Nat → Nat} {b L : Nat} {xs : Nat → Int32} (hC : CallFix p m c cL_law 4 s args BIG RL) (hK : wKK G s) (hA : ∀ q, s.heap.size ≤ q → A q) (hX : va_X b L xs s s.heap) (hbl : b < s.heap.size) (hbA : ¬ A b) (hF : 2000 ≤ R.frames) (hL : 80000 ≤ R.locals) (hRc : 60 ≤ R.cells) (hRs : 818 ≤ R.slots) {k18 : Int32 → (wXS × wSt) → Prop} (I18 : ∀ (x3 : Int32) (z0 : wXS × wSt) (H : Heap) (locs : List Loc) (ls : Array Slot), k18 x3 z0 → va_P G.1 vwCl (wsX G h z0.1 ++ wsM G g z0.2) H → va_D A (wsX G h z0.1 ++ wsM G g z0.2) → va_S A s.heap H locs → lv_has ls 4 [(0, .ref b), (1, .ref (h 0)), (2, .ref (g 0)), (3, .int x3)] → W p l e R s m args below meth c H locs 60 818 Q (F0 m 18 ls [])) (B295 : ∀ (x3 : Int32) (t0 : Int32) (t1 : Int32) (t2 : Int32) (t4 : Int32) (z0 : wXS × wSt) (H : Heap) (locs : List Loc) (ls : Array Slot), wplaw_295 k18 L xs x3 t0 t1 t2 t4 z0 → va_P G.1 vwCl (wsX G h z0.1 ++ wsM G g z0.2) H → va_D A (wsX G h z0.1 ++ wsM G g z0.2) → va_S A s.heap H locs → lv_has ls 4 [(0, .ref b), (1, .ref (h 0)), (2, .ref (g 0)), (3, .int x3)] → W p l e R s m args below meth c H locs 60 818 Q (F0 m 295 ls [.int t0, .int t1, .int t2, .ref (g 0), .int t4])) : ∀ (x3 : Int32) (t0 : Int32) (t1 : Int32) (t2 : Int32) (z0 : wXS × wSt) (H : Heap) (locs : List Loc) (ls : Array Slot), wplaw_268 k18 L xs x3 t0 t1 t2 z0 → va_P G.1 vwCl (wsX G h z0.1 ++ wsM G g z0.2) H → va_D A (wsX G h z0.1 ++ wsM G g z0.2) → va_S A s.heap H locs → lv_has ls 4 [(0, .ref b), (1, .ref (h 0)), (2, .ref (g 0)), (3, .int x3)] → W p l e R s m args below meth c H locs 60 818 Q (F0 m 268 ls [.int t0, .int t1, .int t2, .ref (h 0)]) := by
  intro x3 t0 t1 t2 z0 H locs ls hw hP hD hS hl
  have hx := hC.1
  have hb := hC.2.1
  unfold wplaw_268 at hw
  refine xc_wi (S := wXS) (wsz := fun q => (wsX G h q.1 ++ wsM G g q.2)) (f := fun u => (u, z0.2)) (xr_V hC (cX5_quarrel_c (h := h) hw) ⟨rfl, rfl⟩ bw_239 calX5_quarrel ⟨Nat.le_trans (Nat.le_of_ble_eq_true rfl) hF, Nat.le_trans (Nat.le_of_ble_eq_true rfl) hL⟩ (rest := []) (xpV hK (cut_XM_X0) hP hD rfl rfl) rfl hl rfl (Nat.le_of_ble_eq_true rfl) dL_law_268 ⟨hRc, hRs⟩) (cut_XM_X0) hP hD hS hA (fun r1 u z1 H locs hz1 hw hP hD hS => ?_)
  have hw := hw z1 hz1
  refine lv_aload_n hx hb dL_law_271 rfl (lv_at hl 2 rfl) ?_
  refine lv_aload_n hx hb dL_law_272 rfl (lv_at hl 0 rfl) ?_
  refine lv_iload_n hx hb dL_law_273 rfl (lv_at hl 3 rfl) ?_
  refine lv_iconst (v := (1 : Int32)) hx hb dL_law_274 (by decide) ?_
  refine lv_iadd hx hb dL_law_275 ?_
  refine va_sld hx hb hX hbl hbA hS (And.left hw) dL_law_276 ?_
  have hw := And.right hw
  refine lv_aload_n hx hb dL_law_277 rfl (lv_at hl 0 rfl) ?_
  refine lv_iload_n hx hb dL_law_278 rfl (lv_at hl 3 rfl) ?_
  refine lv_iconst (v := (2 : Int32)) hx hb dL_law_279 (by decide) ?_
  refine lv_iadd hx hb dL_law_280 ?_
  refine va_sld hx hb hX hbl hbA hS (And.left hw) dL_law_281 ?_
  have hw := And.right hw
  refine lv_aload_n hx hb dL_law_282 rfl (lv_at hl 0 rfl) ?_
  refine lv_iload_n hx hb dL_law_283 rfl (lv_at hl 3 rfl) ?_
  refine lv_iconst (v := (3 : Int32)) hx hb dL_law_284 (by decide) ?_
  refine lv_iadd hx hb dL_law_285 ?_
  refine va_sld hx hb hX hbl hbA hS (And.left hw) dL_law_286 ?_
  have hw := And.right hw
  refine lv_if_eq (tgt := 294) hx hb dL_law_287 (by decide) (fun hc => ?_) (fun hc => ?_)
  · have hw := And.left hw hc
    refine lv_iconst (v := (0 : Int32)) hx hb dL_law_294 (by decide) ?_
    exact B295 x3 (0 : Int32) (xs (x3 + (2 : Int32)).toNatClampNeg) (xs (x3 + (1 : Int32)).toNatClampNeg) r1 z1 _ _ _ hw hP hD hS (lv_sub hl [0, 1, 2, 3] rfl)
  · have hw := And.right hw hc
    refine lv_iconst (v := (1 : Int32)) hx hb dL_law_290 (by decide) ?_
    refine lv_goto (tgt := 295) hx hb dL_law_291 (by decide) ?_
    exact B295 x3 (1 : Int32) (xs (x3 + (2 : Int32)).toNatClampNeg) (xs (x3 + (1 : Int32)).toNatClampNeg) r1 z1 _ _ _ hw hP hD hS (lv_sub hl [0, 1, 2, 3] rfl)
set_option maxHeartbeats 4000000 in
set_option maxRecDepth 100000 in
theorem blaw_244 {p : Program} {l : Launch} {e : Env} {R : Room} {s : State} {m : MethodId} {args : Array Value} {below : List Frame} {meth : Method} {c : Code} {Q : State → Prop} {A : Nat → Prop} {G : wG} {h g : Nat → Nat} {b L : Nat} {xs : Nat → Int32} (hC : CallFix p m c cL_law 4 s args BIG RL) (hK : wKK G s) (hA : ∀ q, s.heap.size ≤ q → A q) (hX : va_X b L xs s s.heap) (hbl : b < s.heap.size) (hbA : ¬ A b) (hF : 2000 ≤ R.frames) (hL : 80000 ≤ R.locals) (hRc : 60 ≤ R.cells) (hRs : 818 ≤ R.slots) {k18 : Int32 → (wXS × wSt) → Prop} (I18 : ∀ (x3 : Int32) (z0 : wXS × wSt) (H : Heap) (locs : List Loc) (ls : Array Slot), k18 x3 z0 → va_P G.1 vwCl (wsX G h z0.1 ++ wsM G g z0.2) H → va_D A (wsX G h z0.1 ++ wsM G g z0.2) → va_S A s.heap H locs → lv_has ls 4 [(0, .ref b), (1, .ref (h 0)), (2, .ref (g 0)), (3, .int x3)] → W p l e R s m args below meth c H locs 60 818 Q (F0 m 18 ls [])) (B268 : ∀ (x3 : Int32) (t0 : Int32) (t1 : Int32) (t2 : Int32) (z0 : wXS × wSt) (H : Heap) (locs : List Loc) (ls : Array Slot), wplaw_268 k18 L xs x3 t0 t1 t2 z0 → va_P G.1 vwCl (wsX G h z0.1 ++ wsM G g z0.2) H → va_D A (wsX G h z0.1 ++ wsM G g z0.2) → va_S A s.heap H locs → lv_has ls 4 [(0, .ref b), (1, .ref (h 0)), (2, .ref (g 0)), (3, .int x3)] → W p l e R s m args below meth c H locs 60 818 Q (F0 m 268 ls [.int t0, .int t1, .int t2, .ref (h 0)])) : ∀ (x3 : Int32) (z0 : wXS × wSt) (H : Heap) (locs : List Loc) (ls : Array Slot), wplaw_244 k18 L xs x3 z0 → va_P G.1 vwCl (wsX G h z0.1 ++ wsM G g z0.2) H → va_D A (wsX G h z0.1 ++ wsM G g z0.2) → va_S A s.heap H locs → lv_has ls 4 [(0, .ref b), (1, .ref (h 0)), (2, .ref (g 0)), (3, .int x3)] → W p l e R s m args below meth c H locs 60 818 Q (F0 m 244 ls []) := by
  intro x3 z0 H locs ls hw hP hD hS hl
  have hx := hC.1
  have hb := hC.2.1
  unfold wplaw_244 at hw
  refine lv_aload_n hx hb dL_law_244 rfl (lv_at hl 1 rfl) ?_
  refine lv_aload_n hx hb dL_law_245 rfl (lv_at hl 0 rfl) ?_
  refine lv_iload_n hx hb dL_law_246 rfl (lv_at hl 3 rfl) ?_
  refine lv_iconst (v := (1 : Int32)) hx hb dL_law_247 (by decide) ?_
  refine lv_iadd hx hb dL_law_248 ?_
  refine va_sld hx hb hX hbl hbA hS (And.left hw) dL_law_249 ?_
  have hw := And.right hw
  refine lv_aload_n hx hb dL_law_250 rfl (lv_at hl 0 rfl) ?_
  refine lv_iload_n hx hb dL_law_251 rfl (lv_at hl 3 rfl) ?_
  refine lv_iconst (v := (2 : Int32)) hx hb dL_law_252 (by decide) ?_
  refine lv_iadd hx hb dL_law_253 ?_
  refine va_sld hx hb hX hbl hbA hS (And.left hw) dL_law_254 ?_
  have hw := And.right hw
  refine lv_aload_n hx hb dL_law_255 rfl (lv_at hl 0 rfl) ?_
  refine lv_iload_n hx hb dL_law_256 rfl (lv_at hl 3 rfl) ?_
  refine lv_iconst (v := (3 : Int32)) hx hb dL_law_257 (by decide) ?_
  refine lv_iadd hx hb dL_law_258 ?_
  refine va_sld hx hb hX hbl hbA hS (And.left hw) dL_law_259 ?_
  have hw := And.right hw
  refine lv_if_eq (tgt := 267) hx hb dL_law_260 (by decide) (fun hc => ?_) (fun hc => ?_)
  · have hw := And.left hw hc
    refine lv_iconst (v := (0 : Int32)) hx hb dL_law_267 (by decide) ?_
    exact B268 x3 (0 : Int32) (xs (x3 + (2 : Int32)).toNatClampNeg) (xs (x3 + (1 : Int32)).toNatClampNeg) z0 _ _ _ hw hP hD hS (lv_sub hl [0, 1, 2, 3] rfl)
  · have hw := And.right hw hc
    refine lv_iconst (v := (1 : Int32)) hx hb dL_law_263 (by decide) ?_
    refine lv_goto (tgt := 268) hx hb dL_law_264 (by decide) ?_
    exact B268 x3 (1 : Int32) (xs (x3 + (2 : Int32)).toNatClampNeg) (xs (x3 + (1 : Int32)).toNatClampNeg) z0 _ _ _ hw hP hD hS (lv_sub hl [0, 1, 2, 3] rfl)
set_option maxHeartbeats 4000000 in
set_option maxRecDepth 100000 in
theorem blaw_211 {p : Program} {l : Launch} {e : Env} {R : Room} {s : State} {m : MethodId} {args : Array Value} {below : List Frame} {meth : Method} {c : Code} {Q : State → Prop} {A : Nat → Prop} {G : wG} {h g : Nat → Nat} {b L : Nat} {xs : Nat → Int32} (hC : CallFix p m c cL_law 4 s args BIG RL) (hK : wKK G s) (hA : ∀ q, s.heap.size ≤ q → A q) (hX : va_X b L xs s s.heap) (hbl : b < s.heap.size) (hbA : ¬ A b) (hF : 2000 ≤ R.frames) (hL : 80000 ≤ R.locals) (hRc : 60 ≤ R.cells) (hRs : 818 ≤ R.slots) {k18 : Int32 → (wXS × wSt) → Prop} (I18 : ∀ (x3 : Int32) (z0 : wXS × wSt) (H : Heap) (locs : List Loc) (ls : Array Slot), k18 x3 z0 → va_P G.1 vwCl (wsX G h z0.1 ++ wsM G g z0.2) H → va_D A (wsX G h z0.1 ++ wsM G g z0.2) → va_S A s.heap H locs → lv_has ls 4 [(0, .ref b), (1, .ref (h 0)), (2, .ref (g 0)), (3, .int x3)] → W p l e R s m args below meth c H locs 60 818 Q (F0 m 18 ls [])) (B1176 : ∀ (x3 : Int32) (z0 : wXS × wSt) (H : Heap) (locs : List Loc) (ls : Array Slot), wplaw_1176 k18 L xs x3 z0 → va_P G.1 vwCl (wsX G h z0.1 ++ wsM G g z0.2) H → va_D A (wsX G h z0.1 ++ wsM G g z0.2) → va_S A s.heap H locs → lv_has ls 4 [(0, .ref b), (1, .ref (h 0)), (2, .ref (g 0)), (3, .int x3)] → W p l e R s m args below meth c H locs 60 818 Q (F0 m 1176 ls [])) : ∀ (x3 : Int32) (z0 : wXS × wSt) (H : Heap) (locs : List Loc) (ls : Array Slot), wplaw_211 k18 L xs x3 z0 → va_P G.1 vwCl (wsX G h z0.1 ++ wsM G g z0.2) H → va_D A (wsX G h z0.1 ++ wsM G g z0.2) → va_S A s.heap H locs → lv_has ls 4 [(0, .ref b), (1, .ref (h 0)), (2, .ref (g 0)), (3, .int x3)] → W p l e R s m args below meth c H locs 60 818 Q (F0 m 211 ls []) := by
  intro x3 z0 H locs ls hw hP hD hS hl
  have hx := hC.1
  have hb := hC.2.1
  unfold wplaw_211 at hw
  refine lv_aload_n hx hb dL_law_211 rfl (lv_at hl 1 rfl) ?_
  refine lv_aload_n hx hb dL_law_212 rfl (lv_at hl 0 rfl) ?_
  refine lv_iload_n hx hb dL_law_213 rfl (lv_at hl 3 rfl) ?_
  refine lv_iconst (v := (1 : Int32)) hx hb dL_law_214 (by decide) ?_
  refine lv_iadd hx hb dL_law_215 ?_
  refine va_sld hx hb hX hbl hbA hS (And.left hw) dL_law_216 ?_
  have hw := And.right hw
  refine lv_aload_n hx hb dL_law_217 rfl (lv_at hl 0 rfl) ?_
  refine lv_iload_n hx hb dL_law_218 rfl (lv_at hl 3 rfl) ?_
  refine lv_iconst (v := (2 : Int32)) hx hb dL_law_219 (by decide) ?_
  refine lv_iadd hx hb dL_law_220 ?_
  refine va_sld hx hb hX hbl hbA hS (And.left hw) dL_law_221 ?_
  have hw := And.right hw
  refine vp_callSi (xro (xr_V hC (cX5_told_c (h := h) hw) ⟨rfl, rfl⟩ bw_230 calX5_told ⟨Nat.le_trans (Nat.le_of_ble_eq_true rfl) hF, Nat.le_trans (Nat.le_of_ble_eq_true rfl) hL⟩ (rest := []) (xpR hK (xCut.P (cut_XM_X0) hP) rfl rfl) rfl hl rfl (Nat.le_of_ble_eq_true rfl) dL_law_222 ⟨hRc, hRs⟩)) (fun r1 hw => ?_)
  refine lv_aload_n hx hb dL_law_225 rfl (lv_at hl 2 rfl) ?_
  refine lv_aload_n hx hb dL_law_226 rfl (lv_at hl 0 rfl) ?_
  refine lv_iload_n hx hb dL_law_227 rfl (lv_at hl 3 rfl) ?_
  refine lv_iconst (v := (1 : Int32)) hx hb dL_law_228 (by decide) ?_
  refine lv_iadd hx hb dL_law_229 ?_
  refine va_sld hx hb hX hbl hbA hS (And.left hw) dL_law_230 ?_
  have hw := And.right hw
  refine lv_aload_n hx hb dL_law_231 rfl (lv_at hl 0 rfl) ?_
  refine lv_iload_n hx hb dL_law_232 rfl (lv_at hl 3 rfl) ?_
  refine lv_iconst (v := (2 : Int32)) hx hb dL_law_233 (by decide) ?_
  refine lv_iadd hx hb dL_law_234 ?_
  refine va_sld hx hb hX hbl hbA hS (And.left hw) dL_law_235 ?_
  have hw := And.right hw
  refine vp_callSi (xro (xr_V hC (cX6_told_c (h := g) hw) ⟨rfl, rfl⟩ bw_709 calX6_told ⟨Nat.le_trans (Nat.le_of_ble_eq_true rfl) hF, Nat.le_trans (Nat.le_of_ble_eq_true rfl) hL⟩ (rest := [.int r1]) (xpR hK (xCut.P (cut_XM_M43) hP) rfl rfl) rfl hl rfl (Nat.le_of_ble_eq_true rfl) dL_law_236 ⟨hRc, hRs⟩)) (fun r2 hw => ?_)
  refine lv_icmp_eq (tgt := 1176) hx hb dL_law_239 (by decide) (fun hc => ?_) (fun hc => ?_)
  · have hw := And.left hw hc
    exact B1176 x3 z0 _ _ _ hw hP hD hS (lv_sub hl [0, 1, 2, 3] rfl)
  · have hw := And.right hw hc
    refine lv_iconst (v := (0 : Int32)) hx hb dL_law_242 (by decide) ?_
    exact False.elim hw
set_option maxHeartbeats 4000000 in
set_option maxRecDepth 100000 in
theorem blaw_168 {p : Program} {l : Launch} {e : Env} {R : Room} {s : State} {m : MethodId} {args : Array Value} {below : List Frame} {meth : Method} {c : Code} {Q : State → Prop} {A : Nat → Prop} {G : wG} {h g : Nat → Nat} {b L : Nat} {xs : Nat → Int32} (hC : CallFix p m c cL_law 4 s args BIG RL) (hK : wKK G s) (hA : ∀ q, s.heap.size ≤ q → A q) (hX : va_X b L xs s s.heap) (hbl : b < s.heap.size) (hbA : ¬ A b) (hF : 2000 ≤ R.frames) (hL : 80000 ≤ R.locals) (hRc : 60 ≤ R.cells) (hRs : 818 ≤ R.slots) {k18 : Int32 → (wXS × wSt) → Prop} (I18 : ∀ (x3 : Int32) (z0 : wXS × wSt) (H : Heap) (locs : List Loc) (ls : Array Slot), k18 x3 z0 → va_P G.1 vwCl (wsX G h z0.1 ++ wsM G g z0.2) H → va_D A (wsX G h z0.1 ++ wsM G g z0.2) → va_S A s.heap H locs → lv_has ls 4 [(0, .ref b), (1, .ref (h 0)), (2, .ref (g 0)), (3, .int x3)] → W p l e R s m args below meth c H locs 60 818 Q (F0 m 18 ls [])) (B1176 : ∀ (x3 : Int32) (z0 : wXS × wSt) (H : Heap) (locs : List Loc) (ls : Array Slot), wplaw_1176 k18 L xs x3 z0 → va_P G.1 vwCl (wsX G h z0.1 ++ wsM G g z0.2) H → va_D A (wsX G h z0.1 ++ wsM G g z0.2) → va_S A s.heap H locs → lv_has ls 4 [(0, .ref b), (1, .ref (h 0)), (2, .ref (g 0)), (3, .int x3)] → W p l e R s m args below meth c H locs 60 818 Q (F0 m 1176 ls [])) : ∀ (x3 : Int32) (z0 : wXS × wSt) (H : Heap) (locs : List Loc) (ls : Array Slot), wplaw_168 k18 L xs x3 z0 → va_P G.1 vwCl (wsX G h z0.1 ++ wsM G g z0.2) H → va_D A (wsX G h z0.1 ++ wsM G g z0.2) → va_S A s.heap H locs → lv_has ls 4 [(0, .ref b), (1, .ref (h 0)), (2, .ref (g 0)), (3, .int x3)] → W p l e R s m args below meth c H locs 60 818 Q (F0 m 168 ls []) := by
  intro x3 z0 H locs ls hw hP hD hS hl
  have hx := hC.1
  have hb := hC.2.1
  unfold wplaw_168 at hw
  refine lv_aload_n hx hb dL_law_168 rfl (lv_at hl 1 rfl) ?_
  refine lv_aload_n hx hb dL_law_169 rfl (lv_at hl 0 rfl) ?_
  refine lv_iload_n hx hb dL_law_170 rfl (lv_at hl 3 rfl) ?_
  refine lv_iconst (v := (1 : Int32)) hx hb dL_law_171 (by decide) ?_
  refine lv_iadd hx hb dL_law_172 ?_
  refine va_sld hx hb hX hbl hbA hS (And.left hw) dL_law_173 ?_
  have hw := And.right hw
  refine lv_aload_n hx hb dL_law_174 rfl (lv_at hl 0 rfl) ?_
  refine lv_iload_n hx hb dL_law_175 rfl (lv_at hl 3 rfl) ?_
  refine lv_iconst (v := (2 : Int32)) hx hb dL_law_176 (by decide) ?_
  refine lv_iadd hx hb dL_law_177 ?_
  refine va_sld hx hb hX hbl hbA hS (And.left hw) dL_law_178 ?_
  have hw := And.right hw
  refine lv_aload_n hx hb dL_law_179 rfl (lv_at hl 0 rfl) ?_
  refine lv_iload_n hx hb dL_law_180 rfl (lv_at hl 3 rfl) ?_
  refine lv_iconst (v := (3 : Int32)) hx hb dL_law_181 (by decide) ?_
  refine lv_iadd hx hb dL_law_182 ?_
  refine va_sld hx hb hX hbl hbA hS (And.left hw) dL_law_183 ?_
  have hw := And.right hw
  refine xc_wi (S := wXS) (wsz := fun q => (wsX G h q.1 ++ wsM G g q.2)) (f := fun u => (u, z0.2)) (xr_V hC (cX5_folk_c (h := h) hw) ⟨rfl, rfl⟩ bw_219 calX5_folk ⟨Nat.le_trans (Nat.le_of_ble_eq_true rfl) hF, Nat.le_trans (Nat.le_of_ble_eq_true rfl) hL⟩ (rest := []) (xpV hK (cut_XM_X0) hP hD rfl rfl) rfl hl rfl (Nat.le_of_ble_eq_true rfl) dL_law_184 ⟨hRc, hRs⟩) (cut_XM_X0) hP hD hS hA (fun r1 u z1 H locs hz1 hw hP hD hS => ?_)
  have hw := hw z1 hz1
  refine lv_aload_n hx hb dL_law_187 rfl (lv_at hl 2 rfl) ?_
  refine lv_aload_n hx hb dL_law_188 rfl (lv_at hl 0 rfl) ?_
  refine lv_iload_n hx hb dL_law_189 rfl (lv_at hl 3 rfl) ?_
  refine lv_iconst (v := (1 : Int32)) hx hb dL_law_190 (by decide) ?_
  refine lv_iadd hx hb dL_law_191 ?_
  refine va_sld hx hb hX hbl hbA hS (And.left hw) dL_law_192 ?_
  have hw := And.right hw
  refine lv_aload_n hx hb dL_law_193 rfl (lv_at hl 0 rfl) ?_
  refine lv_iload_n hx hb dL_law_194 rfl (lv_at hl 3 rfl) ?_
  refine lv_iconst (v := (2 : Int32)) hx hb dL_law_195 (by decide) ?_
  refine lv_iadd hx hb dL_law_196 ?_
  refine va_sld hx hb hX hbl hbA hS (And.left hw) dL_law_197 ?_
  have hw := And.right hw
  refine lv_aload_n hx hb dL_law_198 rfl (lv_at hl 0 rfl) ?_
  refine lv_iload_n hx hb dL_law_199 rfl (lv_at hl 3 rfl) ?_
  refine lv_iconst (v := (3 : Int32)) hx hb dL_law_200 (by decide) ?_
  refine lv_iadd hx hb dL_law_201 ?_
  refine va_sld hx hb hX hbl hbA hS (And.left hw) dL_law_202 ?_
  have hw := And.right hw
  refine xc_wi (S := wSt) (wsz := fun q => (wsX G h q.1 ++ wsM G g q.2)) (f := fun u => (z1.1, u)) (xr_V hC (cX6_folk_c (h := g) hw) ⟨rfl, rfl⟩ bw_695 calX6_folk ⟨Nat.le_trans (Nat.le_of_ble_eq_true rfl) hF, Nat.le_trans (Nat.le_of_ble_eq_true rfl) hL⟩ (rest := [.int r1]) (xpV hK (cut_XM_M43) hP hD rfl rfl) rfl hl rfl (Nat.le_of_ble_eq_true rfl) dL_law_203 ⟨hRc, hRs⟩) (cut_XM_M43) hP hD hS hA (fun r2 u z2 H locs hz1 hw hP hD hS => ?_)
  have hw := hw z2 hz1
  refine lv_icmp_eq (tgt := 1176) hx hb dL_law_206 (by decide) (fun hc => ?_) (fun hc => ?_)
  · have hw := And.left hw hc
    exact B1176 x3 z2 _ _ _ hw hP hD hS (lv_sub hl [0, 1, 2, 3] rfl)
  · have hw := And.right hw hc
    refine lv_iconst (v := (0 : Int32)) hx hb dL_law_209 (by decide) ?_
    exact False.elim hw
set_option maxHeartbeats 4000000 in
set_option maxRecDepth 100000 in
theorem law_loop {p : Program} {l : Launch} {e : Env} {R : Room} {s : State} {m : MethodId} {args : Array Value} {below : List Frame} {meth : Method} {c : Code} {Q : State → Prop} {A : Nat → Prop} {G : wG} {h g : Nat → Nat} {b L : Nat} {xs : Nat → Int32} (hC : CallFix p m c cL_law 4 s args BIG RL) (hK : wKK G s) (hA : ∀ q, s.heap.size ≤ q → A q) (hX : va_X b L xs s s.heap) (hbl : b < s.heap.size) (hbA : ¬ A b) (hF : 2000 ≤ R.frames) (hL : 80000 ≤ R.locals) (hRc : 60 ≤ R.cells) (hRs : 818 ≤ R.slots) (hend : ∀ (H : Heap) (locs : List Loc) (pc : Nat) (ls : Array Slot), va_S A s.heap H locs → decode cL_law pc = .ok (.ireturn, 1) → W p l e R s m args below meth c H locs 60 818 Q (F0 m pc ls [.int 1])) : ∀ n : Nat, ∀ (x3 : Int32) (z0 : wXS × wSt) (H : Heap) (locs : List Loc) (ls : Array Slot), wplaw_L18 L xs n x3 z0 → va_P G.1 vwCl (wsX G h z0.1 ++ wsM G g z0.2) H → va_D A (wsX G h z0.1 ++ wsM G g z0.2) → va_S A s.heap H locs → lv_has ls 4 [(0, .ref b), (1, .ref (h 0)), (2, .ref (g 0)), (3, .int x3)] → W p l e R s m args below meth c H locs 60 818 Q (F0 m 18 ls []) := by
  have hx := hC.1
  have hb := hC.2.1
  intro n
  induction n with
  | zero => intro x3 z0 H locs ls hw hP hD hS hl; exact False.elim hw
  | succ n I18 =>
    have B1176 := blaw_1176 hC hK hA hX hbl hbA hF hL hRc hRs I18
    have B1113 := blaw_1113 hC hK hA hX hbl hbA hF hL hRc hRs I18 B1176
    have B1030 := blaw_1030 hC hK hA hX hbl hbA hF hL hRc hRs I18 B1176
    have B1007 := blaw_1007 hC hK hA hX hbl hbA hF hL hRc hRs I18 B1176
    have B964 := blaw_964 hC hK hA hX hbl hbA hF hL hRc hRs I18 B1176
    have B911 := blaw_911 hC hK hA hX hbl hbA hF hL hRc hRs I18 B1176
    have B858 := blaw_858 hC hK hA hX hbl hbA hF hL hRc hRs I18 B1176
    have B845 := blaw_845 hC hK hA hX hbl hbA hF hL hRc hRs I18 B1176
    have B832 := blaw_832 hC hK hA hX hbl hbA hF hL hRc hRs I18 B1176
    have B809 := blaw_809 hC hK hA hX hbl hbA hF hL hRc hRs I18 B1176
    have B786 := blaw_786 hC hK hA hX hbl hbA hF hL hRc hRs I18 B1176
    have B763 := blaw_763 hC hK hA hX hbl hbA hF hL hRc hRs I18 B1176
    have B688 := blaw_688 hC hK hA hX hbl hbA hF hL hRc hRs I18 B1176
    have B645 := blaw_645 hC hK hA hX hbl hbA hF hL hRc hRs I18 B1176
    have B612 := blaw_612 hC hK hA hX hbl hbA hF hL hRc hRs I18 B1176
    have B599 := blaw_599 hC hK hA hX hbl hbA hF hL hRc hRs I18 B1176
    have B576 := blaw_576 hC hK hA hX hbl hbA hF hL hRc hRs I18 B1176
    have B543 := blaw_543 hC hK hA hX hbl hbA hF hL hRc hRs I18 B1176
    have B520 := blaw_520 hC hK hA hX hbl hbA hF hL hRc hRs I18 B1176
    have B507 := blaw_507 hC hK hA hX hbl hbA hF hL hRc hRs I18 B1176
    have B484 := blaw_484 hC hK hA hX hbl hbA hF hL hRc hRs I18 B1176
    have B461 := blaw_461 hC hK hA hX hbl hbA hF hL hRc hRs I18 B1176
    have B448 := blaw_448 hC hK hA hX hbl hbA hF hL hRc hRs I18 B1176
    have B435 := blaw_435 hC hK hA hX hbl hbA hF hL hRc hRs I18 B1176
    have B422 := blaw_422 hC hK hA hX hbl hbA hF hL hRc hRs I18 B1176
    have B359 := blaw_359 hC hK hA hX hbl hbA hF hL hRc hRs I18 B1176
    have B336 := blaw_336 hC hK hA hX hbl hbA hF hL hRc hRs I18 B1176
    have B303 := blaw_303 hC hK hA hX hbl hbA hF hL hRc hRs I18 B1176
    have B295 := blaw_295 hC hK hA hX hbl hbA hF hL hRc hRs I18 B1176
    have B268 := blaw_268 hC hK hA hX hbl hbA hF hL hRc hRs I18 B295
    have B244 := blaw_244 hC hK hA hX hbl hbA hF hL hRc hRs I18 B268
    have B211 := blaw_211 hC hK hA hX hbl hbA hF hL hRc hRs I18 B1176
    have B168 := blaw_168 hC hK hA hX hbl hbA hF hL hRc hRs I18 B1176
    intro x3 z0 H locs ls hw hP hD hS hl
    have hw : wplaw_18 (wplaw_L18 L xs n) L xs x3 z0 := hw
    unfold wplaw_18 at hw
    refine lv_iload_n hx hb dL_law_18 rfl (lv_at hl 3 rfl) ?_
    refine lv_aload_n hx hb dL_law_19 rfl (lv_at hl 0 rfl) ?_
    refine va_slen hx hb hX hbl hbA hS dL_law_20 ?_
    refine lv_bipush (v := (7 : Int32)) hx hb dL_law_21 (by decide) ?_
    refine lv_isub hx hb dL_law_23 ?_
    refine lv_icmp_gt (tgt := 1182) hx hb dL_law_24 (by decide) (fun hc => ?_) (fun hc => ?_)
    · have hw := And.left hw hc
      refine lv_iconst (v := (1 : Int32)) hx hb dL_law_1182 (by decide) ?_
      exact hend _ _ _ _ hS dL_law_1183
    · have hw := And.right hw hc
      refine lv_aload_n hx hb dL_law_27 rfl (lv_at hl 0 rfl) ?_
      refine lv_iload_n hx hb dL_law_28 rfl (lv_at hl 3 rfl) ?_
      refine va_sld hx hb hX hbl hbA hS (And.left hw) dL_law_29 ?_
      have hw := And.right hw
      refine lv_bipush (v := (31 : Int32)) hx hb dL_law_30 (by decide) ?_
      refine lv_iand hx hb dL_law_32 ?_
      rcases x_tswL ((xs x3.toNatClampNeg) &&& (31 : Int32)) 0 30 (by decide) with hq | ⟨j, hj, hq⟩
      · have hw := And.left hw (by omega)
        refine lv_tableOut (tgt := 1176) hx hb dL_law_33 (by omega) (by decide) ?_
        exact B1176 x3 z0 _ _ _ hw hP hD hS (lv_sub hl [0, 1, 2, 3] rfl)
      · have hw := And.right hw
        obtain rfl | rfl | rfl | rfl | rfl | rfl | rfl | rfl | rfl | rfl | rfl | rfl | rfl | rfl | rfl | rfl | rfl | rfl | rfl | rfl | rfl | rfl | rfl | rfl | rfl | rfl | rfl | rfl | rfl | rfl : j = 0 ∨ j = 1 ∨ j = 2 ∨ j = 3 ∨ j = 4 ∨ j = 5 ∨ j = 6 ∨ j = 7 ∨ j = 8 ∨ j = 9 ∨ j = 10 ∨ j = 11 ∨ j = 12 ∨ j = 13 ∨ j = 14 ∨ j = 15 ∨ j = 16 ∨ j = 17 ∨ j = 18 ∨ j = 19 ∨ j = 20 ∨ j = 21 ∨ j = 22 ∨ j = 23 ∨ j = 24 ∨ j = 25 ∨ j = 26 ∨ j = 27 ∨ j = 28 ∨ j = 29 := by omega
        · have hw := (And.left hw) hq
          refine lv_tableIn (off := 135) (tgt := 168) hx hb dL_law_33 (by rw [hq]; decide) (by rw [hq]; decide) (by rw [hq]; rfl) (by decide) ?_
          exact B168 x3 z0 _ _ _ hw hP hD hS (lv_sub hl [0, 1, 2, 3] rfl)
        · have hw := (And.left (And.right hw)) hq
          refine lv_tableIn (off := 178) (tgt := 211) hx hb dL_law_33 (by rw [hq]; decide) (by rw [hq]; decide) (by rw [hq]; rfl) (by decide) ?_
          exact B211 x3 z0 _ _ _ hw hP hD hS (lv_sub hl [0, 1, 2, 3] rfl)
        · have hw := (And.left (And.right (And.right hw))) hq
          refine lv_tableIn (off := 211) (tgt := 244) hx hb dL_law_33 (by rw [hq]; decide) (by rw [hq]; decide) (by rw [hq]; rfl) (by decide) ?_
          exact B244 x3 z0 _ _ _ hw hP hD hS (lv_sub hl [0, 1, 2, 3] rfl)
        · have hw := (And.left (And.right (And.right (And.right hw)))) hq
          refine lv_tableIn (off := 270) (tgt := 303) hx hb dL_law_33 (by rw [hq]; decide) (by rw [hq]; decide) (by rw [hq]; rfl) (by decide) ?_
          exact B303 x3 z0 _ _ _ hw hP hD hS (lv_sub hl [0, 1, 2, 3] rfl)
        · have hw := (And.left (And.right (And.right (And.right (And.right hw))))) hq
          refine lv_tableIn (off := 303) (tgt := 336) hx hb dL_law_33 (by rw [hq]; decide) (by rw [hq]; decide) (by rw [hq]; rfl) (by decide) ?_
          exact B336 x3 z0 _ _ _ hw hP hD hS (lv_sub hl [0, 1, 2, 3] rfl)
        · have hw := (And.left (And.right (And.right (And.right (And.right (And.right hw)))))) hq
          refine lv_tableIn (off := 326) (tgt := 359) hx hb dL_law_33 (by rw [hq]; decide) (by rw [hq]; decide) (by rw [hq]; rfl) (by decide) ?_
          exact B359 x3 z0 _ _ _ hw hP hD hS (lv_sub hl [0, 1, 2, 3] rfl)
        · have hw := (And.left (And.right (And.right (And.right (And.right (And.right (And.right hw))))))) hq
          refine lv_tableIn (off := 389) (tgt := 422) hx hb dL_law_33 (by rw [hq]; decide) (by rw [hq]; decide) (by rw [hq]; rfl) (by decide) ?_
          exact B422 x3 z0 _ _ _ hw hP hD hS (lv_sub hl [0, 1, 2, 3] rfl)
        · have hw := (And.left (And.right (And.right (And.right (And.right (And.right (And.right (And.right hw)))))))) hq
          refine lv_tableIn (off := 402) (tgt := 435) hx hb dL_law_33 (by rw [hq]; decide) (by rw [hq]; decide) (by rw [hq]; rfl) (by decide) ?_
          exact B435 x3 z0 _ _ _ hw hP hD hS (lv_sub hl [0, 1, 2, 3] rfl)
        · have hw := (And.left (And.right (And.right (And.right (And.right (And.right (And.right (And.right (And.right hw))))))))) hq
          refine lv_tableIn (off := 415) (tgt := 448) hx hb dL_law_33 (by rw [hq]; decide) (by rw [hq]; decide) (by rw [hq]; rfl) (by decide) ?_
          exact B448 x3 z0 _ _ _ hw hP hD hS (lv_sub hl [0, 1, 2, 3] rfl)
        · have hw := (And.left (And.right (And.right (And.right (And.right (And.right (And.right (And.right (And.right (And.right hw)))))))))) hq
          refine lv_tableIn (off := 428) (tgt := 461) hx hb dL_law_33 (by rw [hq]; decide) (by rw [hq]; decide) (by rw [hq]; rfl) (by decide) ?_
          exact B461 x3 z0 _ _ _ hw hP hD hS (lv_sub hl [0, 1, 2, 3] rfl)
        · have hw := (And.left (And.right (And.right (And.right (And.right (And.right (And.right (And.right (And.right (And.right (And.right hw))))))))))) hq
          refine lv_tableIn (off := 451) (tgt := 484) hx hb dL_law_33 (by rw [hq]; decide) (by rw [hq]; decide) (by rw [hq]; rfl) (by decide) ?_
          exact B484 x3 z0 _ _ _ hw hP hD hS (lv_sub hl [0, 1, 2, 3] rfl)
        · have hw := (And.left (And.right (And.right (And.right (And.right (And.right (And.right (And.right (And.right (And.right (And.right (And.right hw)))))))))))) hq
          refine lv_tableIn (off := 474) (tgt := 507) hx hb dL_law_33 (by rw [hq]; decide) (by rw [hq]; decide) (by rw [hq]; rfl) (by decide) ?_
          exact B507 x3 z0 _ _ _ hw hP hD hS (lv_sub hl [0, 1, 2, 3] rfl)
        · have hw := (And.left (And.right (And.right (And.right (And.right (And.right (And.right (And.right (And.right (And.right (And.right (And.right (And.right hw))))))))))))) hq
          refine lv_tableIn (off := 487) (tgt := 520) hx hb dL_law_33 (by rw [hq]; decide) (by rw [hq]; decide) (by rw [hq]; rfl) (by decide) ?_
          exact B520 x3 z0 _ _ _ hw hP hD hS (lv_sub hl [0, 1, 2, 3] rfl)
        · have hw := (And.left (And.right (And.right (And.right (And.right (And.right (And.right (And.right (And.right (And.right (And.right (And.right (And.right (And.right hw)))))))))))))) hq
          refine lv_tableIn (off := 510) (tgt := 543) hx hb dL_law_33 (by rw [hq]; decide) (by rw [hq]; decide) (by rw [hq]; rfl) (by decide) ?_
          exact B543 x3 z0 _ _ _ hw hP hD hS (lv_sub hl [0, 1, 2, 3] rfl)
        · have hw := (And.left (And.right (And.right (And.right (And.right (And.right (And.right (And.right (And.right (And.right (And.right (And.right (And.right (And.right (And.right hw))))))))))))))) hq
          refine lv_tableIn (off := 543) (tgt := 576) hx hb dL_law_33 (by rw [hq]; decide) (by rw [hq]; decide) (by rw [hq]; rfl) (by decide) ?_
          exact B576 x3 z0 _ _ _ hw hP hD hS (lv_sub hl [0, 1, 2, 3] rfl)
        · have hw := (And.left (And.right (And.right (And.right (And.right (And.right (And.right (And.right (And.right (And.right (And.right (And.right (And.right (And.right (And.right (And.right hw)))))))))))))))) hq
          refine lv_tableIn (off := 566) (tgt := 599) hx hb dL_law_33 (by rw [hq]; decide) (by rw [hq]; decide) (by rw [hq]; rfl) (by decide) ?_
          exact B599 x3 z0 _ _ _ hw hP hD hS (lv_sub hl [0, 1, 2, 3] rfl)
        · have hw := (And.left (And.right (And.right (And.right (And.right (And.right (And.right (And.right (And.right (And.right (And.right (And.right (And.right (And.right (And.right (And.right (And.right hw))))))))))))))))) hq
          refine lv_tableIn (off := 579) (tgt := 612) hx hb dL_law_33 (by rw [hq]; decide) (by rw [hq]; decide) (by rw [hq]; rfl) (by decide) ?_
          exact B612 x3 z0 _ _ _ hw hP hD hS (lv_sub hl [0, 1, 2, 3] rfl)
        · have hw := (And.left (And.right (And.right (And.right (And.right (And.right (And.right (And.right (And.right (And.right (And.right (And.right (And.right (And.right (And.right (And.right (And.right (And.right hw)))))))))))))))))) hq
          refine lv_tableIn (off := 612) (tgt := 645) hx hb dL_law_33 (by rw [hq]; decide) (by rw [hq]; decide) (by rw [hq]; rfl) (by decide) ?_
          exact B645 x3 z0 _ _ _ hw hP hD hS (lv_sub hl [0, 1, 2, 3] rfl)
        · have hw := (And.left (And.right (And.right (And.right (And.right (And.right (And.right (And.right (And.right (And.right (And.right (And.right (And.right (And.right (And.right (And.right (And.right (And.right (And.right hw))))))))))))))))))) hq
          refine lv_tableIn (off := 655) (tgt := 688) hx hb dL_law_33 (by rw [hq]; decide) (by rw [hq]; decide) (by rw [hq]; rfl) (by decide) ?_
          exact B688 x3 z0 _ _ _ hw hP hD hS (lv_sub hl [0, 1, 2, 3] rfl)
        · have hw := (And.left (And.right (And.right (And.right (And.right (And.right (And.right (And.right (And.right (And.right (And.right (And.right (And.right (And.right (And.right (And.right (And.right (And.right (And.right (And.right hw)))))))))))))))))))) hq
          refine lv_tableIn (off := 730) (tgt := 763) hx hb dL_law_33 (by rw [hq]; decide) (by rw [hq]; decide) (by rw [hq]; rfl) (by decide) ?_
          exact B763 x3 z0 _ _ _ hw hP hD hS (lv_sub hl [0, 1, 2, 3] rfl)
        · have hw := (And.left (And.right (And.right (And.right (And.right (And.right (And.right (And.right (And.right (And.right (And.right (And.right (And.right (And.right (And.right (And.right (And.right (And.right (And.right (And.right (And.right hw))))))))))))))))))))) hq
          refine lv_tableIn (off := 753) (tgt := 786) hx hb dL_law_33 (by rw [hq]; decide) (by rw [hq]; decide) (by rw [hq]; rfl) (by decide) ?_
          exact B786 x3 z0 _ _ _ hw hP hD hS (lv_sub hl [0, 1, 2, 3] rfl)
        · have hw := (And.left (And.right (And.right (And.right (And.right (And.right (And.right (And.right (And.right (And.right (And.right (And.right (And.right (And.right (And.right (And.right (And.right (And.right (And.right (And.right (And.right (And.right hw)))))))))))))))))))))) hq
          refine lv_tableIn (off := 776) (tgt := 809) hx hb dL_law_33 (by rw [hq]; decide) (by rw [hq]; decide) (by rw [hq]; rfl) (by decide) ?_
          exact B809 x3 z0 _ _ _ hw hP hD hS (lv_sub hl [0, 1, 2, 3] rfl)
        · have hw := (And.left (And.right (And.right (And.right (And.right (And.right (And.right (And.right (And.right (And.right (And.right (And.right (And.right (And.right (And.right (And.right (And.right (And.right (And.right (And.right (And.right (And.right (And.right hw))))))))))))))))))))))) hq
          refine lv_tableIn (off := 799) (tgt := 832) hx hb dL_law_33 (by rw [hq]; decide) (by rw [hq]; decide) (by rw [hq]; rfl) (by decide) ?_
          exact B832 x3 z0 _ _ _ hw hP hD hS (lv_sub hl [0, 1, 2, 3] rfl)
        · have hw := (And.left (And.right (And.right (And.right (And.right (And.right (And.right (And.right (And.right (And.right (And.right (And.right (And.right (And.right (And.right (And.right (And.right (And.right (And.right (And.right (And.right (And.right (And.right (And.right hw)))))))))))))))))))))))) hq
          refine lv_tableIn (off := 812) (tgt := 845) hx hb dL_law_33 (by rw [hq]; decide) (by rw [hq]; decide) (by rw [hq]; rfl) (by decide) ?_
          exact B845 x3 z0 _ _ _ hw hP hD hS (lv_sub hl [0, 1, 2, 3] rfl)
        · have hw := (And.left (And.right (And.right (And.right (And.right (And.right (And.right (And.right (And.right (And.right (And.right (And.right (And.right (And.right (And.right (And.right (And.right (And.right (And.right (And.right (And.right (And.right (And.right (And.right (And.right hw))))))))))))))))))))))))) hq
          refine lv_tableIn (off := 825) (tgt := 858) hx hb dL_law_33 (by rw [hq]; decide) (by rw [hq]; decide) (by rw [hq]; rfl) (by decide) ?_
          exact B858 x3 z0 _ _ _ hw hP hD hS (lv_sub hl [0, 1, 2, 3] rfl)
        · have hw := (And.left (And.right (And.right (And.right (And.right (And.right (And.right (And.right (And.right (And.right (And.right (And.right (And.right (And.right (And.right (And.right (And.right (And.right (And.right (And.right (And.right (And.right (And.right (And.right (And.right (And.right hw)))))))))))))))))))))))))) hq
          refine lv_tableIn (off := 878) (tgt := 911) hx hb dL_law_33 (by rw [hq]; decide) (by rw [hq]; decide) (by rw [hq]; rfl) (by decide) ?_
          exact B911 x3 z0 _ _ _ hw hP hD hS (lv_sub hl [0, 1, 2, 3] rfl)
        · have hw := (And.left (And.right (And.right (And.right (And.right (And.right (And.right (And.right (And.right (And.right (And.right (And.right (And.right (And.right (And.right (And.right (And.right (And.right (And.right (And.right (And.right (And.right (And.right (And.right (And.right (And.right (And.right hw))))))))))))))))))))))))))) hq
          refine lv_tableIn (off := 931) (tgt := 964) hx hb dL_law_33 (by rw [hq]; decide) (by rw [hq]; decide) (by rw [hq]; rfl) (by decide) ?_
          exact B964 x3 z0 _ _ _ hw hP hD hS (lv_sub hl [0, 1, 2, 3] rfl)
        · have hw := (And.left (And.right (And.right (And.right (And.right (And.right (And.right (And.right (And.right (And.right (And.right (And.right (And.right (And.right (And.right (And.right (And.right (And.right (And.right (And.right (And.right (And.right (And.right (And.right (And.right (And.right (And.right (And.right hw)))))))))))))))))))))))))))) hq
          refine lv_tableIn (off := 974) (tgt := 1007) hx hb dL_law_33 (by rw [hq]; decide) (by rw [hq]; decide) (by rw [hq]; rfl) (by decide) ?_
          exact B1007 x3 z0 _ _ _ hw hP hD hS (lv_sub hl [0, 1, 2, 3] rfl)
        · have hw := (And.left (And.right (And.right (And.right (And.right (And.right (And.right (And.right (And.right (And.right (And.right (And.right (And.right (And.right (And.right (And.right (And.right (And.right (And.right (And.right (And.right (And.right (And.right (And.right (And.right (And.right (And.right (And.right (And.right hw))))))))))))))))))))))))))))) hq
          refine lv_tableIn (off := 997) (tgt := 1030) hx hb dL_law_33 (by rw [hq]; decide) (by rw [hq]; decide) (by rw [hq]; rfl) (by decide) ?_
          exact B1030 x3 z0 _ _ _ hw hP hD hS (lv_sub hl [0, 1, 2, 3] rfl)
        · have hw := ((And.right (And.right (And.right (And.right (And.right (And.right (And.right (And.right (And.right (And.right (And.right (And.right (And.right (And.right (And.right (And.right (And.right (And.right (And.right (And.right (And.right (And.right (And.right (And.right (And.right (And.right (And.right (And.right (And.right hw)))))))))))))))))))))))))))))) hq
          refine lv_tableIn (off := 1080) (tgt := 1113) hx hb dL_law_33 (by rw [hq]; decide) (by rw [hq]; decide) (by rw [hq]; rfl) (by decide) ?_
          exact B1113 x3 z0 _ _ _ hw hP hD hS (lv_sub hl [0, 1, 2, 3] rfl)
