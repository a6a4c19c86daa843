def wpX5_folk (x1 : Int32) (x2 : Int32) (x3 : Int32) (z0 : wXS) (post : Int32 → (wXS) → Prop) : Prop := (wpX5_within x1 (0 : Int32) (3 : Int32) (fun r1 => ((r1 = 0 → (post (-1 : Int32) z0)) ∧ (¬ r1 = 0 → (wpX5_within x2 (-3 : Int32) (3 : Int32) (fun r2 => ((r2 = 0 → (post (-1 : Int32) z0)) ∧ (¬ r2 = 0 → (wpX5_within x3 (1 : Int32) (9 : Int32) (fun r3 => ((¬ r3 = 0 → (((w_i (w_f (x_w z0)) 4) < (6 : Int32) → (wpX0_add x1 x2 x3 (w_f (x_w z0)) (fun r4 u => ∀ z1 : wXS, z1 = (x_sw z0 (w_sf (x_w z0) u)) → (post r4 z1)))) ∧ (¬ (w_i (w_f (x_w z0)) 4) < (6 : Int32) → (post (-3 : Int32) z0)))) ∧ (r3 = 0 → (post (-1 : Int32) z0)))))))))))))
set_option maxHeartbeats 4000000 in
set_option maxRecDepth 100000 in
theorem cX5_folk_c {l : Launch} {G : wG} {h : Nat → Nat} {sz : Nat} {x1 : Int32} {x2 : Int32} {x3 : Int32} {post : Int32 → (wXS) → Prop} {z0 : wXS}  (hw : wpX5_folk x1 x2 x3 z0 post) : Met l yX5_folk (.code yX5_folk cX5_folk 4 (some .int) :: BIG) { frames := 1, cells := 0, slots := 0, locals := 24 } (xPw G [.ref (h 0), .int x1, .int x2, .int x3] (wsX G h z0) sz) (xQi G post (fun q => (wsX G h q)) (va_A (wsX G h z0) sz)) 0 0 (va_A (wsX G h z0) sz) := by
  refine xm_wi (by decide) (Nat.le_of_ble_eq_true rfl) (fun p e s m args below meth c A ls R Q hC hK hA hP hD hS hl hF hL hret => ?_)
  have hx := hC.1
  have hb := hC.2.1
  have hl : lv_has ls 4 [(0, .ref (h 0)), (1, .int x1), (2, .int x2), (3, .int x3)] := hl
  unfold wpX5_folk at hw
  refine lv_iload_n hx hb dX5_folk_0 rfl (lv_at hl 1 rfl) ?_
  refine lv_iconst (v := (0 : Int32)) hx hb dX5_folk_1 (by decide) ?_
  refine lv_iconst (v := (3 : Int32)) hx hb dX5_folk_2 (by decide) ?_
  refine vp_callSi (xro (xr_S hC (cX5_within_c hw) ⟨rfl, rfl⟩ bw_223 calX5_within ⟨Nat.le_trans (Nat.le_of_ble_eq_true rfl) hF, Nat.le_trans (Nat.le_of_ble_eq_true rfl) hL⟩ (rest := []) (xpS hK) rfl hl rfl (Nat.le_of_ble_eq_true rfl) dX5_folk_3 ⟨Nat.zero_le _, Nat.zero_le _⟩)) (fun r1 hw => ?_)
  refine lv_if_eq (tgt := 29) hx hb dX5_folk_6 (by decide) (fun hc => ?_) (fun hc => ?_)
  · have hw := And.left hw hc
    refine lv_iconst (v := (-1 : Int32)) hx hb dX5_folk_29 (by decide) ?_
    exact hret _ _ _ _ _ _ hw hP hD hS dX5_folk_30
  · have hw := And.right hw hc
    refine lv_iload_n hx hb dX5_folk_9 rfl (lv_at hl 2 rfl) ?_
    refine lv_bipush (v := (-3 : Int32)) hx hb dX5_folk_10 (by decide) ?_
    refine lv_iconst (v := (3 : Int32)) hx hb dX5_folk_12 (by decide) ?_
    refine vp_callSi (xro (xr_S hC (cX5_within_c hw) ⟨rfl, rfl⟩ bw_223 calX5_within ⟨Nat.le_trans (Nat.le_of_ble_eq_true rfl) hF, Nat.le_trans (Nat.le_of_ble_eq_true rfl) hL⟩ (rest := []) (xpS hK) rfl hl rfl (Nat.le_of_ble_eq_true rfl) dX5_folk_13 ⟨Nat.zero_le _, Nat.zero_le _⟩)) (fun r2 hw => ?_)
    refine lv_if_eq (tgt := 29) hx hb dX5_folk_16 (by decide) (fun hc => ?_) (fun hc => ?_)
    · have hw := And.left hw hc
      refine lv_iconst (v := (-1 : Int32)) hx hb dX5_folk_29 (by decide) ?_
      exact hret _ _ _ _ _ _ hw hP hD hS dX5_folk_30
    · have hw := And.right hw hc
      refine lv_iload_n hx hb dX5_folk_19 rfl (lv_at hl 3 rfl) ?_
      refine lv_iconst (v := (1 : Int32)) hx hb dX5_folk_20 (by decide) ?_
      refine lv_bipush (v := (9 : Int32)) hx hb dX5_folk_21 (by decide) ?_
      refine vp_callSi (xro (xr_S hC (cX5_within_c hw) ⟨rfl, rfl⟩ bw_223 calX5_within ⟨Nat.le_trans (Nat.le_of_ble_eq_true rfl) hF, Nat.le_trans (Nat.le_of_ble_eq_true rfl) hL⟩ (rest := []) (xpS hK) rfl hl rfl (Nat.le_of_ble_eq_true rfl) dX5_folk_23 ⟨Nat.zero_le _, Nat.zero_le _⟩)) (fun r3 hw => ?_)
      refine lv_if_ne (tgt := 31) hx hb dX5_folk_26 (by decide) (fun hc => ?_) (fun hc => ?_)
      · have hw := And.left hw hc
        refine lv_aload_n hx hb dX5_folk_31 rfl (lv_at hl 0 rfl) ?_
        refine rg_X_X5_0_0 hC hK hP dX5_folk_32 ?_
        refine rg_X_X5_1_0 hC hK hP dX5_folk_35 ?_
        refine rg_X_X5_4_4 hC hK hP dX5_folk_38 ?_
        refine lv_bipush (v := (6 : Int32)) hx hb dX5_folk_41 (by decide) ?_
        refine lv_icmp_lt (tgt := 49) hx hb dX5_folk_43 (by decide) (fun hc => ?_) (fun hc => ?_)
        · have hw := And.left hw hc
          refine lv_aload_n hx hb dX5_folk_49 rfl (lv_at hl 0 rfl) ?_
          refine rg_X_X5_0_0 hC hK hP dX5_folk_50 ?_
          refine rg_X_X5_1_0 hC hK hP dX5_folk_53 ?_
          refine lv_iload_n hx hb dX5_folk_56 rfl (lv_at hl 1 rfl) ?_
          refine lv_iload_n hx hb dX5_folk_57 rfl (lv_at hl 2 rfl) ?_
          refine lv_iload_n hx hb dX5_folk_58 rfl (lv_at hl 3 rfl) ?_
          refine xc_wi (wsz := fun q => (wsX G h q)) (f := fun u => (x_sw z0 (w_sf (x_w z0) u))) (xr_VN hC hK.2 (cX0_add_c (h := (sh h 4)) hw) ⟨rfl, rfl⟩ bw_226 calX0_add ⟨Nat.le_trans (Nat.le_of_ble_eq_true rfl) hF, Nat.le_trans (Nat.le_of_ble_eq_true rfl) hL⟩ (rest := []) (xpV hK (cut_X_F4) hP hD rfl rfl) rfl hl rfl (Nat.le_of_ble_eq_true rfl) dX5_folk_59 ⟨Nat.zero_le _, Nat.zero_le _⟩) (cut_X_F4) hP hD hS hA (fun r4 u z1 H locs hz1 hw hP hD hS => ?_)
          have hw := hw z1 hz1
          exact hret _ _ _ _ _ _ hw hP hD hS dX5_folk_62
        · have hw := And.right hw hc
          refine lv_bipush (v := (-3 : Int32)) hx hb dX5_folk_46 (by decide) ?_
          exact hret _ _ _ _ _ _ hw hP hD hS dX5_folk_48
      · have hw := And.right hw hc
        refine lv_iconst (v := (-1 : Int32)) hx hb dX5_folk_29 (by decide) ?_
        exact hret _ _ _ _ _ _ hw hP hD hS dX5_folk_30
def wpX5_told (x1 : Int32) (x2 : Int32) (z0 : wXS) (post : Int32 → Prop) : Prop := (wpX0_has x1 (w_f (x_w z0)) (fun r1 => ((¬ r1 = 0 → ((x2.toInt < 0 ∨ 4 < x2.toInt → (post (-100001 : Int32))) ∧ (x2 = (0 : Int32) → (vp_in x1 6 ∧ (post ((w_a (w_f (x_w z0)) 0) x1.toNatClampNeg)))) ∧ (x2 = (1 : Int32) → (vp_in x1 6 ∧ (post ((w_a (w_f (x_w z0)) 1) x1.toNatClampNeg)))) ∧ (x2 = (2 : Int32) → (vp_in x1 6 ∧ (post ((w_a (w_f (x_w z0)) 2) x1.toNatClampNeg)))) ∧ (x2 = (3 : Int32) → (vp_in x1 6 ∧ (post ((w_a (w_o (x_w z0)) 1) x1.toNatClampNeg)))) ∧ (x2 = (4 : Int32) → (vp_in x1 6 ∧ (post ((w_a (w_f (x_w z0)) 3) x1.toNatClampNeg)))))) ∧ (r1 = 0 → (post (-100001 : Int32))))))
set_option maxHeartbeats 4000000 in
set_option maxRecDepth 100000 in
theorem cX5_told_c {l : Launch} {G : wG} {h : Nat → Nat} {x1 : Int32} {x2 : Int32} {post : Int32 → Prop} {z0 : wXS}  (hw : wpX5_told x1 x2 z0 post) : Met l yX5_told (.code yX5_told cX5_told 3 (some .int) :: BIG) { frames := 1, cells := 0, slots := 0, locals := 21 } (xPr G [.ref (h 0), .int x1, .int x2] (wsX G h z0)) (vp_Si post) 0 0 (fun _ => False) := by
  refine xm_ri (by decide) (Nat.le_of_ble_eq_true rfl) (fun p e s m args below meth c ls R Q hC hK hP hl hF hL hret => ?_)
  have hx := hC.1
  have hb := hC.2.1
  have hl : lv_has ls 3 [(0, .ref (h 0)), (1, .int x1), (2, .int x2)] := hl
  unfold wpX5_told at hw
  refine lv_aload_n hx hb dX5_told_0 rfl (lv_at hl 0 rfl) ?_
  refine rg_X_X5_0_0 hC hK hP dX5_told_1 ?_
  refine rg_X_X5_1_0 hC hK hP dX5_told_4 ?_
  refine lv_iload_n hx hb dX5_told_7 rfl (lv_at hl 1 rfl) ?_
  refine vp_callSi (xro (xr_VN hC hK.2 (cX0_has_c (h := (sh h 4)) hw) ⟨rfl, rfl⟩ bw_234 calX0_has ⟨Nat.le_trans (Nat.le_of_ble_eq_true rfl) hF, Nat.le_trans (Nat.le_of_ble_eq_true rfl) hL⟩ (rest := []) (xpR hK (xCut.P (cut_X_F4) hP) rfl rfl) rfl hl rfl (Nat.le_of_ble_eq_true rfl) dX5_told_8 ⟨Nat.zero_le _, Nat.zero_le _⟩)) (fun r1 hw => ?_)
  refine lv_if_ne (tgt := 17) hx hb dX5_told_11 (by decide) (fun hc => ?_) (fun hc => ?_)
  · have hw := And.left hw hc
    refine lv_iload_n hx hb dX5_told_17 rfl (lv_at hl 2 rfl) ?_
    rcases x_tswL x2 0 5 (by decide) with hq | ⟨j, hj, hq⟩
    · have hw := And.left hw (by omega)
      refine lv_tableOut (tgt := 114) hx hb dX5_told_18 (by omega) (by decide) ?_
      refine lv_ldc (v := (-100001 : Int32)) hx hb hC.2.2.2.1 (hC.2.2.2.2 _ bw_238) dX5_told_114 ?_
      exact hret _ _ _ hw dX5_told_116
    · have hw := And.right hw
      obtain rfl | rfl | rfl | rfl | rfl : j = 0 ∨ j = 1 ∨ j = 2 ∨ j = 3 ∨ j = 4 := by omega
      · have hw := (And.left hw) hq
        refine lv_tableIn (off := 34) (tgt := 52) hx hb dX5_told_18 (by rw [hq]; decide) (by rw [hq]; decide) (by rw [hq]; rfl) (by decide) ?_
        refine lv_aload_n hx hb dX5_told_52 rfl (lv_at hl 0 rfl) ?_
        refine rg_X_X5_0_0 hC hK hP dX5_told_53 ?_
        refine rg_X_X5_1_0 hC hK hP dX5_told_56 ?_
        refine rg_X_X5_4_0 hC hK hP dX5_told_59 ?_
        refine lv_iload_n hx hb dX5_told_62 rfl (lv_at hl 1 rfl) ?_
        refine rl_X_5 hC hK hP (And.left hw) dX5_told_63 ?_
        have hw := And.right hw
        exact hret _ _ _ hw dX5_told_64
      · have hw := (And.left (And.right hw)) hq
        refine lv_tableIn (off := 47) (tgt := 65) hx hb dX5_told_18 (by rw [hq]; decide) (by rw [hq]; decide) (by rw [hq]; rfl) (by decide) ?_
        refine lv_aload_n hx hb dX5_told_65 rfl (lv_at hl 0 rfl) ?_
        refine rg_X_X5_0_0 hC hK hP dX5_told_66 ?_
        refine rg_X_X5_1_0 hC hK hP dX5_told_69 ?_
        refine rg_X_X5_4_1 hC hK hP dX5_told_72 ?_
        refine lv_iload_n hx hb dX5_told_75 rfl (lv_at hl 1 rfl) ?_
        refine rl_X_6 hC hK hP (And.left hw) dX5_told_76 ?_
        have hw := And.right hw
        exact hret _ _ _ hw dX5_told_77
      · have hw := (And.left (And.right (And.right hw))) hq
        refine lv_tableIn (off := 60) (tgt := 78) hx hb dX5_told_18 (by rw [hq]; decide) (by rw [hq]; decide) (by rw [hq]; rfl) (by decide) ?_
        refine lv_aload_n hx hb dX5_told_78 rfl (lv_at hl 0 rfl) ?_
        refine rg_X_X5_0_0 hC hK hP dX5_told_79 ?_
        refine rg_X_X5_1_0 hC hK hP dX5_told_82 ?_
        refine rg_X_X5_4_2 hC hK hP dX5_told_85 ?_
        refine lv_iload_n hx hb dX5_told_88 rfl (lv_at hl 1 rfl) ?_
        refine rl_X_7 hC hK hP (And.left hw) dX5_told_89 ?_
        have hw := And.right hw
        exact hret _ _ _ hw dX5_told_90
      · have hw := (And.left (And.right (And.right (And.right hw)))) hq
        refine lv_tableIn (off := 73) (tgt := 91) hx hb dX5_told_18 (by rw [hq]; decide) (by rw [hq]; decide) (by rw [hq]; rfl) (by decide) ?_
        refine lv_aload_n hx hb dX5_told_91 rfl (lv_at hl 0 rfl) ?_
        refine rg_X_X5_0_0 hC hK hP dX5_told_92 ?_
        refine rg_X_X5_1_1 hC hK hP dX5_told_95 ?_
        refine lv_iload_n hx hb dX5_told_98 rfl (lv_at hl 1 rfl) ?_
        refine rl_X_2 hC hK hP (And.left hw) dX5_told_99 ?_
        have hw := And.right hw
        exact hret _ _ _ hw dX5_told_100
      · have hw := ((And.right (And.right (And.right (And.right hw))))) hq
        refine lv_tableIn (off := 83) (tgt := 101) hx hb dX5_told_18 (by rw [hq]; decide) (by rw [hq]; decide) (by rw [hq]; rfl) (by decide) ?_
        refine lv_aload_n hx hb dX5_told_101 rfl (lv_at hl 0 rfl) ?_
        refine rg_X_X5_0_0 hC hK hP dX5_told_102 ?_
        refine rg_X_X5_1_0 hC hK hP dX5_told_105 ?_
        refine rg_X_X5_4_3 hC hK hP dX5_told_108 ?_
        refine lv_iload_n hx hb dX5_told_111 rfl (lv_at hl 1 rfl) ?_
        refine rl_X_8 hC hK hP (And.left hw) dX5_told_112 ?_
        have hw := And.right hw
        exact hret _ _ _ hw dX5_told_113
  · have hw := And.right hw hc
    refine lv_ldc (v := (-100001 : Int32)) hx hb hC.2.2.2.1 (hC.2.2.2.2 _ bw_238) dX5_told_14 ?_
    exact hret _ _ _ hw dX5_told_16
def wpX5_quarrel_55  (post : Int32 → (wXS) → Prop) (x1 : Int32) (x2 : Int32) (x3 : Int32) (t0 : Int32) (z0 : wXS) : Prop := (wpX0_makeFoes x1 x2 x3 (w_f (x_w z0)) (fun u => ∀ z1 : wXS, z1 = (x_sw z0 (w_sf (x_w z0) u)) → (post t0 z1)))
def wpX5_quarrel (x1 : Int32) (x2 : Int32) (x3 : Int32) (z0 : wXS) (post : Int32 → (wXS) → Prop) : Prop := (wpX0_has x1 (w_f (x_w z0)) (fun r1 => ((r1 = 0 → (post (-1 : Int32) z0)) ∧ (¬ r1 = 0 → (wpX0_has x2 (w_f (x_w z0)) (fun r2 => ((r2 = 0 → (post (-1 : Int32) z0)) ∧ (¬ r2 = 0 → ((¬ x1 = x2 → (wpX0_areFoes x1 x2 (w_f (x_w z0)) (fun r3 => ((r3 = 0 → (wpX5_quarrel_55  post x1 x2 x3 (0 : Int32) z0)) ∧ (¬ r3 = 0 → (wpX5_quarrel_55  post x1 x2 x3 (1 : Int32) z0)))))) ∧ (x1 = x2 → (post (-1 : Int32) z0)))))))))))
set_option maxHeartbeats 4000000 in
set_option maxRecDepth 100000 in
theorem cX5_quarrel_c {l : Launch} {G : wG} {h : Nat → Nat} {sz : Nat} {x1 : Int32} {x2 : Int32} {x3 : Int32} {post : Int32 → (wXS) → Prop} {z0 : wXS}  (hw : wpX5_quarrel x1 x2 x3 z0 post) : Met l yX5_quarrel (.code yX5_quarrel cX5_quarrel 5 (some .int) :: BIG) { frames := 2, cells := 0, slots := 0, locals := 44 } (xPw G [.ref (h 0), .int x1, .int x2, .int x3] (wsX G h z0) sz) (xQi G post (fun q => (wsX G h q)) (va_A (wsX G h z0) sz)) 0 0 (va_A (wsX G h z0) sz) := by
  refine xm_wi (by decide) (Nat.le_of_ble_eq_true rfl) (fun p e s m args below meth c A ls R Q hC hK hA hP hD hS hl hF hL hret => ?_)
  have hx := hC.1
  have hb := hC.2.1
  have hl : lv_has ls 5 [(0, .ref (h 0)), (1, .int x1), (2, .int x2), (3, .int x3)] := hl
  have B55 : ∀ (x1 : Int32) (x2 : Int32) (x3 : Int32) (t0 : Int32) (z0 : wXS) (H : Heap) (locs : List Loc) (ls : Array Slot), wpX5_quarrel_55  post x1 x2 x3 t0 z0 → va_P G.1 vwCl (wsX G h z0) H → va_D A (wsX G h z0) → va_S A s.heap H locs → lv_has ls 5 [(0, .ref (h 0)), (1, .int x1), (2, .int x2), (3, .int x3)] → W p l e R s m args below meth c H locs 0 0 Q (F0 m 55 ls [.int t0]) := by
    intro x1 x2 x3 t0 z0 H locs ls hw hP hD hS hl
    unfold wpX5_quarrel_55 at hw
    refine lv_istore (lv' := [(4, .int t0), (0, .ref (h 0)), (1, .int x1), (2, .int x2), (3, .int x3)]) hx hb dX5_quarrel_55 hl (by decide) rfl (fun ls hl => ?_)
    refine lv_aload_n hx hb dX5_quarrel_57 rfl (lv_at hl 1 rfl) ?_
    refine rg_X_X5_0_0 hC hK hP dX5_quarrel_58 ?_
    refine rg_X_X5_1_0 hC hK hP dX5_quarrel_61 ?_
    refine lv_iload_n hx hb dX5_quarrel_64 rfl (lv_at hl 2 rfl) ?_
    refine lv_iload_n hx hb dX5_quarrel_65 rfl (lv_at hl 3 rfl) ?_
    refine lv_iload_n hx hb dX5_quarrel_66 rfl (lv_at hl 4 rfl) ?_
    refine xc_wv (wsz := fun q => (wsX G h q)) (f := fun u => (x_sw z0 (w_sf (x_w z0) u))) (xr_VN hC hK.2 (cX0_makeFoes_c (h := (sh h 4)) hw) ⟨rfl, rfl⟩ bw_248 calX0_makeFoes ⟨Nat.le_trans (Nat.le_of_ble_eq_true rfl) hF, Nat.le_trans (Nat.le_of_ble_eq_true rfl) hL⟩ (rest := []) (xpV hK (cut_X_F4) hP hD rfl rfl) rfl hl rfl (Nat.le_of_ble_eq_true rfl) dX5_quarrel_67 ⟨Nat.zero_le _, Nat.zero_le _⟩) (cut_X_F4) hP hD hS hA (fun u z1 H locs hz1 hw hP hD hS => ?_)
    have hw := hw z1 hz1
    refine lv_iload hx hb dX5_quarrel_70 (lv_at hl 0 rfl) ?_
    exact hret _ _ _ _ _ _ hw hP hD hS dX5_quarrel_72
  unfold wpX5_quarrel at hw
  refine lv_aload_n hx hb dX5_quarrel_0 rfl (lv_at hl 0 rfl) ?_
  refine rg_X_X5_0_0 hC hK hP dX5_quarrel_1 ?_
  refine rg_X_X5_1_0 hC hK hP dX5_quarrel_4 ?_
  refine lv_iload_n hx hb dX5_quarrel_7 rfl (lv_at hl 1 rfl) ?_
  refine vp_callSi (xro (xr_VN hC hK.2 (cX0_has_c (h := (sh h 4)) hw) ⟨rfl, rfl⟩ bw_234 calX0_has ⟨Nat.le_trans (Nat.le_of_ble_eq_true rfl) hF, Nat.le_trans (Nat.le_of_ble_eq_true rfl) hL⟩ (rest := []) (xpR hK (xCut.P (cut_X_F4) hP) rfl rfl) rfl hl rfl (Nat.le_of_ble_eq_true rfl) dX5_quarrel_8 ⟨Nat.zero_le _, Nat.zero_le _⟩)) (fun r1 hw => ?_)
  refine lv_if_eq (tgt := 33) hx hb dX5_quarrel_11 (by decide) (fun hc => ?_) (fun hc => ?_)
  · have hw := And.left hw hc
    refine lv_iconst (v := (-1 : Int32)) hx hb dX5_quarrel_33 (by decide) ?_
    exact hret _ _ _ _ _ _ hw hP hD hS dX5_quarrel_34
  · have hw := And.right hw hc
    refine lv_aload_n hx hb dX5_quarrel_14 rfl (lv_at hl 0 rfl) ?_
    refine rg_X_X5_0_0 hC hK hP dX5_quarrel_15 ?_
    refine rg_X_X5_1_0 hC hK hP dX5_quarrel_18 ?_
    refine lv_iload_n hx hb dX5_quarrel_21 rfl (lv_at hl 2 rfl) ?_
    refine vp_callSi (xro (xr_VN hC hK.2 (cX0_has_c (h := (sh h 4)) hw) ⟨rfl, rfl⟩ bw_234 calX0_has ⟨Nat.le_trans (Nat.le_of_ble_eq_true rfl) hF, Nat.le_trans (Nat.le_of_ble_eq_true rfl) hL⟩ (rest := []) (xpR hK (xCut.P (cut_X_F4) hP) rfl rfl) rfl hl rfl (Nat.le_of_ble_eq_true rfl) dX5_quarrel_22 ⟨Nat.zero_le _, Nat.zero_le _⟩)) (fun r2 hw => ?_)
    refine lv_if_eq (tgt := 33) hx hb dX5_quarrel_25 (by decide) (fun hc => ?_) (fun hc => ?_)
    · have hw := And.left hw hc
      refine lv_iconst (v := (-1 : Int32)) hx hb dX5_quarrel_33 (by decide) ?_
      exact hret _ _ _ _ _ _ hw hP hD hS dX5_quarrel_34
    · have hw := And.right hw hc
      refine lv_iload_n hx hb dX5_quarrel_28 rfl (lv_at hl 1 rfl) ?_
      refine lv_iload_n hx hb dX5_quarrel_29 rfl (lv_at hl 2 rfl) ?_
      refine lv_icmp_ne (tgt := 35) hx hb dX5_quarrel_30 (by decide) (fun hc => ?_) (fun hc => ?_)
      · have hw := And.left hw hc
        refine lv_aload_n hx hb dX5_quarrel_35 rfl (lv_at hl 0 rfl) ?_
        refine rg_X_X5_0_0 hC hK hP dX5_quarrel_36 ?_
        refine rg_X_X5_1_0 hC hK hP dX5_quarrel_39 ?_
        refine lv_iload_n hx hb dX5_quarrel_42 rfl (lv_at hl 1 rfl) ?_
        refine lv_iload_n hx hb dX5_quarrel_43 rfl (lv_at hl 2 rfl) ?_
        refine vp_callSi (xro (xr_VN hC hK.2 (cX0_areFoes_c (h := (sh h 4)) hw) ⟨rfl, rfl⟩ bw_243 calX0_areFoes ⟨Nat.le_trans (Nat.le_of_ble_eq_true rfl) hF, Nat.le_trans (Nat.le_of_ble_eq_true rfl) hL⟩ (rest := []) (xpR hK (xCut.P (cut_X_F4) hP) rfl rfl) rfl hl rfl (Nat.le_of_ble_eq_true rfl) dX5_quarrel_44 ⟨Nat.zero_le _, Nat.zero_le _⟩)) (fun r3 hw => ?_)
        refine lv_if_eq (tgt := 54) hx hb dX5_quarrel_47 (by decide) (fun hc => ?_) (fun hc => ?_)
        · have hw := And.left hw hc
          refine lv_iconst (v := (0 : Int32)) hx hb dX5_quarrel_54 (by decide) ?_
          exact B55 x1 x2 x3 (0 : Int32) z0 _ _ _ hw hP hD hS (lv_sub hl [0, 1, 2, 3] rfl)
        · have hw := And.right hw hc
          refine lv_iconst (v := (1 : Int32)) hx hb dX5_quarrel_50 (by decide) ?_
          refine lv_goto (tgt := 55) hx hb dX5_quarrel_51 (by decide) ?_
          exact B55 x1 x2 x3 (1 : Int32) z0 _ _ _ hw hP hD hS (lv_sub hl [0, 1, 2, 3] rfl)
      · have hw := And.right hw hc
        refine lv_iconst (v := (-1 : Int32)) hx hb dX5_quarrel_33 (by decide) ?_
        exact hret _ _ _ _ _ _ hw hP hD hS dX5_quarrel_34
def wpX5_set_68  (post : Int32 → (wXS) → Prop) (x1 : Int32) (x2 : Int32) (x3 : Int32) (z0 : wXS) : Prop := ((¬ x1 = (2 : Int32) → (post x3 z0)) ∧ (x1 = (2 : Int32) → (wpX5_within x2 (0 : Int32) (9 : Int32) (fun r1 => ((r1 = 0 → (post x3 z0)) ∧ (¬ r1 = 0 → (∀ z1 : wXS, z1 = (x_sw z0 (w_so (x_w z0) (w_si (w_o (x_w z0)) 6 x2))) → (post (w_i (w_o (x_w z0)) 6) z1))))))))
def wpX5_set_33  (post : Int32 → (wXS) → Prop) (x1 : Int32) (x2 : Int32) (x3 : Int32) (z0 : wXS) : Prop := ((¬ x1 = (1 : Int32) → (wpX5_set_68  post x1 x2 x3 z0)) ∧ (x1 = (1 : Int32) → (wpX5_within x2 (0 : Int32) (999 : Int32) (fun r1 => ((r1 = 0 → (wpX5_set_68  post x1 x2 x3 z0)) ∧ (¬ r1 = 0 → (∀ z1 : wXS, z1 = (x_sw z0 (w_so (x_w z0) (w_si (w_o (x_w z0)) 5 x2))) → (post (w_i (w_o (x_w z0)) 5) z1))))))))
def wpX5_set (x1 : Int32) (x2 : Int32) (z0 : wXS) (post : Int32 → (wXS) → Prop) : Prop := ((¬ x1 = 0 → (wpX5_set_33  post x1 x2 (-100001 : Int32) z0)) ∧ (x1 = 0 → (wpX5_isMood x2 (fun r1 => ((r1 = 0 → (wpX5_set_33  post x1 x2 (-100001 : Int32) z0)) ∧ (¬ r1 = 0 → (∀ z1 : wXS, z1 = (x_sw z0 (w_so (x_w z0) (w_si (w_o (x_w z0)) 4 x2))) → (post (w_i (w_o (x_w z0)) 4) z1))))))))
set_option maxHeartbeats 4000000 in
set_option maxRecDepth 100000 in
theorem cX5_set_c {l : Launch} {G : wG} {h : Nat → Nat} {sz : Nat} {x1 : Int32} {x2 : Int32} {post : Int32 → (wXS) → Prop} {z0 : wXS}  (hw : wpX5_set x1 x2 z0 post) : Met l yX5_set (.code yX5_set cX5_set 4 (some .int) :: BIG) { frames := 2, cells := 0, slots := 0, locals := 42 } (xPw G [.ref (h 0), .int x1, .int x2] (wsX G h z0) sz) (xQi G post (fun q => (wsX G h q)) (va_A (wsX G h z0) sz)) 0 0 (va_A (wsX G h z0) sz) := by
  refine xm_wi (by decide) (Nat.le_of_ble_eq_true rfl) (fun p e s m args below meth c A ls R Q hC hK hA hP hD hS hl hF hL hret => ?_)
  have hx := hC.1
  have hb := hC.2.1
  have hl : lv_has ls 4 [(0, .ref (h 0)), (1, .int x1), (2, .int x2)] := hl
  have B68 : ∀ (x1 : Int32) (x2 : Int32) (x3 : Int32) (z0 : wXS) (H : Heap) (locs : List Loc) (ls : Array Slot), wpX5_set_68  post x1 x2 x3 z0 → va_P G.1 vwCl (wsX G h z0) H → va_D A (wsX G h z0) → va_S A s.heap H locs → lv_has ls 4 [(0, .ref (h 0)), (1, .int x1), (2, .int x2), (3, .int x3)] → W p l e R s m args below meth c H locs 0 0 Q (F0 m 68 ls []) := by
    intro x1 x2 x3 z0 H locs ls hw hP hD hS hl
    unfold wpX5_set_68 at hw
    refine lv_iload_n hx hb dX5_set_68 rfl (lv_at hl 1 rfl) ?_
    refine lv_iconst (v := (2 : Int32)) hx hb dX5_set_69 (by decide) ?_
    refine lv_icmp_ne (tgt := 99) hx hb dX5_set_70 (by decide) (fun hc => ?_) (fun hc => ?_)
    · have hw := And.left hw hc
      refine lv_iload_n hx hb dX5_set_99 rfl (lv_at hl 3 rfl) ?_
      exact hret _ _ _ _ _ _ hw hP hD hS dX5_set_100
    · have hw := And.right hw hc
      refine lv_iload_n hx hb dX5_set_73 rfl (lv_at hl 2 rfl) ?_
      refine lv_iconst (v := (0 : Int32)) hx hb dX5_set_74 (by decide) ?_
      refine lv_bipush (v := (9 : Int32)) hx hb dX5_set_75 (by decide) ?_
      refine vp_callSi (xro (xr_S hC (cX5_within_c hw) ⟨rfl, rfl⟩ bw_223 calX5_within ⟨Nat.le_trans (Nat.le_of_ble_eq_true rfl) hF, Nat.le_trans (Nat.le_of_ble_eq_true rfl) hL⟩ (rest := []) (xpS hK) rfl hl rfl (Nat.le_of_ble_eq_true rfl) dX5_set_77 ⟨Nat.zero_le _, Nat.zero_le _⟩)) (fun r1 hw => ?_)
      refine lv_if_eq (tgt := 99) hx hb dX5_set_80 (by decide) (fun hc => ?_) (fun hc => ?_)
      · have hw := And.left hw hc
        refine lv_iload_n hx hb dX5_set_99 rfl (lv_at hl 3 rfl) ?_
        exact hret _ _ _ _ _ _ hw hP hD hS dX5_set_100
      · have hw := And.right hw hc
        refine lv_aload_n hx hb dX5_set_83 rfl (lv_at hl 0 rfl) ?_
        refine rg_X_X5_0_0 hC hK hP dX5_set_84 ?_
        refine rg_X_X5_1_6 hC hK hP dX5_set_87 ?_
        refine lv_istore_n (lv' := [(3, .int (w_i (w_o (x_w z0)) 6)), (0, .ref (h 0)), (1, .int x1), (2, .int x2)]) hx hb dX5_set_90 rfl hl (by decide) rfl (fun ls hl => ?_)
        refine lv_aload_n hx hb dX5_set_91 rfl (lv_at hl 1 rfl) ?_
        refine rg_X_X5_0_0 hC hK hP dX5_set_92 ?_
        refine lv_iload_n hx hb dX5_set_95 rfl (lv_at hl 3 rfl) ?_
        refine rp_X_X5_1_6 hC hK hP hD hS dX5_set_96 (fun z1 H locs hz1 hP hD hS => ?_)
        have hw := hw z1 hz1
        refine lv_iload_n hx hb dX5_set_99 rfl (lv_at hl 0 rfl) ?_
        exact hret _ _ _ _ _ _ hw hP hD hS dX5_set_100
  have B33 : ∀ (x1 : Int32) (x2 : Int32) (x3 : Int32) (z0 : wXS) (H : Heap) (locs : List Loc) (ls : Array Slot), wpX5_set_33  post x1 x2 x3 z0 → va_P G.1 vwCl (wsX G h z0) H → va_D A (wsX G h z0) → va_S A s.heap H locs → lv_has ls 4 [(0, .ref (h 0)), (1, .int x1), (2, .int x2), (3, .int x3)] → W p l e R s m args below meth c H locs 0 0 Q (F0 m 33 ls []) := by
    intro x1 x2 x3 z0 H locs ls hw hP hD hS hl
    unfold wpX5_set_33 at hw
    refine lv_iload_n hx hb dX5_set_33 rfl (lv_at hl 1 rfl) ?_
    refine lv_iconst (v := (1 : Int32)) hx hb dX5_set_34 (by decide) ?_
    refine lv_icmp_ne (tgt := 68) hx hb dX5_set_35 (by decide) (fun hc => ?_) (fun hc => ?_)
    · have hw := And.left hw hc
      exact B68 x1 x2 x3 z0 _ _ _ hw hP hD hS (lv_sub hl [0, 1, 2, 3] rfl)
    · have hw := And.right hw hc
      refine lv_iload_n hx hb dX5_set_38 rfl (lv_at hl 2 rfl) ?_
      refine lv_iconst (v := (0 : Int32)) hx hb dX5_set_39 (by decide) ?_
      refine lv_sipush (v := (999 : Int32)) hx hb dX5_set_40 (by decide) ?_
      refine vp_callSi (xro (xr_S hC (cX5_within_c hw) ⟨rfl, rfl⟩ bw_223 calX5_within ⟨Nat.le_trans (Nat.le_of_ble_eq_true rfl) hF, Nat.le_trans (Nat.le_of_ble_eq_true rfl) hL⟩ (rest := []) (xpS hK) rfl hl rfl (Nat.le_of_ble_eq_true rfl) dX5_set_43 ⟨Nat.zero_le _, Nat.zero_le _⟩)) (fun r1 hw => ?_)
      refine lv_if_eq (tgt := 68) hx hb dX5_set_46 (by decide) (fun hc => ?_) (fun hc => ?_)
      · have hw := And.left hw hc
        exact B68 x1 x2 x3 z0 _ _ _ hw hP hD hS (lv_sub hl [0, 1, 2, 3] rfl)
      · have hw := And.right hw hc
        refine lv_aload_n hx hb dX5_set_49 rfl (lv_at hl 0 rfl) ?_
        refine rg_X_X5_0_0 hC hK hP dX5_set_50 ?_
        refine rg_X_X5_1_5 hC hK hP dX5_set_53 ?_
        refine lv_istore_n (lv' := [(3, .int (w_i (w_o (x_w z0)) 5)), (0, .ref (h 0)), (1, .int x1), (2, .int x2)]) hx hb dX5_set_56 rfl hl (by decide) rfl (fun ls hl => ?_)
        refine lv_aload_n hx hb dX5_set_57 rfl (lv_at hl 1 rfl) ?_
        refine rg_X_X5_0_0 hC hK hP dX5_set_58 ?_
        refine lv_iload_n hx hb dX5_set_61 rfl (lv_at hl 3 rfl) ?_
        refine rp_X_X5_1_5 hC hK hP hD hS dX5_set_62 (fun z1 H locs hz1 hP hD hS => ?_)
        have hw := hw z1 hz1
        refine lv_goto (tgt := 99) hx hb dX5_set_65 (by decide) ?_
        refine lv_iload_n hx hb dX5_set_99 rfl (lv_at hl 0 rfl) ?_
        exact hret _ _ _ _ _ _ hw hP hD hS dX5_set_100
  unfold wpX5_set at hw
  refine lv_ldc (v := (-100001 : Int32)) hx hb hC.2.2.2.1 (hC.2.2.2.2 _ bw_238) dX5_set_0 ?_
  refine lv_istore_n (lv' := [(3, .int (-100001 : Int32)), (0, .ref (h 0)), (1, .int x1), (2, .int x2)]) hx hb dX5_set_2 rfl hl (by decide) rfl (fun ls hl => ?_)
  refine lv_iload_n hx hb dX5_set_3 rfl (lv_at hl 2 rfl) ?_
  refine lv_if_ne (tgt := 33) hx hb dX5_set_4 (by decide) (fun hc => ?_) (fun hc => ?_)
  · have hw := And.left hw hc
    exact B33 x1 x2 (-100001 : Int32) z0 _ _ _ hw hP hD hS (lv_sub hl [1, 2, 3, 0] rfl)
  · have hw := And.right hw hc
    refine lv_iload_n hx hb dX5_set_7 rfl (lv_at hl 3 rfl) ?_
    refine vp_callSi (xro (xr_S hC (cX5_isMood_c hw) ⟨rfl, rfl⟩ bw_256 calX5_isMood ⟨Nat.le_trans (Nat.le_of_ble_eq_true rfl) hF, Nat.le_trans (Nat.le_of_ble_eq_true rfl) hL⟩ (rest := []) (xpS hK) rfl hl rfl (Nat.le_of_ble_eq_true rfl) dX5_set_8 ⟨Nat.zero_le _, Nat.zero_le _⟩)) (fun r1 hw => ?_)
    refine lv_if_eq (tgt := 33) hx hb dX5_set_11 (by decide) (fun hc => ?_) (fun hc => ?_)
    · have hw := And.left hw hc
      exact B33 x1 x2 (-100001 : Int32) z0 _ _ _ hw hP hD hS (lv_sub hl [1, 2, 3, 0] rfl)
    · have hw := And.right hw hc
      refine lv_aload_n hx hb dX5_set_14 rfl (lv_at hl 1 rfl) ?_
      refine rg_X_X5_0_0 hC hK hP dX5_set_15 ?_
      refine rg_X_X5_1_4 hC hK hP dX5_set_18 ?_
      refine lv_istore_n (lv' := [(3, .int (w_i (w_o (x_w z0)) 4)), (0, .ref (h 0)), (1, .int x1), (2, .int x2)]) hx hb dX5_set_21 rfl hl (by decide) rfl (fun ls hl => ?_)
      refine lv_aload_n hx hb dX5_set_22 rfl (lv_at hl 1 rfl) ?_
      refine rg_X_X5_0_0 hC hK hP dX5_set_23 ?_
      refine lv_iload_n hx hb dX5_set_26 rfl (lv_at hl 3 rfl) ?_
      refine rp_X_X5_1_4 hC hK hP hD hS dX5_set_27 (fun z1 H locs hz1 hP hD hS => ?_)
      have hw := hw z1 hz1
      refine lv_goto (tgt := 99) hx hb dX5_set_30 (by decide) ?_
      refine lv_iload_n hx hb dX5_set_99 rfl (lv_at hl 0 rfl) ?_
      exact hret _ _ _ _ _ _ hw hP hD hS dX5_set_100
def wpX5_is (x1 : Int32) (z0 : wXS) (post : Int32 → Prop) : Prop := ((x1.toInt < 0 ∨ 8 < x1.toInt → (post (-100001 : Int32))) ∧ (x1 = (0 : Int32) → (post (w_i (w_o (x_w z0)) 4))) ∧ (x1 = (1 : Int32) → (post (w_i (w_o (x_w z0)) 5))) ∧ (x1 = (2 : Int32) → (post (w_i (w_o (x_w z0)) 6))) ∧ (x1 = (3 : Int32) → (post (w_i (w_o (x_w z0)) 7))) ∧ (x1 = (4 : Int32) → (post (w_i (w_o (x_w z0)) 8))) ∧ (x1 = (5 : Int32) → (post (w_i (w_o (x_w z0)) 9))) ∧ (x1 = (6 : Int32) → (post (w_i (w_f (x_w z0)) 4))) ∧ (x1 = (7 : Int32) → (post (w_i (w_o (x_w z0)) 3))) ∧ (x1 = (8 : Int32) → (post (w_i (w_o (x_w z0)) 10))))
set_option maxHeartbeats 4000000 in
set_option maxRecDepth 100000 in
theorem cX5_is_c {l : Launch} {G : wG} {h : Nat → Nat} {x1 : Int32} {post : Int32 → Prop} {z0 : wXS}  (hw : wpX5_is x1 z0 post) : Met l yX5_is (.code yX5_is cX5_is 2 (some .int) :: BIG) { frames := 0, cells := 0, slots := 0, locals := 0 } (xPr G [.ref (h 0), .int x1] (wsX G h z0)) (vp_Si post) 0 0 (fun _ => False) := by
  refine xm_ri (by decide) (Nat.le_of_ble_eq_true rfl) (fun p e s m args below meth c ls R Q hC hK hP hl hF hL hret => ?_)
  have hx := hC.1
  have hb := hC.2.1
  have hl : lv_has ls 2 [(0, .ref (h 0)), (1, .int x1)] := hl
  unfold wpX5_is at hw
  refine lv_iload_n hx hb dX5_is_0 rfl (lv_at hl 1 rfl) ?_
  rcases x_tswL x1 0 9 (by decide) with hq | ⟨j, hj, hq⟩
  · have hw := And.left hw (by omega)
    refine lv_tableOut (tgt := 127) hx hb dX5_is_1 (by omega) (by decide) ?_
    refine lv_ldc (v := (-100001 : Int32)) hx hb hC.2.2.2.1 (hC.2.2.2.2 _ bw_238) dX5_is_127 ?_
    exact hret _ _ _ hw dX5_is_129
  · have hw := And.right hw
    obtain rfl | rfl | rfl | rfl | rfl | rfl | rfl | rfl | rfl : j = 0 ∨ j = 1 ∨ j = 2 ∨ j = 3 ∨ j = 4 ∨ j = 5 ∨ j = 6 ∨ j = 7 ∨ j = 8 := by omega
    · have hw := (And.left hw) hq
      refine lv_tableIn (off := 51) (tgt := 52) hx hb dX5_is_1 (by rw [hq]; decide) (by rw [hq]; decide) (by rw [hq]; rfl) (by decide) ?_
      refine lv_aload_n hx hb dX5_is_52 rfl (lv_at hl 0 rfl) ?_
      refine rg_X_X5_0_0 hC hK hP dX5_is_53 ?_
      refine rg_X_X5_1_4 hC hK hP dX5_is_56 ?_
      exact hret _ _ _ hw dX5_is_59
    · have hw := (And.left (And.right hw)) hq
      refine lv_tableIn (off := 59) (tgt := 60) hx hb dX5_is_1 (by rw [hq]; decide) (by rw [hq]; decide) (by rw [hq]; rfl) (by decide) ?_
      refine lv_aload_n hx hb dX5_is_60 rfl (lv_at hl 0 rfl) ?_
      refine rg_X_X5_0_0 hC hK hP dX5_is_61 ?_
      refine rg_X_X5_1_5 hC hK hP dX5_is_64 ?_
      exact hret _ _ _ hw dX5_is_67
    · have hw := (And.left (And.right (And.right hw))) hq
      refine lv_tableIn (off := 67) (tgt := 68) hx hb dX5_is_1 (by rw [hq]; decide) (by rw [hq]; decide) (by rw [hq]; rfl) (by decide) ?_
      refine lv_aload_n hx hb dX5_is_68 rfl (lv_at hl 0 rfl) ?_
      refine rg_X_X5_0_0 hC hK hP dX5_is_69 ?_
      refine rg_X_X5_1_6 hC hK hP dX5_is_72 ?_
      exact hret _ _ _ hw dX5_is_75
    · have hw := (And.left (And.right (And.right (And.right hw)))) hq
      refine lv_tableIn (off := 75) (tgt := 76) hx hb dX5_is_1 (by rw [hq]; decide) (by rw [hq]; decide) (by rw [hq]; rfl) (by decide) ?_
      refine lv_aload_n hx hb dX5_is_76 rfl (lv_at hl 0 rfl) ?_
      refine rg_X_X5_0_0 hC hK hP dX5_is_77 ?_
      refine rg_X_X5_1_7 hC hK hP dX5_is_80 ?_
      exact hret _ _ _ hw dX5_is_83
    · have hw := (And.left (And.right (And.right (And.right (And.right hw))))) hq
      refine lv_tableIn (off := 83) (tgt := 84) hx hb dX5_is_1 (by rw [hq]; decide) (by rw [hq]; decide) (by rw [hq]; rfl) (by decide) ?_
      refine lv_aload_n hx hb dX5_is_84 rfl (lv_at hl 0 rfl) ?_
      refine rg_X_X5_0_0 hC hK hP dX5_is_85 ?_
      refine rg_X_X5_1_8 hC hK hP dX5_is_88 ?_
      exact hret _ _ _ hw dX5_is_91
    · have hw := (And.left (And.right (And.right (And.right (And.right (And.right hw)))))) hq
      refine lv_tableIn (off := 91) (tgt := 92) hx hb dX5_is_1 (by rw [hq]; decide) (by rw [hq]; decide) (by rw [hq]; rfl) (by decide) ?_
      refine lv_aload_n hx hb dX5_is_92 rfl (lv_at hl 0 rfl) ?_
      refine rg_X_X5_0_0 hC hK hP dX5_is_93 ?_
      refine rg_X_X5_1_9 hC hK hP dX5_is_96 ?_
      exact hret _ _ _ hw dX5_is_99
    · have hw := (And.left (And.right (And.right (And.right (And.right (And.right (And.right hw))))))) hq
      refine lv_tableIn (off := 99) (tgt := 100) hx hb dX5_is_1 (by rw [hq]; decide) (by rw [hq]; decide) (by rw [hq]; rfl) (by decide) ?_
      refine lv_aload_n hx hb dX5_is_100 rfl (lv_at hl 0 rfl) ?_
      refine rg_X_X5_0_0 hC hK hP dX5_is_101 ?_
      refine rg_X_X5_1_0 hC hK hP dX5_is_104 ?_
      refine rg_X_X5_4_4 hC hK hP dX5_is_107 ?_
      exact hret _ _ _ hw dX5_is_110
    · have hw := (And.left (And.right (And.right (And.right (And.right (And.right (And.right (And.right hw)))))))) hq
      refine lv_tableIn (off := 110) (tgt := 111) hx hb dX5_is_1 (by rw [hq]; decide) (by rw [hq]; decide) (by rw [hq]; rfl) (by decide) ?_
      refine lv_aload_n hx hb dX5_is_111 rfl (lv_at hl 0 rfl) ?_
      refine rg_X_X5_0_0 hC hK hP dX5_is_112 ?_
      refine rg_X_X5_1_3 hC hK hP dX5_is_115 ?_
      exact hret _ _ _ hw dX5_is_118
    · have hw := ((And.right (And.right (And.right (And.right (And.right (And.right (And.right (And.right hw))))))))) hq
      refine lv_tableIn (off := 118) (tgt := 119) hx hb dX5_is_1 (by rw [hq]; decide) (by rw [hq]; decide) (by rw [hq]; rfl) (by decide) ?_
      refine lv_aload_n hx hb dX5_is_119 rfl (lv_at hl 0 rfl) ?_
      refine rg_X_X5_0_0 hC hK hP dX5_is_120 ?_
      refine rg_X_X5_1_10 hC hK hP dX5_is_123 ?_
      exact hret _ _ _ hw dX5_is_126
def wpX5_type_42 (k42 : Int64 → Int32 → (wXS) → Prop) (post : Int32 → (wXS) → Prop) (x1 : Int64) (x4 : Int32) (z0 : wXS) : Prop := ((x4 < 0 → (post (w_i (x_t z0) 1) z0)) ∧ (¬ x4 < 0 → (wpX5_byteOf x1 x4 (fun r1 => (wpX3_append r1 (x_t z0) (fun u => ∀ z1 : wXS, z1 = (x_st z0 u) → (k42 x1 (x4 + (-1 : Int32)) z1)))))))
def wpX5_type_L42  (post : Int32 → (wXS) → Prop) : Nat → Int64 → Int32 → (wXS) → Prop
  | 0 => fun _ _ _ => False
  | n + 1 => fun x1 x4 z0 => wpX5_type_42  (wpX5_type_L42  post n) post x1 x4 z0
def wpX5_type (x1 : Int64) (x3 : Int32) (z0 : wXS) (post : Int32 → (wXS) → Prop) : Prop := (wpX5_within x3 (1 : Int32) (8 : Int32) (fun r1 => ((r1 = 0 → (post (-1 : Int32) z0)) ∧ (¬ r1 = 0 → (wpX5_areSigns x1 x3 (fun r2 => ((¬ r2 = 0 → ((((w_i (x_t z0) 1) + x3) ≤ (60 : Int32) → (∃ n, wpX5_type_L42  post n x1 (x3 - (1 : Int32)) z0)) ∧ (¬ ((w_i (x_t z0) 1) + x3) ≤ (60 : Int32) → (post (-3 : Int32) z0)))) ∧ (r2 = 0 → (post (-1 : Int32) z0)))))))))
set_option maxHeartbeats 4000000 in
set_option maxRecDepth 100000 in
theorem cX5_type_c {l : Launch} {G : wG} {h : Nat → Nat} {sz : Nat} {x1 : Int64} {x3 : Int32} {post : Int32 → (wXS) → Prop} {z0 : wXS}  (hw : wpX5_type x1 x3 z0 post) : Met l yX5_type (.code yX5_type cX5_type 5 (some .int) :: BIG) { frames := 2, cells := 0, slots := 0, locals := 45 } (xPw G [.ref (h 0), .long x1, .int x3] (wsX G h z0) sz) (xQi G post (fun q => (wsX G h q)) (va_A (wsX G h z0) sz)) 0 0 (va_A (wsX G h z0) sz) := by
  refine xm_wi (by decide) (Nat.le_of_ble_eq_true rfl) (fun p e s m args below meth c A ls R Q hC hK hA hP hD hS hl hF hL hret => ?_)
  have hx := hC.1
  have hb := hC.2.1
  have hl : lv_has ls 5 [(0, .ref (h 0)), (1, .long x1), (3, .int x3)] := hl
  have B42 : ∀ n : Nat, ∀ (x1 : Int64) (x4 : Int32) (z0 : wXS) (H : Heap) (locs : List Loc) (ls : Array Slot), wpX5_type_L42  post n x1 x4 z0 → va_P G.1 vwCl (wsX G h z0) H → va_D A (wsX G h z0) → va_S A s.heap H locs → lv_has ls 5 [(0, .ref (h 0)), (1, .long x1), (4, .int x4)] → W p l e R s m args below meth c H locs 0 0 Q (F0 m 42 ls []) := by
    intro n
    induction n with
    | zero => intro x1 x4 z0 H locs ls hw hP hD hS hl; exact False.elim hw
    | succ n I42 =>
      intro x1 x4 z0 H locs ls hw hP hD hS hl
      have hw : wpX5_type_42  (wpX5_type_L42  post n) post x1 x4 z0 := hw
      unfold wpX5_type_42 at hw
      refine lv_iload hx hb dX5_type_42 (lv_at hl 2 rfl) ?_
      refine lv_if_lt (tgt := 66) hx hb dX5_type_44 (by decide) (fun hc => ?_) (fun hc => ?_)
      · have hw := And.left hw hc
        refine lv_aload_n hx hb dX5_type_66 rfl (lv_at hl 0 rfl) ?_
        refine rg_X_X5_0_3 hC hK hP dX5_type_67 ?_
        refine rg_X_X5_17_1 hC hK hP dX5_type_70 ?_
        exact hret _ _ _ _ _ _ hw hP hD hS dX5_type_73
      · have hw := And.right hw hc
        refine lv_aload_n hx hb dX5_type_47 rfl (lv_at hl 0 rfl) ?_
        refine rg_X_X5_0_3 hC hK hP dX5_type_48 ?_
        refine lv_lload_n hx hb dX5_type_51 rfl (lv_at hl 1 rfl) ?_
        refine lv_iload hx hb dX5_type_52 (lv_at hl 2 rfl) ?_
        refine vp_callSi (xro (xr_S hC (cX5_byteOf_c hw) ⟨rfl, rfl⟩ bw_270 calX5_byteOf ⟨Nat.le_trans (Nat.le_of_ble_eq_true rfl) hF, Nat.le_trans (Nat.le_of_ble_eq_true rfl) hL⟩ (rest := [.ref (h 17)]) (xpS hK) rfl hl rfl (Nat.le_of_ble_eq_true rfl) dX5_type_54 ⟨Nat.zero_le _, Nat.zero_le _⟩)) (fun r1 hw => ?_)
        refine xc_wv (wsz := fun q => (wsX G h q)) (f := fun u => (x_st z0 u)) (xr_VN hC hK.2 (cX3_append_c (h := (sh h 17)) hw) ⟨rfl, rfl⟩ bw_273 calX3_append ⟨Nat.le_trans (Nat.le_of_ble_eq_true rfl) hF, Nat.le_trans (Nat.le_of_ble_eq_true rfl) hL⟩ (rest := []) (xpV hK (cut_X_T17) hP hD rfl rfl) rfl hl rfl (Nat.le_of_ble_eq_true rfl) dX5_type_57 ⟨Nat.zero_le _, Nat.zero_le _⟩) (cut_X_T17) hP hD hS hA (fun u z1 H locs hz1 hw hP hD hS => ?_)
        have hw := hw z1 hz1
        refine lv_iinc (v := (x4 + (-1 : Int32))) (lv' := [(4, .int (x4 + (-1 : Int32))), (0, .ref (h 0)), (1, .long x1)]) hx hb dX5_type_60 hl (k := 2) rfl rfl (by decide) rfl (fun ls hl => ?_)
        refine lv_goto (tgt := 42) hx hb dX5_type_63 (by decide) ?_
        exact I42 x1 (x4 + (-1 : Int32)) z1 _ _ _ hw hP hD hS (lv_sub hl [1, 2, 0] rfl)
  unfold wpX5_type at hw
  refine lv_iload_n hx hb dX5_type_0 rfl (lv_at hl 2 rfl) ?_
  refine lv_iconst (v := (1 : Int32)) hx hb dX5_type_1 (by decide) ?_
  refine lv_bipush (v := (8 : Int32)) hx hb dX5_type_2 (by decide) ?_
  refine vp_callSi (xro (xr_S hC (cX5_within_c hw) ⟨rfl, rfl⟩ bw_223 calX5_within ⟨Nat.le_trans (Nat.le_of_ble_eq_true rfl) hF, Nat.le_trans (Nat.le_of_ble_eq_true rfl) hL⟩ (rest := []) (xpS hK) rfl hl rfl (Nat.le_of_ble_eq_true rfl) dX5_type_4 ⟨Nat.zero_le _, Nat.zero_le _⟩)) (fun r1 hw => ?_)
  refine lv_if_eq (tgt := 18) hx hb dX5_type_7 (by decide) (fun hc => ?_) (fun hc => ?_)
  · have hw := And.left hw hc
    refine lv_iconst (v := (-1 : Int32)) hx hb dX5_type_18 (by decide) ?_
    exact hret _ _ _ _ _ _ hw hP hD hS dX5_type_19
  · have hw := And.right hw hc
    refine lv_lload_n hx hb dX5_type_10 rfl (lv_at hl 1 rfl) ?_
    refine lv_iload_n hx hb dX5_type_11 rfl (lv_at hl 2 rfl) ?_
    refine vp_callSi (xro (xr_S hC (cX5_areSigns_c hw) ⟨rfl, rfl⟩ bw_267 calX5_areSigns ⟨Nat.le_trans (Nat.le_of_ble_eq_true rfl) hF, Nat.le_trans (Nat.le_of_ble_eq_true rfl) hL⟩ (rest := []) (xpS hK) rfl hl rfl (Nat.le_of_ble_eq_true rfl) dX5_type_12 ⟨Nat.zero_le _, Nat.zero_le _⟩)) (fun r2 hw => ?_)
    refine lv_if_ne (tgt := 20) hx hb dX5_type_15 (by decide) (fun hc => ?_) (fun hc => ?_)
    · have hw := And.left hw hc
      refine lv_aload_n hx hb dX5_type_20 rfl (lv_at hl 0 rfl) ?_
      refine rg_X_X5_0_3 hC hK hP dX5_type_21 ?_
      refine rg_X_X5_17_1 hC hK hP dX5_type_24 ?_
      refine lv_iload_n hx hb dX5_type_27 rfl (lv_at hl 2 rfl) ?_
      refine lv_iadd hx hb dX5_type_28 ?_
      refine lv_bipush (v := (60 : Int32)) hx hb dX5_type_29 (by decide) ?_
      refine lv_icmp_le (tgt := 37) hx hb dX5_type_31 (by decide) (fun hc => ?_) (fun hc => ?_)
      · have hw := And.left hw hc
        refine lv_iload_n hx hb dX5_type_37 rfl (lv_at hl 2 rfl) ?_
        refine lv_iconst (v := (1 : Int32)) hx hb dX5_type_38 (by decide) ?_
        refine lv_isub hx hb dX5_type_39 ?_
        refine lv_istore (lv' := [(4, .int (x3 - (1 : Int32))), (0, .ref (h 0)), (1, .long x1), (3, .int x3)]) hx hb dX5_type_40 hl (by decide) rfl (fun ls hl => ?_)
        obtain ⟨n42, hw⟩ := hw
        exact B42 n42 x1 (x3 - (1 : Int32)) z0 _ _ _ hw hP hD hS (lv_sub hl [1, 2, 0] rfl)
      · have hw := And.right hw hc
        refine lv_bipush (v := (-3 : Int32)) hx hb dX5_type_34 (by decide) ?_
        exact hret _ _ _ _ _ _ hw hP hD hS dX5_type_36
    · have hw := And.right hw hc
      refine lv_iconst (v := (-1 : Int32)) hx hb dX5_type_18 (by decide) ?_
      exact hret _ _ _ _ _ _ hw hP hD hS dX5_type_19
def wpX5_village (z0 : wXS) (post : Int32 → (wXS) → Prop) : Prop := (wpX3_readFolk ((x_t z0), (x_n z0)) (fun r1 u => ∀ z1 : wXS, z1 = (x_sn (x_st z0 u.1) u.2) → (∀ z2 : wXS, z2 = (x_st z1 (w_si (x_t z1) 1 (0 : Int32))) → ((r1 ≤ 0 → (post r1 z2)) ∧ (¬ r1 ≤ 0 → (wpX4_settle ((x_w z2), (x_n z2)) (fun u => ∀ z3 : wXS, z3 = (x_sn (x_sw z2 u.1) u.2) → (post r1 z3))))))))
set_option maxHeartbeats 4000000 in
set_option maxRecDepth 100000 in
theorem cX5_village_c {l : Launch} {G : wG} {h : Nat → Nat} {sz : Nat}  {post : Int32 → (wXS) → Prop} {z0 : wXS}  (hw : wpX5_village z0 post) : Met l yX5_village (.code yX5_village cX5_village 2 (some .int) :: BIG) { frames := 4, cells := 0, slots := 0, locals := 93 } (xPw G [.ref (h 0)] (wsX G h z0) sz) (xQi G post (fun q => (wsX G h q)) (va_A (wsX G h z0) sz)) 0 0 (va_A (wsX G h z0) sz) := by
  refine xm_wi (by decide) (Nat.le_of_ble_eq_true rfl) (fun p e s m args below meth c A ls R Q hC hK hA hP hD hS hl hF hL hret => ?_)
  have hx := hC.1
  have hb := hC.2.1
  have hl : lv_has ls 2 [(0, .ref (h 0))] := hl
  unfold wpX5_village at hw
  refine lv_aload_n hx hb dX5_village_0 rfl (lv_at hl 0 rfl) ?_
  refine rg_X_X5_0_3 hC hK hP dX5_village_1 ?_
  refine lv_aload_n hx hb dX5_village_4 rfl (lv_at hl 0 rfl) ?_
  refine rg_X_X5_0_4 hC hK hP dX5_village_5 ?_
  refine xc_wi (wsz := fun q => (wsX G h q)) (f := fun u => (x_sn (x_st z0 u.1) u.2)) (xr_VN hC hK.2 (cX3_readFolk_c (h := (sh h 17)) (g := (sh h 19)) hw) ⟨rfl, rfl⟩ bw_281 calX3_readFolk ⟨Nat.le_trans (Nat.le_of_ble_eq_true rfl) hF, Nat.le_trans (Nat.le_of_ble_eq_true rfl) hL⟩ (rest := []) (xpV hK (cut_X_T17_F19) hP hD rfl rfl) rfl hl rfl (Nat.le_of_ble_eq_true rfl) dX5_village_8 ⟨Nat.zero_le _, Nat.zero_le _⟩) (cut_X_T17_F19) hP hD hS hA (fun r1 u z1 H locs hz1 hw hP hD hS => ?_)
  have hw := hw z1 hz1
  refine lv_istore_n (lv' := [(1, .int r1), (0, .ref (h 0))]) hx hb dX5_village_11 rfl hl (by decide) rfl (fun ls hl => ?_)
  refine lv_aload_n hx hb dX5_village_12 rfl (lv_at hl 1 rfl) ?_
  refine rg_X_X5_0_3 hC hK hP dX5_village_13 ?_
  refine lv_iconst (v := (0 : Int32)) hx hb dX5_village_16 (by decide) ?_
  refine rp_X_X5_17_1 hC hK hP hD hS dX5_village_17 (fun z2 H locs hz1 hP hD hS => ?_)
  have hw := hw z2 hz1
  refine lv_iload_n hx hb dX5_village_20 rfl (lv_at hl 0 rfl) ?_
  refine lv_if_le (tgt := 35) hx hb dX5_village_21 (by decide) (fun hc => ?_) (fun hc => ?_)
  · have hw := And.left hw hc
    refine lv_iload_n hx hb dX5_village_35 rfl (lv_at hl 0 rfl) ?_
    exact hret _ _ _ _ _ _ hw hP hD hS dX5_village_36
  · have hw := And.right hw hc
    refine lv_aload_n hx hb dX5_village_24 rfl (lv_at hl 1 rfl) ?_
    refine rg_X_X5_0_0 hC hK hP dX5_village_25 ?_
    refine lv_aload_n hx hb dX5_village_28 rfl (lv_at hl 1 rfl) ?_
    refine rg_X_X5_0_4 hC hK hP dX5_village_29 ?_
    refine xc_wv (wsz := fun q => (wsX G h q)) (f := fun u => (x_sn (x_sw z2 u.1) u.2)) (xr_VN hC hK.2 (cX4_settle_c (h := (sh h 1)) (g := (sh h 19)) hw) ⟨rfl, rfl⟩ bw_306 calX4_settle ⟨Nat.le_trans (Nat.le_of_ble_eq_true rfl) hF, Nat.le_trans (Nat.le_of_ble_eq_true rfl) hL⟩ (rest := []) (xpV hK (cut_X_W1_F19) hP hD rfl rfl) rfl hl rfl (Nat.le_of_ble_eq_true rfl) dX5_village_32 ⟨Nat.zero_le _, Nat.zero_le _⟩) (cut_X_W1_F19) hP hD hS hA (fun u z3 H locs hz1 hw hP hD hS => ?_)
    have hw := hw z3 hz1
    refine lv_iload_n hx hb dX5_village_35 rfl (lv_at hl 0 rfl) ?_
    exact hret _ _ _ _ _ _ hw hP hD hS dX5_village_36
def wpX5_plan (z0 : wXS) (post : Int32 → (wXS) → Prop) : Prop := (wpX3_readPlan ((x_t z0), (w_a (x_o z0) 5), (w_f (x_w z0))) (fun r1 u => ∀ z1 : wXS, z1 = (x_sw (x_so (x_st z0 u.1) (w_sa (x_o (x_st z0 u.1)) 5 u.2.1)) (w_sf (x_w (x_so (x_st z0 u.1) (w_sa (x_o (x_st z0 u.1)) 5 u.2.1))) u.2.2)) → (∀ z2 : wXS, z2 = (x_st z1 (w_si (x_t z1) 1 (0 : Int32))) → ((r1 ≤ 0 → (post r1 z2)) ∧ (¬ r1 ≤ 0 → (wpX4_adopt r1 ((x_w z2), (w_a (x_o z2) 5)) (fun u => ∀ z3 : wXS, z3 = (x_so (x_sw z2 u.1) (w_sa (x_o (x_sw z2 u.1)) 5 u.2)) → (post r1 z3))))))))
set_option maxHeartbeats 4000000 in
set_option maxRecDepth 100000 in
theorem cX5_plan_c {l : Launch} {G : wG} {h : Nat → Nat} {sz : Nat}  {post : Int32 → (wXS) → Prop} {z0 : wXS}  (hw : wpX5_plan z0 post) : Met l yX5_plan (.code yX5_plan cX5_plan 2 (some .int) :: BIG) { frames := 2, cells := 0, slots := 0, locals := 62 } (xPw G [.ref (h 0)] (wsX G h z0) sz) (xQi G post (fun q => (wsX G h q)) (va_A (wsX G h z0) sz)) 0 0 (va_A (wsX G h z0) sz) := by
  refine xm_wi (by decide) (Nat.le_of_ble_eq_true rfl) (fun p e s m args below meth c A ls R Q hC hK hA hP hD hS hl hF hL hret => ?_)
  have hx := hC.1
  have hb := hC.2.1
  have hl : lv_has ls 2 [(0, .ref (h 0))] := hl
  unfold wpX5_plan at hw
  refine lv_aload_n hx hb dX5_plan_0 rfl (lv_at hl 0 rfl) ?_
  refine rg_X_X5_0_3 hC hK hP dX5_plan_1 ?_
  refine lv_aload_n hx hb dX5_plan_4 rfl (lv_at hl 0 rfl) ?_
  refine rg_X_X5_0_5 hC hK hP dX5_plan_5 ?_
  refine lv_aload_n hx hb dX5_plan_8 rfl (lv_at hl 0 rfl) ?_
  refine rg_X_X5_0_0 hC hK hP dX5_plan_9 ?_
  refine rg_X_X5_1_0 hC hK hP dX5_plan_12 ?_
  refine xc_wi (wsz := fun q => (wsX G h q)) (f := fun u => (x_sw (x_so (x_st z0 u.1) (w_sa (x_o (x_st z0 u.1)) 5 u.2.1)) (w_sf (x_w (x_so (x_st z0 u.1) (w_sa (x_o (x_st z0 u.1)) 5 u.2.1))) u.2.2))) (xr_VN hC hK.2 (cX3_readPlan_c (h := (sh h 17)) (g := (sh h 24)) (k := (sh h 4)) hw) ⟨rfl, rfl⟩ bw_318 calX3_readPlan ⟨Nat.le_trans (Nat.le_of_ble_eq_true rfl) hF, Nat.le_trans (Nat.le_of_ble_eq_true rfl) hL⟩ (rest := []) (xpV hK (cut_X_T17_A24_F4) hP hD rfl rfl) rfl hl rfl (Nat.le_of_ble_eq_true rfl) dX5_plan_15 ⟨Nat.zero_le _, Nat.zero_le _⟩) (cut_X_T17_A24_F4) hP hD hS hA (fun r1 u z1 H locs hz1 hw hP hD hS => ?_)
  have hw := hw z1 hz1
  refine lv_istore_n (lv' := [(1, .int r1), (0, .ref (h 0))]) hx hb dX5_plan_18 rfl hl (by decide) rfl (fun ls hl => ?_)
  refine lv_aload_n hx hb dX5_plan_19 rfl (lv_at hl 1 rfl) ?_
  refine rg_X_X5_0_3 hC hK hP dX5_plan_20 ?_
  refine lv_iconst (v := (0 : Int32)) hx hb dX5_plan_23 (by decide) ?_
  refine rp_X_X5_17_1 hC hK hP hD hS dX5_plan_24 (fun z2 H locs hz1 hP hD hS => ?_)
  have hw := hw z2 hz1
  refine lv_iload_n hx hb dX5_plan_27 rfl (lv_at hl 0 rfl) ?_
  refine lv_if_le (tgt := 43) hx hb dX5_plan_28 (by decide) (fun hc => ?_) (fun hc => ?_)
  · have hw := And.left hw hc
    refine lv_iload_n hx hb dX5_plan_43 rfl (lv_at hl 0 rfl) ?_
    exact hret _ _ _ _ _ _ hw hP hD hS dX5_plan_44
  · have hw := And.right hw hc
    refine lv_aload_n hx hb dX5_plan_31 rfl (lv_at hl 1 rfl) ?_
    refine rg_X_X5_0_0 hC hK hP dX5_plan_32 ?_
    refine lv_aload_n hx hb dX5_plan_35 rfl (lv_at hl 1 rfl) ?_
    refine rg_X_X5_0_5 hC hK hP dX5_plan_36 ?_
    refine lv_iload_n hx hb dX5_plan_39 rfl (lv_at hl 0 rfl) ?_
    refine xc_wv (wsz := fun q => (wsX G h q)) (f := fun u => (x_so (x_sw z2 u.1) (w_sa (x_o (x_sw z2 u.1)) 5 u.2))) (xr_VN hC hK.2 (cX4_adopt_c (h := (sh h 1)) (g := (sh h 24)) hw) ⟨rfl, rfl⟩ bw_323 calX4_adopt ⟨Nat.le_trans (Nat.le_of_ble_eq_true rfl) hF, Nat.le_trans (Nat.le_of_ble_eq_true rfl) hL⟩ (rest := []) (xpV hK (cut_X_W1_A24) hP hD rfl rfl) rfl hl rfl (Nat.le_of_ble_eq_true rfl) dX5_plan_40 ⟨Nat.zero_le _, Nat.zero_le _⟩) (cut_X_W1_A24) hP hD hS hA (fun u z3 H locs hz1 hw hP hD hS => ?_)
    have hw := hw z3 hz1
    refine lv_iload_n hx hb dX5_plan_43 rfl (lv_at hl 0 rfl) ?_
    exact hret _ _ _ _ _ _ hw hP hD hS dX5_plan_44
def wpX5_may_35 (k4 : Int32 → Int32 → Prop) (z0 : wXS) (post : Int32 → Prop) (x1 : Int32) (x2 : Int32) : Prop := (k4 x1 (x2 + (1 : Int32)))
def wpX5_may_4 (k4 : Int32 → Int32 → Prop) (z0 : wXS) (post : Int32 → Prop) (x1 : Int32) (x2 : Int32) : Prop := (((w_i (w_f (x_w z0)) 4) ≤ x2 → (post x1)) ∧ (¬ (w_i (w_f (x_w z0)) 4) ≤ x2 → (wpX4_mayDraw x2 (x_w z0) (fun r1 => ((r1 = 0 → (wpX5_may_35 k4 z0 post x1 x2)) ∧ (¬ r1 = 0 → (wpX5_may_35 k4 z0 post (x1 ||| ((1 : Int32) <<< (x2 &&& 31))) x2)))))))
def wpX5_may_L4  (z0 : wXS) (post : Int32 → Prop) : Nat → Int32 → Int32 → Prop
  | 0 => fun _ _ => False
  | n + 1 => fun x1 x2 => wpX5_may_4  (wpX5_may_L4  z0 post n) z0 post x1 x2
def wpX5_may (z0 : wXS) (post : Int32 → Prop) : Prop := (∃ n, wpX5_may_L4  z0 post n (0 : Int32) (0 : Int32))
set_option maxHeartbeats 4000000 in
set_option maxRecDepth 100000 in
theorem cX5_may_c {l : Launch} {G : wG} {h : Nat → Nat}  {post : Int32 → Prop} {z0 : wXS}  (hw : wpX5_may z0 post) : Met l yX5_may (.code yX5_may cX5_may 3 (some .int) :: BIG) { frames := 2, cells := 0, slots := 0, locals := 42 } (xPr G [.ref (h 0)] (wsX G h z0)) (vp_Si post) 0 0 (fun _ => False) := by
  refine xm_ri (by decide) (Nat.le_of_ble_eq_true rfl) (fun p e s m args below meth c ls R Q hC hK hP hl hF hL hret => ?_)
  have hx := hC.1
  have hb := hC.2.1
  have hl : lv_has ls 3 [(0, .ref (h 0))] := hl
  have B4 : ∀ n : Nat, ∀ (x1 : Int32) (x2 : Int32) (ls : Array Slot), wpX5_may_L4  z0 post n x1 x2 → lv_has ls 3 [(0, .ref (h 0)), (1, .int x1), (2, .int x2)] → W p l e R s m args below meth c s.heap [] 0 0 Q (F0 m 4 ls []) := by
    intro n
    induction n with
    | zero => intro x1 x2 ls hw hl; exact False.elim hw
    | succ n I4 =>
      have B35 : ∀ (x1 : Int32) (x2 : Int32) (ls : Array Slot), wpX5_may_35 (wpX5_may_L4  z0 post n) z0 post x1 x2 → lv_has ls 3 [(0, .ref (h 0)), (1, .int x1), (2, .int x2)] → W p l e R s m args below meth c s.heap [] 0 0 Q (F0 m 35 ls []) := by
        intro x1 x2 ls hw hl
        unfold wpX5_may_35 at hw
        refine lv_iinc (v := (x2 + (1 : Int32))) (lv' := [(2, .int (x2 + (1 : Int32))), (0, .ref (h 0)), (1, .int x1)]) hx hb dX5_may_35 hl (k := 2) rfl rfl (by decide) rfl (fun ls hl => ?_)
        refine lv_goto (tgt := 4) hx hb dX5_may_38 (by decide) ?_
        exact I4 x1 (x2 + (1 : Int32)) _ hw (lv_sub hl [1, 2, 0] rfl)
      intro x1 x2 ls hw hl
      have hw : wpX5_may_4  (wpX5_may_L4  z0 post n) z0 post x1 x2 := hw
      unfold wpX5_may_4 at hw
      refine lv_iload_n hx hb dX5_may_4 rfl (lv_at hl 2 rfl) ?_
      refine lv_aload_n hx hb dX5_may_5 rfl (lv_at hl 0 rfl) ?_
      refine rg_X_X5_0_0 hC hK hP dX5_may_6 ?_
      refine rg_X_X5_1_0 hC hK hP dX5_may_9 ?_
      refine rg_X_X5_4_4 hC hK hP dX5_may_12 ?_
      refine lv_icmp_ge (tgt := 41) hx hb dX5_may_15 (by decide) (fun hc => ?_) (fun hc => ?_)
      · have hw := And.left hw hc
        refine lv_iload_n hx hb dX5_may_41 rfl (lv_at hl 1 rfl) ?_
        exact hret _ _ _ hw dX5_may_42
      · have hw := And.right hw hc
        refine lv_aload_n hx hb dX5_may_18 rfl (lv_at hl 0 rfl) ?_
        refine rg_X_X5_0_0 hC hK hP dX5_may_19 ?_
        refine lv_iload_n hx hb dX5_may_22 rfl (lv_at hl 2 rfl) ?_
        refine vp_callSi (xro (xr_VN hC hK.2 (cX4_mayDraw_c (h := (sh h 1)) hw) ⟨rfl, rfl⟩ bw_337 calX4_mayDraw ⟨Nat.le_trans (Nat.le_of_ble_eq_true rfl) hF, Nat.le_trans (Nat.le_of_ble_eq_true rfl) hL⟩ (rest := []) (xpR hK (xCut.P (cut_X_W1) hP) rfl rfl) rfl hl rfl (Nat.le_of_ble_eq_true rfl) dX5_may_23 ⟨Nat.zero_le _, Nat.zero_le _⟩)) (fun r1 hw => ?_)
        refine lv_if_eq (tgt := 35) hx hb dX5_may_26 (by decide) (fun hc => ?_) (fun hc => ?_)
        · have hw := And.left hw hc
          exact B35 x1 x2 _ hw (lv_sub hl [0, 1, 2] rfl)
        · have hw := And.right hw hc
          refine lv_iload_n hx hb dX5_may_29 rfl (lv_at hl 1 rfl) ?_
          refine lv_iconst (v := (1 : Int32)) hx hb dX5_may_30 (by decide) ?_
          refine lv_iload_n hx hb dX5_may_31 rfl (lv_at hl 2 rfl) ?_
          refine lv_ishl hx hb dX5_may_32 ?_
          refine lv_ior hx hb dX5_may_33 ?_
          refine lv_istore_n (lv' := [(1, .int (x1 ||| ((1 : Int32) <<< (x2 &&& 31)))), (0, .ref (h 0)), (2, .int x2)]) hx hb dX5_may_34 rfl hl (by decide) rfl (fun ls hl => ?_)
          exact B35 (x1 ||| ((1 : Int32) <<< (x2 &&& 31))) x2 _ hw (lv_sub hl [1, 0, 2] rfl)
  unfold wpX5_may at hw
  refine lv_iconst (v := (0 : Int32)) hx hb dX5_may_0 (by decide) ?_
  refine lv_istore_n (lv' := [(1, .int (0 : Int32)), (0, .ref (h 0))]) hx hb dX5_may_1 rfl hl (by decide) rfl (fun ls hl => ?_)
  refine lv_iconst (v := (0 : Int32)) hx hb dX5_may_2 (by decide) ?_
  refine lv_istore_n (lv' := [(2, .int (0 : Int32)), (1, .int (0 : Int32)), (0, .ref (h 0))]) hx hb dX5_may_3 rfl hl (by decide) rfl (fun ls hl => ?_)
  obtain ⟨n4, hw⟩ := hw
  exact B4 n4 (0 : Int32) (0 : Int32) _ hw (lv_sub hl [2, 1, 0] rfl)
def wpX5_draw_42  (post : Int32 → (wXS) → Prop) (x1 : Int32) (z0 : wXS) : Prop := (wpX4_hasHours (1 : Int32) (x_w z0) (fun r1 => ((¬ r1 = 0 → (wpX4_passHour x1 (x_w z0) (fun r2 u => ∀ z1 : wXS, z1 = (x_sw z0 u) → (post r2 z1)))) ∧ (r1 = 0 → (post (-3 : Int32) z0)))))
def wpX5_draw_22  (post : Int32 → (wXS) → Prop) (x1 : Int32) (z0 : wXS) : Prop := ((x1 = (9 : Int32) → (wpX5_draw_42  post x1 z0)) ∧ (¬ x1 = (9 : Int32) → (wpX4_mayDraw x1 (x_w z0) (fun r1 => ((¬ r1 = 0 → (wpX5_draw_42  post x1 z0)) ∧ (r1 = 0 → (post (-2 : Int32) z0)))))))
def wpX5_draw (x1 : Int32) (z0 : wXS) (post : Int32 → (wXS) → Prop) : Prop := ((x1 = (9 : Int32) → (wpX5_draw_22  post x1 z0)) ∧ (¬ x1 = (9 : Int32) → (wpX0_has x1 (w_f (x_w z0)) (fun r1 => ((¬ r1 = 0 → (wpX5_draw_22  post x1 z0)) ∧ (r1 = 0 → (post (-1 : Int32) z0)))))))
set_option maxHeartbeats 4000000 in
set_option maxRecDepth 100000 in
theorem cX5_draw_c {l : Launch} {G : wG} {h : Nat → Nat} {sz : Nat} {x1 : Int32} {post : Int32 → (wXS) → Prop} {z0 : wXS}  (hw : wpX5_draw x1 z0 post) : Met l yX5_draw (.code yX5_draw cX5_draw 2 (some .int) :: BIG) { frames := 5, cells := 0, slots := 0, locals := 112 } (xPw G [.ref (h 0), .int x1] (wsX G h z0) sz) (xQi G post (fun q => (wsX G h q)) (va_A (wsX G h z0) sz)) 0 0 (va_A (wsX G h z0) sz) := by
  refine xm_wi (by decide) (Nat.le_of_ble_eq_true rfl) (fun p e s m args below meth c A ls R Q hC hK hA hP hD hS hl hF hL hret => ?_)
  have hx := hC.1
  have hb := hC.2.1
  have hl : lv_has ls 2 [(0, .ref (h 0)), (1, .int x1)] := hl
  have B42 : ∀ (x1 : Int32) (z0 : wXS) (H : Heap) (locs : List Loc) (ls : Array Slot), wpX5_draw_42  post x1 z0 → va_P G.1 vwCl (wsX G h z0) H → va_D A (wsX G h z0) → va_S A s.heap H locs → lv_has ls 2 [(0, .ref (h 0)), (1, .int x1)] → W p l e R s m args below meth c H locs 0 0 Q (F0 m 42 ls []) := by
    intro x1 z0 H locs ls hw hP hD hS hl
    unfold wpX5_draw_42 at hw
    refine lv_aload_n hx hb dX5_draw_42 rfl (lv_at hl 0 rfl) ?_
    refine rg_X_X5_0_0 hC hK hP dX5_draw_43 ?_
    refine lv_iconst (v := (1 : Int32)) hx hb dX5_draw_46 (by decide) ?_
    refine vp_callSi (xro (xr_VN hC hK.2 (cX4_hasHours_c (h := (sh h 1)) hw) ⟨rfl, rfl⟩ bw_346 calX4_hasHours ⟨Nat.le_trans (Nat.le_of_ble_eq_true rfl) hF, Nat.le_trans (Nat.le_of_ble_eq_true rfl) hL⟩ (rest := []) (xpR hK (xCut.P (cut_X_W1) hP) rfl rfl) rfl hl rfl (Nat.le_of_ble_eq_true rfl) dX5_draw_47 ⟨Nat.zero_le _, Nat.zero_le _⟩)) (fun r1 hw => ?_)
    refine lv_if_ne (tgt := 56) hx hb dX5_draw_50 (by decide) (fun hc => ?_) (fun hc => ?_)
    · have hw := And.left hw hc
      refine lv_aload_n hx hb dX5_draw_56 rfl (lv_at hl 0 rfl) ?_
      refine rg_X_X5_0_0 hC hK hP dX5_draw_57 ?_
      refine lv_iload_n hx hb dX5_draw_60 rfl (lv_at hl 1 rfl) ?_
      refine xc_wi (wsz := fun q => (wsX G h q)) (f := fun u => (x_sw z0 u)) (xr_VN hC hK.2 (cX4_passHour_c (h := (sh h 1)) hw) ⟨rfl, rfl⟩ bw_350 calX4_passHour ⟨Nat.le_trans (Nat.le_of_ble_eq_true rfl) hF, Nat.le_trans (Nat.le_of_ble_eq_true rfl) hL⟩ (rest := []) (xpV hK (cut_X_W1) hP hD rfl rfl) rfl hl rfl (Nat.le_of_ble_eq_true rfl) dX5_draw_61 ⟨Nat.zero_le _, Nat.zero_le _⟩) (cut_X_W1) hP hD hS hA (fun r2 u z1 H locs hz1 hw hP hD hS => ?_)
      have hw := hw z1 hz1
      exact hret _ _ _ _ _ _ hw hP hD hS dX5_draw_64
    · have hw := And.right hw hc
      refine lv_bipush (v := (-3 : Int32)) hx hb dX5_draw_53 (by decide) ?_
      exact hret _ _ _ _ _ _ hw hP hD hS dX5_draw_55
  have B22 : ∀ (x1 : Int32) (z0 : wXS) (H : Heap) (locs : List Loc) (ls : Array Slot), wpX5_draw_22  post x1 z0 → va_P G.1 vwCl (wsX G h z0) H → va_D A (wsX G h z0) → va_S A s.heap H locs → lv_has ls 2 [(0, .ref (h 0)), (1, .int x1)] → W p l e R s m args below meth c H locs 0 0 Q (F0 m 22 ls []) := by
    intro x1 z0 H locs ls hw hP hD hS hl
    unfold wpX5_draw_22 at hw
    refine lv_iload_n hx hb dX5_draw_22 rfl (lv_at hl 1 rfl) ?_
    refine lv_bipush (v := (9 : Int32)) hx hb dX5_draw_23 (by decide) ?_
    refine lv_icmp_eq (tgt := 42) hx hb dX5_draw_25 (by decide) (fun hc => ?_) (fun hc => ?_)
    · have hw := And.left hw hc
      exact B42 x1 z0 _ _ _ hw hP hD hS (lv_sub hl [0, 1] rfl)
    · have hw := And.right hw hc
      refine lv_aload_n hx hb dX5_draw_28 rfl (lv_at hl 0 rfl) ?_
      refine rg_X_X5_0_0 hC hK hP dX5_draw_29 ?_
      refine lv_iload_n hx hb dX5_draw_32 rfl (lv_at hl 1 rfl) ?_
      refine vp_callSi (xro (xr_VN hC hK.2 (cX4_mayDraw_c (h := (sh h 1)) hw) ⟨rfl, rfl⟩ bw_337 calX4_mayDraw ⟨Nat.le_trans (Nat.le_of_ble_eq_true rfl) hF, Nat.le_trans (Nat.le_of_ble_eq_true rfl) hL⟩ (rest := []) (xpR hK (xCut.P (cut_X_W1) hP) rfl rfl) rfl hl rfl (Nat.le_of_ble_eq_true rfl) dX5_draw_33 ⟨Nat.zero_le _, Nat.zero_le _⟩)) (fun r1 hw => ?_)
      refine lv_if_ne (tgt := 42) hx hb dX5_draw_36 (by decide) (fun hc => ?_) (fun hc => ?_)
      · have hw := And.left hw hc
        exact B42 x1 z0 _ _ _ hw hP hD hS (lv_sub hl [0, 1] rfl)
      · have hw := And.right hw hc
        refine lv_bipush (v := (-2 : Int32)) hx hb dX5_draw_39 (by decide) ?_
        exact hret _ _ _ _ _ _ hw hP hD hS dX5_draw_41
  unfold wpX5_draw at hw
  refine lv_iload_n hx hb dX5_draw_0 rfl (lv_at hl 1 rfl) ?_
  refine lv_bipush (v := (9 : Int32)) hx hb dX5_draw_1 (by decide) ?_
  refine lv_icmp_eq (tgt := 22) hx hb dX5_draw_3 (by decide) (fun hc => ?_) (fun hc => ?_)
  · have hw := And.left hw hc
    exact B22 x1 z0 _ _ _ hw hP hD hS (lv_sub hl [0, 1] rfl)
  · have hw := And.right hw hc
    refine lv_aload_n hx hb dX5_draw_6 rfl (lv_at hl 0 rfl) ?_
    refine rg_X_X5_0_0 hC hK hP dX5_draw_7 ?_
    refine rg_X_X5_1_0 hC hK hP dX5_draw_10 ?_
    refine lv_iload_n hx hb dX5_draw_13 rfl (lv_at hl 1 rfl) ?_
    refine vp_callSi (xro (xr_VN hC hK.2 (cX0_has_c (h := (sh h 4)) hw) ⟨rfl, rfl⟩ bw_234 calX0_has ⟨Nat.le_trans (Nat.le_of_ble_eq_true rfl) hF, Nat.le_trans (Nat.le_of_ble_eq_true rfl) hL⟩ (rest := []) (xpR hK (xCut.P (cut_X_F4) hP) rfl rfl) rfl hl rfl (Nat.le_of_ble_eq_true rfl) dX5_draw_14 ⟨Nat.zero_le _, Nat.zero_le _⟩)) (fun r1 hw => ?_)
    refine lv_if_ne (tgt := 22) hx hb dX5_draw_17 (by decide) (fun hc => ?_) (fun hc => ?_)
    · have hw := And.left hw hc
      exact B22 x1 z0 _ _ _ hw hP hD hS (lv_sub hl [0, 1] rfl)
    · have hw := And.right hw hc
      refine lv_iconst (v := (-1 : Int32)) hx hb dX5_draw_20 (by decide) ?_
      exact hret _ _ _ _ _ _ hw hP hD hS dX5_draw_21
def wpX5_pass_28 (k28 : Int32 → Int32 → (wXS) → Prop) (post : Int32 → (wXS) → Prop) (x1 : Int32) (x2 : Int32) (z0 : wXS) : Prop := ((x1 ≤ x2 → (post (w_i (w_o (x_w z0)) 9) z0)) ∧ (¬ x1 ≤ x2 → (wpX4_passHour (9 : Int32) (x_w z0) (fun r1 u => ∀ z1 : wXS, z1 = (x_sw z0 u) → (k28 x1 (x2 + (1 : Int32)) z1)))))
def wpX5_pass_L28  (post : Int32 → (wXS) → Prop) : Nat → Int32 → Int32 → (wXS) → Prop
  | 0 => fun _ _ _ => False
  | n + 1 => fun x1 x2 z0 => wpX5_pass_28  (wpX5_pass_L28  post n) post x1 x2 z0
def wpX5_pass (x1 : Int32) (z0 : wXS) (post : Int32 → (wXS) → Prop) : Prop := (wpX5_within x1 (1 : Int32) (60 : Int32) (fun r1 => ((¬ r1 = 0 → (wpX4_hasHours x1 (x_w z0) (fun r2 => ((¬ r2 = 0 → (∃ n, wpX5_pass_L28  post n x1 (0 : Int32) z0)) ∧ (r2 = 0 → (post (-3 : Int32) z0)))))) ∧ (r1 = 0 → (post (-1 : Int32) z0)))))
set_option maxHeartbeats 4000000 in
set_option maxRecDepth 100000 in
theorem cX5_pass_c {l : Launch} {G : wG} {h : Nat → Nat} {sz : Nat} {x1 : Int32} {post : Int32 → (wXS) → Prop} {z0 : wXS}  (hw : wpX5_pass x1 z0 post) : Met l yX5_pass (.code yX5_pass cX5_pass 3 (some .int) :: BIG) { frames := 5, cells := 0, slots := 0, locals := 112 } (xPw G [.ref (h 0), .int x1] (wsX G h z0) sz) (xQi G post (fun q => (wsX G h q)) (va_A (wsX G h z0) sz)) 0 0 (va_A (wsX G h z0) sz) := by
  refine xm_wi (by decide) (Nat.le_of_ble_eq_true rfl) (fun p e s m args below meth c A ls R Q hC hK hA hP hD hS hl hF hL hret => ?_)
  have hx := hC.1
  have hb := hC.2.1
  have hl : lv_has ls 3 [(0, .ref (h 0)), (1, .int x1)] := hl
  have B28 : ∀ n : Nat, ∀ (x1 : Int32) (x2 : Int32) (z0 : wXS) (H : Heap) (locs : List Loc) (ls : Array Slot), wpX5_pass_L28  post n x1 x2 z0 → va_P G.1 vwCl (wsX G h z0) H → va_D A (wsX G h z0) → va_S A s.heap H locs → lv_has ls 3 [(0, .ref (h 0)), (1, .int x1), (2, .int x2)] → W p l e R s m args below meth c H locs 0 0 Q (F0 m 28 ls []) := by
    intro n
    induction n with
    | zero => intro x1 x2 z0 H locs ls hw hP hD hS hl; exact False.elim hw
    | succ n I28 =>
      intro x1 x2 z0 H locs ls hw hP hD hS hl
      have hw : wpX5_pass_28  (wpX5_pass_L28  post n) post x1 x2 z0 := hw
      unfold wpX5_pass_28 at hw
      refine lv_iload_n hx hb dX5_pass_28 rfl (lv_at hl 2 rfl) ?_
      refine lv_iload_n hx hb dX5_pass_29 rfl (lv_at hl 1 rfl) ?_
      refine lv_icmp_ge (tgt := 49) hx hb dX5_pass_30 (by decide) (fun hc => ?_) (fun hc => ?_)
      · have hw := And.left hw hc
        refine lv_aload_n hx hb dX5_pass_49 rfl (lv_at hl 0 rfl) ?_
        refine rg_X_X5_0_0 hC hK hP dX5_pass_50 ?_
        refine rg_X_X5_1_9 hC hK hP dX5_pass_53 ?_
        exact hret _ _ _ _ _ _ hw hP hD hS dX5_pass_56
      · have hw := And.right hw hc
        refine lv_aload_n hx hb dX5_pass_33 rfl (lv_at hl 0 rfl) ?_
        refine rg_X_X5_0_0 hC hK hP dX5_pass_34 ?_
        refine lv_bipush (v := (9 : Int32)) hx hb dX5_pass_37 (by decide) ?_
        refine xc_wi (wsz := fun q => (wsX G h q)) (f := fun u => (x_sw z0 u)) (xr_VN hC hK.2 (cX4_passHour_c (h := (sh h 1)) hw) ⟨rfl, rfl⟩ bw_350 calX4_passHour ⟨Nat.le_trans (Nat.le_of_ble_eq_true rfl) hF, Nat.le_trans (Nat.le_of_ble_eq_true rfl) hL⟩ (rest := []) (xpV hK (cut_X_W1) hP hD rfl rfl) rfl hl rfl (Nat.le_of_ble_eq_true rfl) dX5_pass_39 ⟨Nat.zero_le _, Nat.zero_le _⟩) (cut_X_W1) hP hD hS hA (fun r1 u z1 H locs hz1 hw hP hD hS => ?_)
        have hw := hw z1 hz1
        refine lv_pop hx hb dX5_pass_42 rfl ?_
        refine lv_iinc (v := (x2 + (1 : Int32))) (lv' := [(2, .int (x2 + (1 : Int32))), (0, .ref (h 0)), (1, .int x1)]) hx hb dX5_pass_43 hl (k := 2) rfl rfl (by decide) rfl (fun ls hl => ?_)
        refine lv_goto (tgt := 28) hx hb dX5_pass_46 (by decide) ?_
        exact I28 x1 (x2 + (1 : Int32)) z1 _ _ _ hw hP hD hS (lv_sub hl [1, 2, 0] rfl)
  unfold wpX5_pass at hw
  refine lv_iload_n hx hb dX5_pass_0 rfl (lv_at hl 1 rfl) ?_
  refine lv_iconst (v := (1 : Int32)) hx hb dX5_pass_1 (by decide) ?_
  refine lv_bipush (v := (60 : Int32)) hx hb dX5_pass_2 (by decide) ?_
  refine vp_callSi (xro (xr_S hC (cX5_within_c hw) ⟨rfl, rfl⟩ bw_223 calX5_within ⟨Nat.le_trans (Nat.le_of_ble_eq_true rfl) hF, Nat.le_trans (Nat.le_of_ble_eq_true rfl) hL⟩ (rest := []) (xpS hK) rfl hl rfl (Nat.le_of_ble_eq_true rfl) dX5_pass_4 ⟨Nat.zero_le _, Nat.zero_le _⟩)) (fun r1 hw => ?_)
  refine lv_if_ne (tgt := 12) hx hb dX5_pass_7 (by decide) (fun hc => ?_) (fun hc => ?_)
  · have hw := And.left hw hc
    refine lv_aload_n hx hb dX5_pass_12 rfl (lv_at hl 0 rfl) ?_
    refine rg_X_X5_0_0 hC hK hP dX5_pass_13 ?_
    refine lv_iload_n hx hb dX5_pass_16 rfl (lv_at hl 1 rfl) ?_
    refine vp_callSi (xro (xr_VN hC hK.2 (cX4_hasHours_c (h := (sh h 1)) hw) ⟨rfl, rfl⟩ bw_346 calX4_hasHours ⟨Nat.le_trans (Nat.le_of_ble_eq_true rfl) hF, Nat.le_trans (Nat.le_of_ble_eq_true rfl) hL⟩ (rest := []) (xpR hK (xCut.P (cut_X_W1) hP) rfl rfl) rfl hl rfl (Nat.le_of_ble_eq_true rfl) dX5_pass_17 ⟨Nat.zero_le _, Nat.zero_le _⟩)) (fun r2 hw => ?_)
    refine lv_if_ne (tgt := 26) hx hb dX5_pass_20 (by decide) (fun hc => ?_) (fun hc => ?_)
    · have hw := And.left hw hc
      refine lv_iconst (v := (0 : Int32)) hx hb dX5_pass_26 (by decide) ?_
      refine lv_istore_n (lv' := [(2, .int (0 : Int32)), (0, .ref (h 0)), (1, .int x1)]) hx hb dX5_pass_27 rfl hl (by decide) rfl (fun ls hl => ?_)
      obtain ⟨n28, hw⟩ := hw
      exact B28 n28 x1 (0 : Int32) z0 _ _ _ hw hP hD hS (lv_sub hl [1, 2, 0] rfl)
    · have hw := And.right hw hc
      refine lv_bipush (v := (-3 : Int32)) hx hb dX5_pass_23 (by decide) ?_
      exact hret _ _ _ _ _ _ hw hP hD hS dX5_pass_25
  · have hw := And.right hw hc
    refine lv_iconst (v := (-1 : Int32)) hx hb dX5_pass_10 (by decide) ?_
    exact hret _ _ _ _ _ _ hw hP hD hS dX5_pass_11
def wpX5_run (z0 : wXS) (post : Int32 → (wXS) → Prop) : Prop := (wpX4_hasHours (w_i (w_o (x_w z0)) 3) (x_w z0) (fun r1 => ((¬ r1 = 0 → (wpX4_followPlan (x_w z0) (fun r2 u => ∀ z1 : wXS, z1 = (x_sw z0 u) → (post r2 z1)))) ∧ (r1 = 0 → (post (-3 : Int32) z0)))))
set_option maxHeartbeats 4000000 in
set_option maxRecDepth 100000 in
theorem cX5_run_c {l : Launch} {G : wG} {h : Nat → Nat} {sz : Nat}  {post : Int32 → (wXS) → Prop} {z0 : wXS}  (hw : wpX5_run z0 post) : Met l yX5_run (.code yX5_run cX5_run 1 (some .int) :: BIG) { frames := 6, cells := 0, slots := 0, locals := 133 } (xPw G [.ref (h 0)] (wsX G h z0) sz) (xQi G post (fun q => (wsX G h q)) (va_A (wsX G h z0) sz)) 0 0 (va_A (wsX G h z0) sz) := by
  refine xm_wi (by decide) (Nat.le_of_ble_eq_true rfl) (fun p e s m args below meth c A ls R Q hC hK hA hP hD hS hl hF hL hret => ?_)
  have hx := hC.1
  have hb := hC.2.1
  have hl : lv_has ls 1 [(0, .ref (h 0))] := hl
  unfold wpX5_run at hw
  refine lv_aload_n hx hb dX5_run_0 rfl (lv_at hl 0 rfl) ?_
  refine rg_X_X5_0_0 hC hK hP dX5_run_1 ?_
  refine lv_aload_n hx hb dX5_run_4 rfl (lv_at hl 0 rfl) ?_
  refine rg_X_X5_0_0 hC hK hP dX5_run_5 ?_
  refine rg_X_X5_1_3 hC hK hP dX5_run_8 ?_
  refine vp_callSi (xro (xr_VN hC hK.2 (cX4_hasHours_c (h := (sh h 1)) hw) ⟨rfl, rfl⟩ bw_346 calX4_hasHours ⟨Nat.le_trans (Nat.le_of_ble_eq_true rfl) hF, Nat.le_trans (Nat.le_of_ble_eq_true rfl) hL⟩ (rest := []) (xpR hK (xCut.P (cut_X_W1) hP) rfl rfl) rfl hl rfl (Nat.le_of_ble_eq_true rfl) dX5_run_11 ⟨Nat.zero_le _, Nat.zero_le _⟩)) (fun r1 hw => ?_)
  refine lv_if_ne (tgt := 20) hx hb dX5_run_14 (by decide) (fun hc => ?_) (fun hc => ?_)
  · have hw := And.left hw hc
    refine lv_aload_n hx hb dX5_run_20 rfl (lv_at hl 0 rfl) ?_
    refine rg_X_X5_0_0 hC hK hP dX5_run_21 ?_
    refine xc_wi (wsz := fun q => (wsX G h q)) (f := fun u => (x_sw z0 u)) (xr_VN hC hK.2 (cX4_followPlan_c (h := (sh h 1)) hw) ⟨rfl, rfl⟩ bw_407 calX4_followPlan ⟨Nat.le_trans (Nat.le_of_ble_eq_true rfl) hF, Nat.le_trans (Nat.le_of_ble_eq_true rfl) hL⟩ (rest := []) (xpV hK (cut_X_W1) hP hD rfl rfl) rfl hl rfl (Nat.le_of_ble_eq_true rfl) dX5_run_24 ⟨Nat.zero_le _, Nat.zero_le _⟩) (cut_X_W1) hP hD hS hA (fun r2 u z1 H locs hz1 hw hP hD hS => ?_)
    have hw := hw z1 hz1
    exact hret _ _ _ _ _ _ hw hP hD hS dX5_run_27
  · have hw := And.right hw hc
    refine lv_bipush (v := (-3 : Int32)) hx hb dX5_run_17 (by decide) ?_
    exact hret _ _ _ _ _ _ hw hP hD hS dX5_run_19
def wpX5_mostFrom (x1 : Int32) (x2 : Int32) (z0 : wXS) (post : Int32 → (wXS) → Prop) : Prop := (wpX1_observe ((x_s z0), (x_w z0)) (fun u => ∀ z1 : wXS, z1 = (x_sw (x_ss z0 u.1) u.2) → (wpX1_mostIn x2 x1 (x_s z1) (fun r1 u => ∀ z2 : wXS, z2 = (x_ss z1 u) → (post r1 z2)))))
set_option maxHeartbeats 4000000 in
set_option maxRecDepth 100000 in
theorem cX5_mostFrom_c {l : Launch} {G : wG} {h : Nat → Nat} {sz : Nat} {x1 : Int32} {x2 : Int32} {post : Int32 → (wXS) → Prop} {z0 : wXS}  (hw : wpX5_mostFrom x1 x2 z0 post) : Met l yX5_mostFrom (.code yX5_mostFrom cX5_mostFrom 3 (some .int) :: BIG) { frames := 51, cells := 0, slots := 0, locals := 1420 } (xPw G [.ref (h 0), .int x1, .int x2] (wsX G h z0) sz) (xQi G post (fun q => (wsX G h q)) (va_A (wsX G h z0) sz)) 0 0 (va_A (wsX G h z0) sz) := by
  refine xm_wi (by decide) (Nat.le_of_ble_eq_true rfl) (fun p e s m args below meth c A ls R Q hC hK hA hP hD hS hl hF hL hret => ?_)
  have hx := hC.1
  have hb := hC.2.1
  have hl : lv_has ls 3 [(0, .ref (h 0)), (1, .int x1), (2, .int x2)] := hl
  unfold wpX5_mostFrom at hw
  refine lv_aload_n hx hb dX5_mostFrom_0 rfl (lv_at hl 0 rfl) ?_
  refine rg_X_X5_0_6 hC hK hP dX5_mostFrom_1 ?_
  refine lv_aload_n hx hb dX5_mostFrom_4 rfl (lv_at hl 0 rfl) ?_
  refine rg_X_X5_0_0 hC hK hP dX5_mostFrom_5 ?_
  refine xc_wv (wsz := fun q => (wsX G h q)) (f := fun u => (x_sw (x_ss z0 u.1) u.2)) (xr_VN hC hK.2 (cX1_observe_c (h := (sh h 25)) (g := (sh h 1)) hw) ⟨rfl, rfl⟩ bw_420 calX1_observe ⟨Nat.le_trans (Nat.le_of_ble_eq_true rfl) hF, Nat.le_trans (Nat.le_of_ble_eq_true rfl) hL⟩ (rest := []) (xpV hK (cut_X_S25_W1) hP hD rfl rfl) rfl hl rfl (Nat.le_of_ble_eq_true rfl) dX5_mostFrom_8 ⟨Nat.zero_le _, Nat.zero_le _⟩) (cut_X_S25_W1) hP hD hS hA (fun u z1 H locs hz1 hw hP hD hS => ?_)
  have hw := hw z1 hz1
  refine lv_aload_n hx hb dX5_mostFrom_11 rfl (lv_at hl 0 rfl) ?_
  refine rg_X_X5_0_6 hC hK hP dX5_mostFrom_12 ?_
  refine lv_iload_n hx hb dX5_mostFrom_15 rfl (lv_at hl 2 rfl) ?_
  refine lv_iload_n hx hb dX5_mostFrom_16 rfl (lv_at hl 1 rfl) ?_
  refine xc_wi (wsz := fun q => (wsX G h q)) (f := fun u => (x_ss z1 u)) (xr_VN hC hK.2 (cX1_mostIn_c (h := (sh h 25)) hw) ⟨rfl, rfl⟩ bw_426 calX1_mostIn ⟨Nat.le_trans (Nat.le_of_ble_eq_true rfl) hF, Nat.le_trans (Nat.le_of_ble_eq_true rfl) hL⟩ (rest := []) (xpV hK (cut_X_S25) hP hD rfl rfl) rfl hl rfl (Nat.le_of_ble_eq_true rfl) dX5_mostFrom_17 ⟨Nat.zero_le _, Nat.zero_le _⟩) (cut_X_S25) hP hD hS hA (fun r1 u z2 H locs hz1 hw hP hD hS => ?_)
  have hw := hw z2 hz1
  exact hret _ _ _ _ _ _ hw hP hD hS dX5_mostFrom_20
def wpX5_most (x1 : Int32) (z0 : wXS) (post : Int32 → (wXS) → Prop) : Prop := (wpX5_within x1 (1 : Int32) (5 : Int32) (fun r1 => ((r1 = 0 → (post (-1 : Int32) z0)) ∧ (¬ r1 = 0 → (wpX5_mostFrom (w_i (w_o (x_w z0)) 4) x1 z0 (fun r2 u => ∀ z1 : wXS, z1 = u → (post r2 z1)))))))
set_option maxHeartbeats 4000000 in
set_option maxRecDepth 100000 in
theorem cX5_most_c {l : Launch} {G : wG} {h : Nat → Nat} {sz : Nat} {x1 : Int32} {post : Int32 → (wXS) → Prop} {z0 : wXS}  (hw : wpX5_most x1 z0 post) : Met l yX5_most (.code yX5_most cX5_most 2 (some .int) :: BIG) { frames := 52, cells := 0, slots := 0, locals := 1442 } (xPw G [.ref (h 0), .int x1] (wsX G h z0) sz) (xQi G post (fun q => (wsX G h q)) (va_A (wsX G h z0) sz)) 0 0 (va_A (wsX G h z0) sz) := by
  refine xm_wi (by decide) (Nat.le_of_ble_eq_true rfl) (fun p e s m args below meth c A ls R Q hC hK hA hP hD hS hl hF hL hret => ?_)
  have hx := hC.1
  have hb := hC.2.1
  have hl : lv_has ls 2 [(0, .ref (h 0)), (1, .int x1)] := hl
  unfold wpX5_most at hw
  refine lv_iload_n hx hb dX5_most_0 rfl (lv_at hl 1 rfl) ?_
  refine lv_iconst (v := (1 : Int32)) hx hb dX5_most_1 (by decide) ?_
  refine lv_iconst (v := (5 : Int32)) hx hb dX5_most_2 (by decide) ?_
  refine vp_callSi (xro (xr_S hC (cX5_within_c hw) ⟨rfl, rfl⟩ bw_223 calX5_within ⟨Nat.le_trans (Nat.le_of_ble_eq_true rfl) hF, Nat.le_trans (Nat.le_of_ble_eq_true rfl) hL⟩ (rest := []) (xpS hK) rfl hl rfl (Nat.le_of_ble_eq_true rfl) dX5_most_3 ⟨Nat.zero_le _, Nat.zero_le _⟩)) (fun r1 hw => ?_)
  refine lv_if_eq (tgt := 24) hx hb dX5_most_6 (by decide) (fun hc => ?_) (fun hc => ?_)
  · have hw := And.left hw hc
    refine lv_iconst (v := (-1 : Int32)) hx hb dX5_most_24 (by decide) ?_
    exact hret _ _ _ _ _ _ hw hP hD hS dX5_most_25
  · have hw := And.right hw hc
    refine lv_aload_n hx hb dX5_most_9 rfl (lv_at hl 0 rfl) ?_
    refine lv_aload_n hx hb dX5_most_10 rfl (lv_at hl 0 rfl) ?_
    refine rg_X_X5_0_0 hC hK hP dX5_most_11 ?_
    refine rg_X_X5_1_4 hC hK hP dX5_most_14 ?_
    refine lv_iload_n hx hb dX5_most_17 rfl (lv_at hl 1 rfl) ?_
    refine xc_wi (wsz := fun q => (wsX G h q)) (f := fun u => u) (xr_V hC (cX5_mostFrom_c (h := h) hw) ⟨rfl, rfl⟩ bw_416 calX5_mostFrom ⟨Nat.le_trans (Nat.le_of_ble_eq_true rfl) hF, Nat.le_trans (Nat.le_of_ble_eq_true rfl) hL⟩ (rest := []) (xpV hK (cut_all_X) hP hD rfl rfl) rfl hl rfl (Nat.le_of_ble_eq_true rfl) dX5_most_18 ⟨Nat.zero_le _, Nat.zero_le _⟩) (cut_all_X) hP hD hS hA (fun r2 u z1 H locs hz1 hw hP hD hS => ?_)
    have hw := hw z1 hz1
    refine lv_goto (tgt := 25) hx hb dX5_most_21 (by decide) ?_
    exact hret _ _ _ _ _ _ hw hP hD hS dX5_most_25
def wpX5_row (x1 : Int32) (x2 : Int32) (z0 : wXS) (post : Int32 → (wXS) → Prop) : Prop := (wpX5_within x1 (1 : Int32) (5 : Int32) (fun r1 => ((r1 = 0 → (post (-1 : Int32) z0)) ∧ (¬ r1 = 0 → (wpX5_within x2 (0 : Int32) (x1 - (1 : Int32)) (fun r2 => ((¬ r2 = 0 → (wpX5_mostFrom (w_i (w_o (x_w z0)) 4) x1 z0 (fun r3 u => ∀ z1 : wXS, z1 = u → (vp_in x2 5 ∧ (post ((w_a (w_o (x_s z1)) 3) x2.toNatClampNeg) z1))))) ∧ (r2 = 0 → (post (-1 : Int32) z0)))))))))
set_option maxHeartbeats 4000000 in
set_option maxRecDepth 100000 in
theorem cX5_row_c {l : Launch} {G : wG} {h : Nat → Nat} {sz : Nat} {x1 : Int32} {x2 : Int32} {post : Int32 → (wXS) → Prop} {z0 : wXS}  (hw : wpX5_row x1 x2 z0 post) : Met l yX5_row (.code yX5_row cX5_row 3 (some .int) :: BIG) { frames := 52, cells := 0, slots := 0, locals := 1442 } (xPw G [.ref (h 0), .int x1, .int x2] (wsX G h z0) sz) (xQi G post (fun q => (wsX G h q)) (va_A (wsX G h z0) sz)) 0 0 (va_A (wsX G h z0) sz) := by
  refine xm_wi (by decide) (Nat.le_of_ble_eq_true rfl) (fun p e s m args below meth c A ls R Q hC hK hA hP hD hS hl hF hL hret => ?_)
  have hx := hC.1
  have hb := hC.2.1
  have hl : lv_has ls 3 [(0, .ref (h 0)), (1, .int x1), (2, .int x2)] := hl
  unfold wpX5_row at hw
  refine lv_iload_n hx hb dX5_row_0 rfl (lv_at hl 1 rfl) ?_
  refine lv_iconst (v := (1 : Int32)) hx hb dX5_row_1 (by decide) ?_
  refine lv_iconst (v := (5 : Int32)) hx hb dX5_row_2 (by decide) ?_
  refine vp_callSi (xro (xr_S hC (cX5_within_c hw) ⟨rfl, rfl⟩ bw_223 calX5_within ⟨Nat.le_trans (Nat.le_of_ble_eq_true rfl) hF, Nat.le_trans (Nat.le_of_ble_eq_true rfl) hL⟩ (rest := []) (xpS hK) rfl hl rfl (Nat.le_of_ble_eq_true rfl) dX5_row_3 ⟨Nat.zero_le _, Nat.zero_le _⟩)) (fun r1 hw => ?_)
  refine lv_if_eq (tgt := 20) hx hb dX5_row_6 (by decide) (fun hc => ?_) (fun hc => ?_)
  · have hw := And.left hw hc
    refine lv_iconst (v := (-1 : Int32)) hx hb dX5_row_20 (by decide) ?_
    exact hret _ _ _ _ _ _ hw hP hD hS dX5_row_21
  · have hw := And.right hw hc
    refine lv_iload_n hx hb dX5_row_9 rfl (lv_at hl 2 rfl) ?_
    refine lv_iconst (v := (0 : Int32)) hx hb dX5_row_10 (by decide) ?_
    refine lv_iload_n hx hb dX5_row_11 rfl (lv_at hl 1 rfl) ?_
    refine lv_iconst (v := (1 : Int32)) hx hb dX5_row_12 (by decide) ?_
    refine lv_isub hx hb dX5_row_13 ?_
    refine vp_callSi (xro (xr_S hC (cX5_within_c hw) ⟨rfl, rfl⟩ bw_223 calX5_within ⟨Nat.le_trans (Nat.le_of_ble_eq_true rfl) hF, Nat.le_trans (Nat.le_of_ble_eq_true rfl) hL⟩ (rest := []) (xpS hK) rfl hl rfl (Nat.le_of_ble_eq_true rfl) dX5_row_14 ⟨Nat.zero_le _, Nat.zero_le _⟩)) (fun r2 hw => ?_)
    refine lv_if_ne (tgt := 22) hx hb dX5_row_17 (by decide) (fun hc => ?_) (fun hc => ?_)
    · have hw := And.left hw hc
      refine lv_aload_n hx hb dX5_row_22 rfl (lv_at hl 0 rfl) ?_
      refine lv_aload_n hx hb dX5_row_23 rfl (lv_at hl 0 rfl) ?_
      refine rg_X_X5_0_0 hC hK hP dX5_row_24 ?_
      refine rg_X_X5_1_4 hC hK hP dX5_row_27 ?_
      refine lv_iload_n hx hb dX5_row_30 rfl (lv_at hl 1 rfl) ?_
      refine xc_wi (wsz := fun q => (wsX G h q)) (f := fun u => u) (xr_V hC (cX5_mostFrom_c (h := h) hw) ⟨rfl, rfl⟩ bw_416 calX5_mostFrom ⟨Nat.le_trans (Nat.le_of_ble_eq_true rfl) hF, Nat.le_trans (Nat.le_of_ble_eq_true rfl) hL⟩ (rest := []) (xpV hK (cut_all_X) hP hD rfl rfl) rfl hl rfl (Nat.le_of_ble_eq_true rfl) dX5_row_31 ⟨Nat.zero_le _, Nat.zero_le _⟩) (cut_all_X) hP hD hS hA (fun r3 u z1 H locs hz1 hw hP hD hS => ?_)
      have hw := hw z1 hz1
      refine lv_pop hx hb dX5_row_34 rfl ?_
      refine lv_aload_n hx hb dX5_row_35 rfl (lv_at hl 0 rfl) ?_
      refine rg_X_X5_0_6 hC hK hP dX5_row_36 ?_
      refine rg_X_X5_25_3 hC hK hP dX5_row_39 ?_
      refine lv_iload_n hx hb dX5_row_42 rfl (lv_at hl 2 rfl) ?_
      refine rl_X_28 hC hK hP (And.left hw) dX5_row_43 ?_
      have hw := And.right hw
      exact hret _ _ _ _ _ _ hw hP hD hS dX5_row_44
    · have hw := And.right hw hc
      refine lv_iconst (v := (-1 : Int32)) hx hb dX5_row_20 (by decide) ?_
      exact hret _ _ _ _ _ _ hw hP hD hS dX5_row_21
def wpX5_fewest_25 (k25 : Int32 → Int32 → (wXS) → Prop) (post : Int32 → (wXS) → Prop) (x1 : Int32) (x2 : Int32) (z0 : wXS) : Prop := (((5 : Int32) < x2 → (post (-4 : Int32) z0)) ∧ (¬ (5 : Int32) < x2 → (wpX1_mostIn x2 (w_i (w_o (x_w z0)) 4) (x_s z0) (fun r1 u => ∀ z1 : wXS, z1 = (x_ss z0 u) → ((r1 < x1 → (k25 x1 (x2 + (1 : Int32)) z1)) ∧ (¬ r1 < x1 → (post x2 z1)))))))
def wpX5_fewest_L25  (post : Int32 → (wXS) → Prop) : Nat → Int32 → Int32 → (wXS) → Prop
  | 0 => fun _ _ _ => False
  | n + 1 => fun x1 x2 z0 => wpX5_fewest_25  (wpX5_fewest_L25  post n) post x1 x2 z0
def wpX5_fewest (x1 : Int32) (z0 : wXS) (post : Int32 → (wXS) → Prop) : Prop := (wpX5_within x1 (0 : Int32) (99 : Int32) (fun r1 => ((¬ r1 = 0 → (wpX1_observe ((x_s z0), (x_w z0)) (fun u => ∀ z1 : wXS, z1 = (x_sw (x_ss z0 u.1) u.2) → (∃ n, wpX5_fewest_L25  post n x1 (0 : Int32) z1)))) ∧ (r1 = 0 → (post (-1 : Int32) z0)))))
set_option maxHeartbeats 4000000 in
set_option maxRecDepth 100000 in
theorem cX5_fewest_c {l : Launch} {G : wG} {h : Nat → Nat} {sz : Nat} {x1 : Int32} {post : Int32 → (wXS) → Prop} {z0 : wXS}  (hw : wpX5_fewest x1 z0 post) : Met l yX5_fewest (.code yX5_fewest cX5_fewest 3 (some .int) :: BIG) { frames := 51, cells := 0, slots := 0, locals := 1420 } (xPw G [.ref (h 0), .int x1] (wsX G h z0) sz) (xQi G post (fun q => (wsX G h q)) (va_A (wsX G h z0) sz)) 0 0 (va_A (wsX G h z0) sz) := by
  refine xm_wi (by decide) (Nat.le_of_ble_eq_true rfl) (fun p e s m args below meth c A ls R Q hC hK hA hP hD hS hl hF hL hret => ?_)
  have hx := hC.1
  have hb := hC.2.1
  have hl : lv_has ls 3 [(0, .ref (h 0)), (1, .int x1)] := hl
  have B25 : ∀ n : Nat, ∀ (x1 : Int32) (x2 : Int32) (z0 : wXS) (H : Heap) (locs : List Loc) (ls : Array Slot), wpX5_fewest_L25  post n x1 x2 z0 → va_P G.1 vwCl (wsX G h z0) H → va_D A (wsX G h z0) → va_S A s.heap H locs → lv_has ls 3 [(0, .ref (h 0)), (1, .int x1), (2, .int x2)] → W p l e R s m args below meth c H locs 0 0 Q (F0 m 25 ls []) := by
    intro n
    induction n with
    | zero => intro x1 x2 z0 H locs ls hw hP hD hS hl; exact False.elim hw
    | succ n I25 =>
      intro x1 x2 z0 H locs ls hw hP hD hS hl
      have hw : wpX5_fewest_25  (wpX5_fewest_L25  post n) post x1 x2 z0 := hw
      unfold wpX5_fewest_25 at hw
      refine lv_iload_n hx hb dX5_fewest_25 rfl (lv_at hl 2 rfl) ?_
      refine lv_iconst (v := (5 : Int32)) hx hb dX5_fewest_26 (by decide) ?_
      refine lv_icmp_gt (tgt := 57) hx hb dX5_fewest_27 (by decide) (fun hc => ?_) (fun hc => ?_)
      · have hw := And.left hw hc
        refine lv_bipush (v := (-4 : Int32)) hx hb dX5_fewest_57 (by decide) ?_
        exact hret _ _ _ _ _ _ hw hP hD hS dX5_fewest_59
      · have hw := And.right hw hc
        refine lv_aload_n hx hb dX5_fewest_30 rfl (lv_at hl 0 rfl) ?_
        refine rg_X_X5_0_6 hC hK hP dX5_fewest_31 ?_
        refine lv_iload_n hx hb dX5_fewest_34 rfl (lv_at hl 2 rfl) ?_
        refine lv_aload_n hx hb dX5_fewest_35 rfl (lv_at hl 0 rfl) ?_
        refine rg_X_X5_0_0 hC hK hP dX5_fewest_36 ?_
        refine rg_X_X5_1_4 hC hK hP dX5_fewest_39 ?_
        refine xc_wi (wsz := fun q => (wsX G h q)) (f := fun u => (x_ss z0 u)) (xr_VN hC hK.2 (cX1_mostIn_c (h := (sh h 25)) hw) ⟨rfl, rfl⟩ bw_426 calX1_mostIn ⟨Nat.le_trans (Nat.le_of_ble_eq_true rfl) hF, Nat.le_trans (Nat.le_of_ble_eq_true rfl) hL⟩ (rest := []) (xpV hK (cut_X_S25) hP hD rfl rfl) rfl hl rfl (Nat.le_of_ble_eq_true rfl) dX5_fewest_42 ⟨Nat.zero_le _, Nat.zero_le _⟩) (cut_X_S25) hP hD hS hA (fun r1 u z1 H locs hz1 hw hP hD hS => ?_)
        have hw := hw z1 hz1
        refine lv_iload_n hx hb dX5_fewest_45 rfl (lv_at hl 1 rfl) ?_
        refine lv_icmp_lt (tgt := 51) hx hb dX5_fewest_46 (by decide) (fun hc => ?_) (fun hc => ?_)
        · have hw := And.left hw hc
          refine lv_iinc (v := (x2 + (1 : Int32))) (lv' := [(2, .int (x2 + (1 : Int32))), (0, .ref (h 0)), (1, .int x1)]) hx hb dX5_fewest_51 hl (k := 2) rfl rfl (by decide) rfl (fun ls hl => ?_)
          refine lv_goto (tgt := 25) hx hb dX5_fewest_54 (by decide) ?_
          exact I25 x1 (x2 + (1 : Int32)) z1 _ _ _ hw hP hD hS (lv_sub hl [1, 2, 0] rfl)
        · have hw := And.right hw hc
          refine lv_iload_n hx hb dX5_fewest_49 rfl (lv_at hl 2 rfl) ?_
          exact hret _ _ _ _ _ _ hw hP hD hS dX5_fewest_50
  unfold wpX5_fewest at hw
  refine lv_iload_n hx hb dX5_fewest_0 rfl (lv_at hl 1 rfl) ?_
  refine lv_iconst (v := (0 : Int32)) hx hb dX5_fewest_1 (by decide) ?_
  refine lv_bipush (v := (99 : Int32)) hx hb dX5_fewest_2 (by decide) ?_
  refine vp_callSi (xro (xr_S hC (cX5_within_c hw) ⟨rfl, rfl⟩ bw_223 calX5_within ⟨Nat.le_trans (Nat.le_of_ble_eq_true rfl) hF, Nat.le_trans (Nat.le_of_ble_eq_true rfl) hL⟩ (rest := []) (xpS hK) rfl hl rfl (Nat.le_of_ble_eq_true rfl) dX5_fewest_4 ⟨Nat.zero_le _, Nat.zero_le _⟩)) (fun r1 hw => ?_)
  refine lv_if_ne (tgt := 12) hx hb dX5_fewest_7 (by decide) (fun hc => ?_) (fun hc => ?_)
  · have hw := And.left hw hc
    refine lv_aload_n hx hb dX5_fewest_12 rfl (lv_at hl 0 rfl) ?_
    refine rg_X_X5_0_6 hC hK hP dX5_fewest_13 ?_
    refine lv_aload_n hx hb dX5_fewest_16 rfl (lv_at hl 0 rfl) ?_
    refine rg_X_X5_0_0 hC hK hP dX5_fewest_17 ?_
    refine xc_wv (wsz := fun q => (wsX G h q)) (f := fun u => (x_sw (x_ss z0 u.1) u.2)) (xr_VN hC hK.2 (cX1_observe_c (h := (sh h 25)) (g := (sh h 1)) hw) ⟨rfl, rfl⟩ bw_420 calX1_observe ⟨Nat.le_trans (Nat.le_of_ble_eq_true rfl) hF, Nat.le_trans (Nat.le_of_ble_eq_true rfl) hL⟩ (rest := []) (xpV hK (cut_X_S25_W1) hP hD rfl rfl) rfl hl rfl (Nat.le_of_ble_eq_true rfl) dX5_fewest_20 ⟨Nat.zero_le _, Nat.zero_le _⟩) (cut_X_S25_W1) hP hD hS hA (fun u z1 H locs hz1 hw hP hD hS => ?_)
    have hw := hw z1 hz1
    refine lv_iconst (v := (0 : Int32)) hx hb dX5_fewest_23 (by decide) ?_
    refine lv_istore_n (lv' := [(2, .int (0 : Int32)), (0, .ref (h 0)), (1, .int x1)]) hx hb dX5_fewest_24 rfl hl (by decide) rfl (fun ls hl => ?_)
    obtain ⟨n25, hw⟩ := hw
    exact B25 n25 x1 (0 : Int32) z1 _ _ _ hw hP hD hS (lv_sub hl [1, 2, 0] rfl)
  · have hw := And.right hw hc
    refine lv_iconst (v := (-1 : Int32)) hx hb dX5_fewest_10 (by decide) ?_
    exact hret _ _ _ _ _ _ hw hP hD hS dX5_fewest_11
def wpX5_mostInPeace (x1 : Int32) (x2 : Int32) (z0 : wXS) (post : Int32 → (wXS) → Prop) : Prop := (wpX0_makeFoes x1 x2 (0 : Int32) (w_f (x_s z0)) (fun u => ∀ z1 : wXS, z1 = (x_ss z0 (w_sf (x_s z0) u)) → (wpX1_mostIn (4 : Int32) (w_i (w_o (x_w z1)) 4) (x_s z1) (fun r1 u => ∀ z2 : wXS, z2 = (x_ss z1 u) → (wpX0_makeFoes x1 x2 (1 : Int32) (w_f (x_s z2)) (fun u => ∀ z3 : wXS, z3 = (x_ss z2 (w_sf (x_s z2) u)) → (post r1 z3)))))))
set_option maxHeartbeats 4000000 in
set_option maxRecDepth 100000 in
theorem cX5_mostInPeace_c {l : Launch} {G : wG} {h : Nat → Nat} {sz : Nat} {x1 : Int32} {x2 : Int32} {post : Int32 → (wXS) → Prop} {z0 : wXS}  (hw : wpX5_mostInPeace x1 x2 z0 post) : Met l yX5_mostInPeace (.code yX5_mostInPeace cX5_mostInPeace 4 (some .int) :: BIG) { frames := 51, cells := 0, slots := 0, locals := 1420 } (xPw G [.ref (h 0), .int x1, .int x2] (wsX G h z0) sz) (xQi G post (fun q => (wsX G h q)) (va_A (wsX G h z0) sz)) 0 0 (va_A (wsX G h z0) sz) := by
  refine xm_wi (by decide) (Nat.le_of_ble_eq_true rfl) (fun p e s m args below meth c A ls R Q hC hK hA hP hD hS hl hF hL hret => ?_)
  have hx := hC.1
  have hb := hC.2.1
  have hl : lv_has ls 4 [(0, .ref (h 0)), (1, .int x1), (2, .int x2)] := hl
  unfold wpX5_mostInPeace at hw
  refine lv_aload_n hx hb dX5_mostInPeace_0 rfl (lv_at hl 0 rfl) ?_
  refine rg_X_X5_0_6 hC hK hP dX5_mostInPeace_1 ?_
  refine rg_X_X5_25_0 hC hK hP dX5_mostInPeace_4 ?_
  refine lv_iload_n hx hb dX5_mostInPeace_7 rfl (lv_at hl 1 rfl) ?_
  refine lv_iload_n hx hb dX5_mostInPeace_8 rfl (lv_at hl 2 rfl) ?_
  refine lv_iconst (v := (0 : Int32)) hx hb dX5_mostInPeace_9 (by decide) ?_
  refine xc_wv (wsz := fun q => (wsX G h q)) (f := fun u => (x_ss z0 (w_sf (x_s z0) u))) (xr_VN hC hK.2 (cX0_makeFoes_c (h := (sh h 29)) hw) ⟨rfl, rfl⟩ bw_248 calX0_makeFoes ⟨Nat.le_trans (Nat.le_of_ble_eq_true rfl) hF, Nat.le_trans (Nat.le_of_ble_eq_true rfl) hL⟩ (rest := []) (xpV hK (cut_X_F29) hP hD rfl rfl) rfl hl rfl (Nat.le_of_ble_eq_true rfl) dX5_mostInPeace_10 ⟨Nat.zero_le _, Nat.zero_le _⟩) (cut_X_F29) hP hD hS hA (fun u z1 H locs hz1 hw hP hD hS => ?_)
  have hw := hw z1 hz1
  refine lv_aload_n hx hb dX5_mostInPeace_13 rfl (lv_at hl 0 rfl) ?_
  refine rg_X_X5_0_6 hC hK hP dX5_mostInPeace_14 ?_
  refine lv_iconst (v := (4 : Int32)) hx hb dX5_mostInPeace_17 (by decide) ?_
  refine lv_aload_n hx hb dX5_mostInPeace_18 rfl (lv_at hl 0 rfl) ?_
  refine rg_X_X5_0_0 hC hK hP dX5_mostInPeace_19 ?_
  refine rg_X_X5_1_4 hC hK hP dX5_mostInPeace_22 ?_
  refine xc_wi (wsz := fun q => (wsX G h q)) (f := fun u => (x_ss z1 u)) (xr_VN hC hK.2 (cX1_mostIn_c (h := (sh h 25)) hw) ⟨rfl, rfl⟩ bw_426 calX1_mostIn ⟨Nat.le_trans (Nat.le_of_ble_eq_true rfl) hF, Nat.le_trans (Nat.le_of_ble_eq_true rfl) hL⟩ (rest := []) (xpV hK (cut_X_S25) hP hD rfl rfl) rfl hl rfl (Nat.le_of_ble_eq_true rfl) dX5_mostInPeace_25 ⟨Nat.zero_le _, Nat.zero_le _⟩) (cut_X_S25) hP hD hS hA (fun r1 u z2 H locs hz1 hw hP hD hS => ?_)
  have hw := hw z2 hz1
  refine lv_istore_n (lv' := [(3, .int r1), (0, .ref (h 0)), (1, .int x1), (2, .int x2)]) hx hb dX5_mostInPeace_28 rfl hl (by decide) rfl (fun ls hl => ?_)
  refine lv_aload_n hx hb dX5_mostInPeace_29 rfl (lv_at hl 1 rfl) ?_
  refine rg_X_X5_0_6 hC hK hP dX5_mostInPeace_30 ?_
  refine rg_X_X5_25_0 hC hK hP dX5_mostInPeace_33 ?_
  refine lv_iload_n hx hb dX5_mostInPeace_36 rfl (lv_at hl 2 rfl) ?_
  refine lv_iload_n hx hb dX5_mostInPeace_37 rfl (lv_at hl 3 rfl) ?_
  refine lv_iconst (v := (1 : Int32)) hx hb dX5_mostInPeace_38 (by decide) ?_
  refine xc_wv (wsz := fun q => (wsX G h q)) (f := fun u => (x_ss z2 (w_sf (x_s z2) u))) (xr_VN hC hK.2 (cX0_makeFoes_c (h := (sh h 29)) hw) ⟨rfl, rfl⟩ bw_248 calX0_makeFoes ⟨Nat.le_trans (Nat.le_of_ble_eq_true rfl) hF, Nat.le_trans (Nat.le_of_ble_eq_true rfl) hL⟩ (rest := []) (xpV hK (cut_X_F29) hP hD rfl rfl) rfl hl rfl (Nat.le_of_ble_eq_true rfl) dX5_mostInPeace_39 ⟨Nat.zero_le _, Nat.zero_le _⟩) (cut_X_F29) hP hD hS hA (fun u z3 H locs hz1 hw hP hD hS => ?_)
  have hw := hw z3 hz1
  refine lv_iload_n hx hb dX5_mostInPeace_42 rfl (lv_at hl 0 rfl) ?_
  exact hret _ _ _ _ _ _ hw hP hD hS dX5_mostInPeace_43
def wpX5_peace_112 (k32 : Int32 → Int32 → Int32 → (wXS) → Prop) (k51 : Int32 → Int32 → Int32 → Int32 → (wXS) → Prop) (post : Int32 → (wXS) → Prop) (x1 : Int32) (x2 : Int32) (x3 : Int32) (x4 : Int32) (z0 : wXS) : Prop := (k51 x1 x2 x3 (x4 + (1 : Int32)) z0)
def wpX5_peace_93 (k32 : Int32 → Int32 → Int32 → (wXS) → Prop) (k51 : Int32 → Int32 → Int32 → Int32 → (wXS) → Prop) (post : Int32 → (wXS) → Prop) (x1 : Int32) (x2 : Int32) (x3 : Int32) (x4 : Int32) (t0 : Int32) (z0 : wXS) : Prop := ((t0 ≤ x1 → (wpX5_peace_112 k32 k51 post x1 x2 x3 x4 z0)) ∧ (¬ t0 ≤ x1 → (wpX5_peace_112 k32 k51 post t0 (((10 : Int32) * x3) + x4) x3 x4 z0)))
def wpX5_peace_51 (k32 : Int32 → Int32 → Int32 → (wXS) → Prop) (k51 : Int32 → Int32 → Int32 → Int32 → (wXS) → Prop) (post : Int32 → (wXS) → Prop) (x1 : Int32) (x2 : Int32) (x3 : Int32) (x4 : Int32) (z0 : wXS) : Prop := (((w_i (w_f (x_w z0)) 4) ≤ x4 → (k32 x1 x2 (x3 + (1 : Int32)) z0)) ∧ (¬ (w_i (w_f (x_w z0)) 4) ≤ x4 → (wpX0_areFoes x3 x4 (w_f (x_w z0)) (fun r1 => ((r1 = 0 → (wpX5_peace_93 k32 k51 post x1 x2 x3 x4 (0 : Int32) z0)) ∧ (¬ r1 = 0 → (wpX5_mostInPeace x3 x4 z0 (fun r2 u => ∀ z1 : wXS, z1 = u → (wpX5_peace_93 k32 k51 post x1 x2 x3 x4 r2 z1)))))))))
def wpX5_peace_L51 (k32 : Int32 → Int32 → Int32 → (wXS) → Prop) (post : Int32 → (wXS) → Prop) : Nat → Int32 → Int32 → Int32 → Int32 → (wXS) → Prop
  | 0 => fun _ _ _ _ _ => False
  | n + 1 => fun x1 x2 x3 x4 z0 => wpX5_peace_51 k32 (wpX5_peace_L51 k32 post n) post x1 x2 x3 x4 z0
def wpX5_peace_32 (k32 : Int32 → Int32 → Int32 → (wXS) → Prop) (post : Int32 → (wXS) → Prop) (x1 : Int32) (x2 : Int32) (x3 : Int32) (z0 : wXS) : Prop := (((w_i (w_f (x_w z0)) 4) ≤ x3 → (post x2 z0)) ∧ (¬ (w_i (w_f (x_w z0)) 4) ≤ x3 → (∃ n, wpX5_peace_L51 k32 post n x1 x2 x3 (x3 + (1 : Int32)) z0)))
def wpX5_peace_L32  (post : Int32 → (wXS) → Prop) : Nat → Int32 → Int32 → Int32 → (wXS) → Prop
  | 0 => fun _ _ _ _ => False
  | n + 1 => fun x1 x2 x3 z0 => wpX5_peace_32  (wpX5_peace_L32  post n) post x1 x2 x3 z0
def wpX5_peace (z0 : wXS) (post : Int32 → (wXS) → Prop) : Prop := (wpX1_observe ((x_s z0), (x_w z0)) (fun u => ∀ z1 : wXS, z1 = (x_sw (x_ss z0 u.1) u.2) → (wpX1_mostIn (4 : Int32) (w_i (w_o (x_w z1)) 4) (x_s z1) (fun r1 u => ∀ z2 : wXS, z2 = (x_ss z1 u) → (∃ n, wpX5_peace_L32  post n r1 (-4 : Int32) (0 : Int32) z2)))))
set_option maxHeartbeats 4000000 in
set_option maxRecDepth 100000 in
theorem cX5_peace_c {l : Launch} {G : wG} {h : Nat → Nat} {sz : Nat}  {post : Int32 → (wXS) → Prop} {z0 : wXS}  (hw : wpX5_peace z0 post) : Met l yX5_peace (.code yX5_peace cX5_peace 6 (some .int) :: BIG) { frames := 52, cells := 0, slots := 0, locals := 1443 } (xPw G [.ref (h 0)] (wsX G h z0) sz) (xQi G post (fun q => (wsX G h q)) (va_A (wsX G h z0) sz)) 0 0 (va_A (wsX G h z0) sz) := by
  refine xm_wi (by decide) (Nat.le_of_ble_eq_true rfl) (fun p e s m args below meth c A ls R Q hC hK hA hP hD hS hl hF hL hret => ?_)
  have hx := hC.1
  have hb := hC.2.1
  have hl : lv_has ls 6 [(0, .ref (h 0))] := hl
  have B32 : ∀ n : Nat, ∀ (x1 : Int32) (x2 : Int32) (x3 : Int32) (z0 : wXS) (H : Heap) (locs : List Loc) (ls : Array Slot), wpX5_peace_L32  post n x1 x2 x3 z0 → va_P G.1 vwCl (wsX G h z0) H → va_D A (wsX G h z0) → va_S A s.heap H locs → lv_has ls 6 [(0, .ref (h 0)), (1, .int x1), (2, .int x2), (3, .int x3)] → W p l e R s m args below meth c H locs 0 0 Q (F0 m 32 ls []) := by
    intro n
    induction n with
    | zero => intro x1 x2 x3 z0 H locs ls hw hP hD hS hl; exact False.elim hw
    | succ n I32 =>
      have B51 : ∀ n : Nat, ∀ (x1 : Int32) (x2 : Int32) (x3 : Int32) (x4 : Int32) (z0 : wXS) (H : Heap) (locs : List Loc) (ls : Array Slot), wpX5_peace_L51 (wpX5_peace_L32  post n) post n x1 x2 x3 x4 z0 → va_P G.1 vwCl (wsX G h z0) H → va_D A (wsX G h z0) → va_S A s.heap H locs → lv_has ls 6 [(0, .ref (h 0)), (1, .int x1), (2, .int x2), (3, .int x3), (4, .int x4)] → W p l e R s m args below meth c H locs 0 0 Q (F0 m 51 ls []) := by
        intro n
        induction n with
        | zero => intro x1 x2 x3 x4 z0 H locs ls hw hP hD hS hl; exact False.elim hw
        | succ n I51 =>
          have B112 : ∀ (x1 : Int32) (x2 : Int32) (x3 : Int32) (x4 : Int32) (z0 : wXS) (H : Heap) (locs : List Loc) (ls : Array Slot), wpX5_peace_112 (wpX5_peace_L32  post n) (wpX5_peace_L51 (wpX5_peace_L32  post n) post n) post x1 x2 x3 x4 z0 → va_P G.1 vwCl (wsX G h z0) H → va_D A (wsX G h z0) → va_S A s.heap H locs → lv_has ls 6 [(0, .ref (h 0)), (1, .int x1), (2, .int x2), (3, .int x3), (4, .int x4)] → W p l e R s m args below meth c H locs 0 0 Q (F0 m 112 ls []) := by
            intro x1 x2 x3 x4 z0 H locs ls hw hP hD hS hl
            unfold wpX5_peace_112 at hw
            refine lv_iinc (v := (x4 + (1 : Int32))) (lv' := [(4, .int (x4 + (1 : Int32))), (0, .ref (h 0)), (1, .int x1), (2, .int x2), (3, .int x3)]) hx hb dX5_peace_112 hl (k := 4) rfl rfl (by decide) rfl (fun ls hl => ?_)
            refine lv_goto (tgt := 51) hx hb dX5_peace_115 (by decide) ?_
            exact I51 x1 x2 x3 (x4 + (1 : Int32)) z0 _ _ _ hw hP hD hS (lv_sub hl [1, 2, 3, 4, 0] rfl)
          have B93 : ∀ (x1 : Int32) (x2 : Int32) (x3 : Int32) (x4 : Int32) (t0 : Int32) (z0 : wXS) (H : Heap) (locs : List Loc) (ls : Array Slot), wpX5_peace_93 (wpX5_peace_L32  post n) (wpX5_peace_L51 (wpX5_peace_L32  post n) post n) post x1 x2 x3 x4 t0 z0 → va_P G.1 vwCl (wsX G h z0) H → va_D A (wsX G h z0) → va_S A s.heap H locs → lv_has ls 6 [(0, .ref (h 0)), (1, .int x1), (2, .int x2), (3, .int x3), (4, .int x4)] → W p l e R s m args below meth c H locs 0 0 Q (F0 m 93 ls [.int t0]) := by
            intro x1 x2 x3 x4 t0 z0 H locs ls hw hP hD hS hl
            unfold wpX5_peace_93 at hw
            refine lv_istore (lv' := [(5, .int t0), (0, .ref (h 0)), (1, .int x1), (2, .int x2), (3, .int x3), (4, .int x4)]) hx hb dX5_peace_93 hl (by decide) rfl (fun ls hl => ?_)
            refine lv_iload hx hb dX5_peace_95 (lv_at hl 0 rfl) ?_
            refine lv_iload_n hx hb dX5_peace_97 rfl (lv_at hl 2 rfl) ?_
            refine lv_icmp_le (tgt := 112) hx hb dX5_peace_98 (by decide) (fun hc => ?_) (fun hc => ?_)
            · have hw := And.left hw hc
              exact B112 x1 x2 x3 x4 z0 _ _ _ hw hP hD hS (lv_sub hl [1, 2, 3, 4, 5] rfl)
            · have hw := And.right hw hc
              refine lv_iload hx hb dX5_peace_101 (lv_at hl 0 rfl) ?_
              refine lv_istore_n (lv' := [(1, .int t0), (5, .int t0), (0, .ref (h 0)), (2, .int x2), (3, .int x3), (4, .int x4)]) hx hb dX5_peace_103 rfl hl (by decide) rfl (fun ls hl => ?_)
              refine lv_bipush (v := (10 : Int32)) hx hb dX5_peace_104 (by decide) ?_
              refine lv_iload_n hx hb dX5_peace_106 rfl (lv_at hl 4 rfl) ?_
              refine lv_imul hx hb dX5_peace_107 ?_
              refine lv_iload hx hb dX5_peace_108 (lv_at hl 5 rfl) ?_
              refine lv_iadd hx hb dX5_peace_110 ?_
              refine lv_istore_n (lv' := [(2, .int (((10 : Int32) * x3) + x4)), (1, .int t0), (5, .int t0), (0, .ref (h 0)), (3, .int x3), (4, .int x4)]) hx hb dX5_peace_111 rfl hl (by decide) rfl (fun ls hl => ?_)
              exact B112 t0 (((10 : Int32) * x3) + x4) x3 x4 z0 _ _ _ hw hP hD hS (lv_sub hl [3, 1, 0, 4, 5] rfl)
          intro x1 x2 x3 x4 z0 H locs ls hw hP hD hS hl
          have hw : wpX5_peace_51 (wpX5_peace_L32  post n) (wpX5_peace_L51 (wpX5_peace_L32  post n) post n) post x1 x2 x3 x4 z0 := hw
          unfold wpX5_peace_51 at hw
          refine lv_iload hx hb dX5_peace_51 (lv_at hl 4 rfl) ?_
          refine lv_aload_n hx hb dX5_peace_53 rfl (lv_at hl 0 rfl) ?_
          refine rg_X_X5_0_0 hC hK hP dX5_peace_54 ?_
          refine rg_X_X5_1_0 hC hK hP dX5_peace_57 ?_
          refine rg_X_X5_4_4 hC hK hP dX5_peace_60 ?_
          refine lv_icmp_ge (tgt := 118) hx hb dX5_peace_63 (by decide) (fun hc => ?_) (fun hc => ?_)
          · have hw := And.left hw hc
            refine lv_iinc (v := (x3 + (1 : Int32))) (lv' := [(3, .int (x3 + (1 : Int32))), (0, .ref (h 0)), (1, .int x1), (2, .int x2), (4, .int x4)]) hx hb dX5_peace_118 hl (k := 3) rfl rfl (by decide) rfl (fun ls hl => ?_)
            refine lv_goto (tgt := 32) hx hb dX5_peace_121 (by decide) ?_
            exact I32 x1 x2 (x3 + (1 : Int32)) z0 _ _ _ hw hP hD hS (lv_sub hl [1, 2, 3, 0] rfl)
          · have hw := And.right hw hc
            refine lv_aload_n hx hb dX5_peace_66 rfl (lv_at hl 0 rfl) ?_
            refine rg_X_X5_0_0 hC hK hP dX5_peace_67 ?_
            refine rg_X_X5_1_0 hC hK hP dX5_peace_70 ?_
            refine lv_iload_n hx hb dX5_peace_73 rfl (lv_at hl 3 rfl) ?_
            refine lv_iload hx hb dX5_peace_74 (lv_at hl 4 rfl) ?_
            refine vp_callSi (xro (xr_VN hC hK.2 (cX0_areFoes_c (h := (sh h 4)) hw) ⟨rfl, rfl⟩ bw_243 calX0_areFoes ⟨Nat.le_trans (Nat.le_of_ble_eq_true rfl) hF, Nat.le_trans (Nat.le_of_ble_eq_true rfl) hL⟩ (rest := []) (xpR hK (xCut.P (cut_X_F4) hP) rfl rfl) rfl hl rfl (Nat.le_of_ble_eq_true rfl) dX5_peace_76 ⟨Nat.zero_le _, Nat.zero_le _⟩)) (fun r1 hw => ?_)
            refine lv_if_eq (tgt := 92) hx hb dX5_peace_79 (by decide) (fun hc => ?_) (fun hc => ?_)
            · have hw := And.left hw hc
              refine lv_iconst (v := (0 : Int32)) hx hb dX5_peace_92 (by decide) ?_
              exact B93 x1 x2 x3 x4 (0 : Int32) z0 _ _ _ hw hP hD hS (lv_sub hl [0, 1, 2, 3, 4] rfl)
            · have hw := And.right hw hc
              refine lv_aload_n hx hb dX5_peace_82 rfl (lv_at hl 0 rfl) ?_
              refine lv_iload_n hx hb dX5_peace_83 rfl (lv_at hl 3 rfl) ?_
              refine lv_iload hx hb dX5_peace_84 (lv_at hl 4 rfl) ?_
              refine xc_wi (wsz := fun q => (wsX G h q)) (f := fun u => u) (xr_V hC (cX5_mostInPeace_c (h := h) hw) ⟨rfl, rfl⟩ bw_460 calX5_mostInPeace ⟨Nat.le_trans (Nat.le_of_ble_eq_true rfl) hF, Nat.le_trans (Nat.le_of_ble_eq_true rfl) hL⟩ (rest := []) (xpV hK (cut_all_X) hP hD rfl rfl) rfl hl rfl (Nat.le_of_ble_eq_true rfl) dX5_peace_86 ⟨Nat.zero_le _, Nat.zero_le _⟩) (cut_all_X) hP hD hS hA (fun r2 u z1 H locs hz1 hw hP hD hS => ?_)
              have hw := hw z1 hz1
              refine lv_goto (tgt := 93) hx hb dX5_peace_89 (by decide) ?_
              exact B93 x1 x2 x3 x4 r2 z1 _ _ _ hw hP hD hS (lv_sub hl [0, 1, 2, 3, 4] rfl)
      intro x1 x2 x3 z0 H locs ls hw hP hD hS hl
      have hw : wpX5_peace_32  (wpX5_peace_L32  post n) post x1 x2 x3 z0 := hw
      unfold wpX5_peace_32 at hw
      refine lv_iload_n hx hb dX5_peace_32 rfl (lv_at hl 3 rfl) ?_
      refine lv_aload_n hx hb dX5_peace_33 rfl (lv_at hl 0 rfl) ?_
      refine rg_X_X5_0_0 hC hK hP dX5_peace_34 ?_
      refine rg_X_X5_1_0 hC hK hP dX5_peace_37 ?_
      refine rg_X_X5_4_4 hC hK hP dX5_peace_40 ?_
      refine lv_icmp_ge (tgt := 124) hx hb dX5_peace_43 (by decide) (fun hc => ?_) (fun hc => ?_)
      · have hw := And.left hw hc
        refine lv_iload_n hx hb dX5_peace_124 rfl (lv_at hl 2 rfl) ?_
        exact hret _ _ _ _ _ _ hw hP hD hS dX5_peace_125
      · have hw := And.right hw hc
        refine lv_iload_n hx hb dX5_peace_46 rfl (lv_at hl 3 rfl) ?_
        refine lv_iconst (v := (1 : Int32)) hx hb dX5_peace_47 (by decide) ?_
        refine lv_iadd hx hb dX5_peace_48 ?_
        refine lv_istore (lv' := [(4, .int (x3 + (1 : Int32))), (0, .ref (h 0)), (1, .int x1), (2, .int x2), (3, .int x3)]) hx hb dX5_peace_49 hl (by decide) rfl (fun ls hl => ?_)
        obtain ⟨n51, hw⟩ := hw
        exact B51 n51 x1 x2 x3 (x3 + (1 : Int32)) z0 _ _ _ hw hP hD hS (lv_sub hl [1, 2, 3, 4, 0] rfl)
  unfold wpX5_peace at hw
  refine lv_aload_n hx hb dX5_peace_0 rfl (lv_at hl 0 rfl) ?_
  refine rg_X_X5_0_6 hC hK hP dX5_peace_1 ?_
  refine lv_aload_n hx hb dX5_peace_4 rfl (lv_at hl 0 rfl) ?_
  refine rg_X_X5_0_0 hC hK hP dX5_peace_5 ?_
  refine xc_wv (wsz := fun q => (wsX G h q)) (f := fun u => (x_sw (x_ss z0 u.1) u.2)) (xr_VN hC hK.2 (cX1_observe_c (h := (sh h 25)) (g := (sh h 1)) hw) ⟨rfl, rfl⟩ bw_420 calX1_observe ⟨Nat.le_trans (Nat.le_of_ble_eq_true rfl) hF, Nat.le_trans (Nat.le_of_ble_eq_true rfl) hL⟩ (rest := []) (xpV hK (cut_X_S25_W1) hP hD rfl rfl) rfl hl rfl (Nat.le_of_ble_eq_true rfl) dX5_peace_8 ⟨Nat.zero_le _, Nat.zero_le _⟩) (cut_X_S25_W1) hP hD hS hA (fun u z1 H locs hz1 hw hP hD hS => ?_)
  have hw := hw z1 hz1
  refine lv_aload_n hx hb dX5_peace_11 rfl (lv_at hl 0 rfl) ?_
  refine rg_X_X5_0_6 hC hK hP dX5_peace_12 ?_
  refine lv_iconst (v := (4 : Int32)) hx hb dX5_peace_15 (by decide) ?_
  refine lv_aload_n hx hb dX5_peace_16 rfl (lv_at hl 0 rfl) ?_
  refine rg_X_X5_0_0 hC hK hP dX5_peace_17 ?_
  refine rg_X_X5_1_4 hC hK hP dX5_peace_20 ?_
  refine xc_wi (wsz := fun q => (wsX G h q)) (f := fun u => (x_ss z1 u)) (xr_VN hC hK.2 (cX1_mostIn_c (h := (sh h 25)) hw) ⟨rfl, rfl⟩ bw_426 calX1_mostIn ⟨Nat.le_trans (Nat.le_of_ble_eq_true rfl) hF, Nat.le_trans (Nat.le_of_ble_eq_true rfl) hL⟩ (rest := []) (xpV hK (cut_X_S25) hP hD rfl rfl) rfl hl rfl (Nat.le_of_ble_eq_true rfl) dX5_peace_23 ⟨Nat.zero_le _, Nat.zero_le _⟩) (cut_X_S25) hP hD hS hA (fun r1 u z2 H locs hz1 hw hP hD hS => ?_)
  have hw := hw z2 hz1
  refine lv_istore_n (lv' := [(1, .int r1), (0, .ref (h 0))]) hx hb dX5_peace_26 rfl hl (by decide) rfl (fun ls hl => ?_)
  refine lv_bipush (v := (-4 : Int32)) hx hb dX5_peace_27 (by decide) ?_
  refine lv_istore_n (lv' := [(2, .int (-4 : Int32)), (1, .int r1), (0, .ref (h 0))]) hx hb dX5_peace_29 rfl hl (by decide) rfl (fun ls hl => ?_)
  refine lv_iconst (v := (0 : Int32)) hx hb dX5_peace_30 (by decide) ?_
  refine lv_istore_n (lv' := [(3, .int (0 : Int32)), (2, .int (-4 : Int32)), (1, .int r1), (0, .ref (h 0))]) hx hb dX5_peace_31 rfl hl (by decide) rfl (fun ls hl => ?_)
  obtain ⟨n32, hw⟩ := hw
  exact B32 n32 r1 (-4 : Int32) (0 : Int32) z2 _ _ _ hw hP hD hS (lv_sub hl [3, 2, 1, 0] rfl)
def wpX5_gives (x1 : Int32) (x2 : Int32) (z0 : wXS) (post : Int32 → Prop) : Prop := (wpX0_has x1 (w_f (x_w z0)) (fun r1 => ((r1 = 0 → (post (-1 : Int32))) ∧ (¬ r1 = 0 → (wpX5_isMood x2 (fun r2 => ((¬ r2 = 0 → (wpX4_givesAt x1 x2 (x_w z0) (fun r3 => (post r3)))) ∧ (r2 = 0 → (post (-1 : Int32))))))))))
set_option maxHeartbeats 4000000 in
set_option maxRecDepth 100000 in
theorem cX5_gives_c {l : Launch} {G : wG} {h : Nat → Nat} {x1 : Int32} {x2 : Int32} {post : Int32 → Prop} {z0 : wXS}  (hw : wpX5_gives x1 x2 z0 post) : Met l yX5_gives (.code yX5_gives cX5_gives 3 (some .int) :: BIG) { frames := 3, cells := 0, slots := 0, locals := 67 } (xPr G [.ref (h 0), .int x1, .int x2] (wsX G h z0)) (vp_Si post) 0 0 (fun _ => False) := by
  refine xm_ri (by decide) (Nat.le_of_ble_eq_true rfl) (fun p e s m args below meth c ls R Q hC hK hP hl hF hL hret => ?_)
  have hx := hC.1
  have hb := hC.2.1
  have hl : lv_has ls 3 [(0, .ref (h 0)), (1, .int x1), (2, .int x2)] := hl
  unfold wpX5_gives at hw
  refine lv_aload_n hx hb dX5_gives_0 rfl (lv_at hl 0 rfl) ?_
  refine rg_X_X5_0_0 hC hK hP dX5_gives_1 ?_
  refine rg_X_X5_1_0 hC hK hP dX5_gives_4 ?_
  refine lv_iload_n hx hb dX5_gives_7 rfl (lv_at hl 1 rfl) ?_
  refine vp_callSi (xro (xr_VN hC hK.2 (cX0_has_c (h := (sh h 4)) hw) ⟨rfl, rfl⟩ bw_234 calX0_has ⟨Nat.le_trans (Nat.le_of_ble_eq_true rfl) hF, Nat.le_trans (Nat.le_of_ble_eq_true rfl) hL⟩ (rest := []) (xpR hK (xCut.P (cut_X_F4) hP) rfl rfl) rfl hl rfl (Nat.le_of_ble_eq_true rfl) dX5_gives_8 ⟨Nat.zero_le _, Nat.zero_le _⟩)) (fun r1 hw => ?_)
  refine lv_if_eq (tgt := 21) hx hb dX5_gives_11 (by decide) (fun hc => ?_) (fun hc => ?_)
  · have hw := And.left hw hc
    refine lv_iconst (v := (-1 : Int32)) hx hb dX5_gives_21 (by decide) ?_
    exact hret _ _ _ hw dX5_gives_22
  · have hw := And.right hw hc
    refine lv_iload_n hx hb dX5_gives_14 rfl (lv_at hl 2 rfl) ?_
    refine vp_callSi (xro (xr_S hC (cX5_isMood_c hw) ⟨rfl, rfl⟩ bw_256 calX5_isMood ⟨Nat.le_trans (Nat.le_of_ble_eq_true rfl) hF, Nat.le_trans (Nat.le_of_ble_eq_true rfl) hL⟩ (rest := []) (xpS hK) rfl hl rfl (Nat.le_of_ble_eq_true rfl) dX5_gives_15 ⟨Nat.zero_le _, Nat.zero_le _⟩)) (fun r2 hw => ?_)
    refine lv_if_ne (tgt := 23) hx hb dX5_gives_18 (by decide) (fun hc => ?_) (fun hc => ?_)
    · have hw := And.left hw hc
      refine lv_aload_n hx hb dX5_gives_23 rfl (lv_at hl 0 rfl) ?_
      refine rg_X_X5_0_0 hC hK hP dX5_gives_24 ?_
      refine lv_iload_n hx hb dX5_gives_27 rfl (lv_at hl 1 rfl) ?_
      refine lv_iload_n hx hb dX5_gives_28 rfl (lv_at hl 2 rfl) ?_
      refine vp_callSi (xro (xr_VN hC hK.2 (cX4_givesAt_c (h := (sh h 1)) hw) ⟨rfl, rfl⟩ bw_468 calX4_givesAt ⟨Nat.le_trans (Nat.le_of_ble_eq_true rfl) hF, Nat.le_trans (Nat.le_of_ble_eq_true rfl) hL⟩ (rest := []) (xpR hK (xCut.P (cut_X_W1) hP) rfl rfl) rfl hl rfl (Nat.le_of_ble_eq_true rfl) dX5_gives_29 ⟨Nat.zero_le _, Nat.zero_le _⟩)) (fun r3 hw => ?_)
      exact hret _ _ _ hw dX5_gives_32
    · have hw := And.right hw hc
      refine lv_iconst (v := (-1 : Int32)) hx hb dX5_gives_21 (by decide) ?_
      exact hret _ _ _ hw dX5_gives_22
def wpX5_stranger_84 (k38 : Int32 → Int32 → Int32 → Int32 → Int32 → Prop) (z0 : wXS) (post : Int32 → Prop) (x1 : Int32) (x2 : Int32) (x3 : Int32) (x4 : Int32) (x5 : Int32) : Prop := (k38 x1 x2 x3 x4 (x5 + (1 : Int32)))
def wpX5_stranger_38 (k38 : Int32 → Int32 → Int32 → Int32 → Int32 → Prop) (z0 : wXS) (post : Int32 → Prop) (x1 : Int32) (x2 : Int32) (x3 : Int32) (x4 : Int32) (x5 : Int32) : Prop := (((3 : Int32) < x5 → (post x4)) ∧ (¬ (3 : Int32) < x5 → (wpX5_asMood (x1 + x5) (fun r1 => (wpX5_waned r1 (fun r2 => (wpX0_pailsAt x2 r2 (w_f (x_w z0)) (fun r3 => ((¬ r3 = x3 → (wpX5_stranger_84 k38 z0 post x1 x2 x3 x4 x5)) ∧ (r3 = x3 → (wpX5_stranger_84 k38 z0 post x1 x2 x3 (x4 ||| ((1 : Int32) <<< ((x5 + (3 : Int32)) &&& 31))) x5)))))))))))
def wpX5_stranger_L38  (z0 : wXS) (post : Int32 → Prop) : Nat → Int32 → Int32 → Int32 → Int32 → Int32 → Prop
  | 0 => fun _ _ _ _ _ => False
  | n + 1 => fun x1 x2 x3 x4 x5 => wpX5_stranger_38  (wpX5_stranger_L38  z0 post n) z0 post x1 x2 x3 x4 x5
def wpX5_stranger (x1 : Int32) (x2 : Int32) (x3 : Int32) (z0 : wXS) (post : Int32 → Prop) : Prop := (wpX5_isMood x1 (fun r1 => ((r1 = 0 → (post (-1 : Int32))) ∧ (¬ r1 = 0 → (wpX0_has x2 (w_f (x_w z0)) (fun r2 => ((r2 = 0 → (post (-1 : Int32))) ∧ (¬ r2 = 0 → (wpX5_isPails (x3.toInt64) (fun r3 => ((¬ r3 = 0 → (∃ n, wpX5_stranger_L38  z0 post n x1 x2 x3 (0 : Int32) (-3 : Int32))) ∧ (r3 = 0 → (post (-1 : Int32))))))))))))))
set_option maxHeartbeats 4000000 in
set_option maxRecDepth 100000 in
theorem cX5_stranger_c {l : Launch} {G : wG} {h : Nat → Nat} {x1 : Int32} {x2 : Int32} {x3 : Int32} {post : Int32 → Prop} {z0 : wXS}  (hw : wpX5_stranger x1 x2 x3 z0 post) : Met l yX5_stranger (.code yX5_stranger cX5_stranger 7 (some .int) :: BIG) { frames := 2, cells := 0, slots := 0, locals := 44 } (xPr G [.ref (h 0), .int x1, .int x2, .int x3] (wsX G h z0)) (vp_Si post) 0 0 (fun _ => False) := by
  refine xm_ri (by decide) (Nat.le_of_ble_eq_true rfl) (fun p e s m args below meth c ls R Q hC hK hP hl hF hL hret => ?_)
  have hx := hC.1
  have hb := hC.2.1
  have hl : lv_has ls 7 [(0, .ref (h 0)), (1, .int x1), (2, .int x2), (3, .int x3)] := hl
  have B38 : ∀ n : Nat, ∀ (x1 : Int32) (x2 : Int32) (x3 : Int32) (x4 : Int32) (x5 : Int32) (ls : Array Slot), wpX5_stranger_L38  z0 post n x1 x2 x3 x4 x5 → lv_has ls 7 [(0, .ref (h 0)), (1, .int x1), (2, .int x2), (3, .int x3), (4, .int x4), (5, .int x5)] → W p l e R s m args below meth c s.heap [] 0 0 Q (F0 m 38 ls []) := by
    intro n
    induction n with
    | zero => intro x1 x2 x3 x4 x5 ls hw hl; exact False.elim hw
    | succ n I38 =>
      have B84 : ∀ (x1 : Int32) (x2 : Int32) (x3 : Int32) (x4 : Int32) (x5 : Int32) (ls : Array Slot), wpX5_stranger_84 (wpX5_stranger_L38  z0 post n) z0 post x1 x2 x3 x4 x5 → lv_has ls 7 [(0, .ref (h 0)), (1, .int x1), (2, .int x2), (3, .int x3), (4, .int x4), (5, .int x5)] → W p l e R s m args below meth c s.heap [] 0 0 Q (F0 m 84 ls []) := by
        intro x1 x2 x3 x4 x5 ls hw hl
        unfold wpX5_stranger_84 at hw
        refine lv_iinc (v := (x5 + (1 : Int32))) (lv' := [(5, .int (x5 + (1 : Int32))), (0, .ref (h 0)), (1, .int x1), (2, .int x2), (3, .int x3), (4, .int x4)]) hx hb dX5_stranger_84 hl (k := 5) rfl rfl (by decide) rfl (fun ls hl => ?_)
        refine lv_goto (tgt := 38) hx hb dX5_stranger_87 (by decide) ?_
        exact I38 x1 x2 x3 x4 (x5 + (1 : Int32)) _ hw (lv_sub hl [1, 2, 3, 4, 5, 0] rfl)
      intro x1 x2 x3 x4 x5 ls hw hl
      have hw : wpX5_stranger_38  (wpX5_stranger_L38  z0 post n) z0 post x1 x2 x3 x4 x5 := hw
      unfold wpX5_stranger_38 at hw
      refine lv_iload hx hb dX5_stranger_38 (lv_at hl 5 rfl) ?_
      refine lv_iconst (v := (3 : Int32)) hx hb dX5_stranger_40 (by decide) ?_
      refine lv_icmp_gt (tgt := 90) hx hb dX5_stranger_41 (by decide) (fun hc => ?_) (fun hc => ?_)
      · have hw := And.left hw hc
        refine lv_iload hx hb dX5_stranger_90 (lv_at hl 4 rfl) ?_
        exact hret _ _ _ hw dX5_stranger_92
      · have hw := And.right hw hc
        refine lv_iload_n hx hb dX5_stranger_44 rfl (lv_at hl 1 rfl) ?_
        refine lv_iload hx hb dX5_stranger_45 (lv_at hl 5 rfl) ?_
        refine lv_iadd hx hb dX5_stranger_47 ?_
        refine vp_callSi (xro (xr_S hC (cX5_asMood_c hw) ⟨rfl, rfl⟩ bw_481 calX5_asMood ⟨Nat.le_trans (Nat.le_of_ble_eq_true rfl) hF, Nat.le_trans (Nat.le_of_ble_eq_true rfl) hL⟩ (rest := []) (xpS hK) rfl hl rfl (Nat.le_of_ble_eq_true rfl) dX5_stranger_48 ⟨Nat.zero_le _, Nat.zero_le _⟩)) (fun r1 hw => ?_)
        refine vp_callSi (xro (xr_S hC (cX5_waned_c hw) ⟨rfl, rfl⟩ bw_482 calX5_waned ⟨Nat.le_trans (Nat.le_of_ble_eq_true rfl) hF, Nat.le_trans (Nat.le_of_ble_eq_true rfl) hL⟩ (rest := []) (xpS hK) rfl hl rfl (Nat.le_of_ble_eq_true rfl) dX5_stranger_51 ⟨Nat.zero_le _, Nat.zero_le _⟩)) (fun r2 hw => ?_)
        refine lv_istore (lv' := [(6, .int r2), (0, .ref (h 0)), (1, .int x1), (2, .int x2), (3, .int x3), (4, .int x4), (5, .int x5)]) hx hb dX5_stranger_54 hl (by decide) rfl (fun ls hl => ?_)
        refine lv_aload_n hx hb dX5_stranger_56 rfl (lv_at hl 1 rfl) ?_
        refine rg_X_X5_0_0 hC hK hP dX5_stranger_57 ?_
        refine rg_X_X5_1_0 hC hK hP dX5_stranger_60 ?_
        refine lv_iload_n hx hb dX5_stranger_63 rfl (lv_at hl 3 rfl) ?_
        refine lv_iload hx hb dX5_stranger_64 (lv_at hl 0 rfl) ?_
        refine vp_callSi (xro (xr_VN hC hK.2 (cX0_pailsAt_c (h := (sh h 4)) hw) ⟨rfl, rfl⟩ bw_483 calX0_pailsAt ⟨Nat.le_trans (Nat.le_of_ble_eq_true rfl) hF, Nat.le_trans (Nat.le_of_ble_eq_true rfl) hL⟩ (rest := []) (xpR hK (xCut.P (cut_X_F4) hP) rfl rfl) rfl hl rfl (Nat.le_of_ble_eq_true rfl) dX5_stranger_66 ⟨Nat.zero_le _, Nat.zero_le _⟩)) (fun r3 hw => ?_)
        refine lv_iload_n hx hb dX5_stranger_69 rfl (lv_at hl 4 rfl) ?_
        refine lv_icmp_ne (tgt := 84) hx hb dX5_stranger_70 (by decide) (fun hc => ?_) (fun hc => ?_)
        · have hw := And.left hw hc
          exact B84 x1 x2 x3 x4 x5 _ hw (lv_sub hl [1, 2, 3, 4, 5, 6] rfl)
        · have hw := And.right hw hc
          refine lv_iload hx hb dX5_stranger_73 (lv_at hl 5 rfl) ?_
          refine lv_iconst (v := (1 : Int32)) hx hb dX5_stranger_75 (by decide) ?_
          refine lv_iload hx hb dX5_stranger_76 (lv_at hl 6 rfl) ?_
          refine lv_iconst (v := (3 : Int32)) hx hb dX5_stranger_78 (by decide) ?_
          refine lv_iadd hx hb dX5_stranger_79 ?_
          refine lv_ishl hx hb dX5_stranger_80 ?_
          refine lv_ior hx hb dX5_stranger_81 ?_
          refine lv_istore (lv' := [(4, .int (x4 ||| ((1 : Int32) <<< ((x5 + (3 : Int32)) &&& 31)))), (6, .int r2), (0, .ref (h 0)), (1, .int x1), (2, .int x2), (3, .int x3), (5, .int x5)]) hx hb dX5_stranger_82 hl (by decide) rfl (fun ls hl => ?_)
          exact B84 x1 x2 x3 (x4 ||| ((1 : Int32) <<< ((x5 + (3 : Int32)) &&& 31))) x5 _ hw (lv_sub hl [2, 3, 4, 5, 0, 6] rfl)
  unfold wpX5_stranger at hw
  refine lv_iload_n hx hb dX5_stranger_0 rfl (lv_at hl 1 rfl) ?_
  refine vp_callSi (xro (xr_S hC (cX5_isMood_c hw) ⟨rfl, rfl⟩ bw_256 calX5_isMood ⟨Nat.le_trans (Nat.le_of_ble_eq_true rfl) hF, Nat.le_trans (Nat.le_of_ble_eq_true rfl) hL⟩ (rest := []) (xpS hK) rfl hl rfl (Nat.le_of_ble_eq_true rfl) dX5_stranger_1 ⟨Nat.zero_le _, Nat.zero_le _⟩)) (fun r1 hw => ?_)
  refine lv_if_eq (tgt := 29) hx hb dX5_stranger_4 (by decide) (fun hc => ?_) (fun hc => ?_)
  · have hw := And.left hw hc
    refine lv_iconst (v := (-1 : Int32)) hx hb dX5_stranger_29 (by decide) ?_
    exact hret _ _ _ hw dX5_stranger_30
  · have hw := And.right hw hc
    refine lv_aload_n hx hb dX5_stranger_7 rfl (lv_at hl 0 rfl) ?_
    refine rg_X_X5_0_0 hC hK hP dX5_stranger_8 ?_
    refine rg_X_X5_1_0 hC hK hP dX5_stranger_11 ?_
    refine lv_iload_n hx hb dX5_stranger_14 rfl (lv_at hl 2 rfl) ?_
    refine vp_callSi (xro (xr_VN hC hK.2 (cX0_has_c (h := (sh h 4)) hw) ⟨rfl, rfl⟩ bw_234 calX0_has ⟨Nat.le_trans (Nat.le_of_ble_eq_true rfl) hF, Nat.le_trans (Nat.le_of_ble_eq_true rfl) hL⟩ (rest := []) (xpR hK (xCut.P (cut_X_F4) hP) rfl rfl) rfl hl rfl (Nat.le_of_ble_eq_true rfl) dX5_stranger_15 ⟨Nat.zero_le _, Nat.zero_le _⟩)) (fun r2 hw => ?_)
    refine lv_if_eq (tgt := 29) hx hb dX5_stranger_18 (by decide) (fun hc => ?_) (fun hc => ?_)
    · have hw := And.left hw hc
      refine lv_iconst (v := (-1 : Int32)) hx hb dX5_stranger_29 (by decide) ?_
      exact hret _ _ _ hw dX5_stranger_30
    · have hw := And.right hw hc
      refine lv_iload_n hx hb dX5_stranger_21 rfl (lv_at hl 3 rfl) ?_
      refine lv_i2l (v := (x3.toInt64)) hx hb dX5_stranger_22 rfl ?_
      refine vp_callSi (xro (xr_S hC (cX5_isPails_c hw) ⟨rfl, rfl⟩ bw_477 calX5_isPails ⟨Nat.le_trans (Nat.le_of_ble_eq_true rfl) hF, Nat.le_trans (Nat.le_of_ble_eq_true rfl) hL⟩ (rest := []) (xpS hK) rfl hl rfl (Nat.le_of_ble_eq_true rfl) dX5_stranger_23 ⟨Nat.zero_le _, Nat.zero_le _⟩)) (fun r3 hw => ?_)
      refine lv_if_ne (tgt := 31) hx hb dX5_stranger_26 (by decide) (fun hc => ?_) (fun hc => ?_)
      · have hw := And.left hw hc
        refine lv_iconst (v := (0 : Int32)) hx hb dX5_stranger_31 (by decide) ?_
        refine lv_istore (lv' := [(4, .int (0 : Int32)), (0, .ref (h 0)), (1, .int x1), (2, .int x2), (3, .int x3)]) hx hb dX5_stranger_32 hl (by decide) rfl (fun ls hl => ?_)
        refine lv_bipush (v := (-3 : Int32)) hx hb dX5_stranger_34 (by decide) ?_
        refine lv_istore (lv' := [(5, .int (-3 : Int32)), (4, .int (0 : Int32)), (0, .ref (h 0)), (1, .int x1), (2, .int x2), (3, .int x3)]) hx hb dX5_stranger_36 hl (by decide) rfl (fun ls hl => ?_)
        obtain ⟨n38, hw⟩ := hw
        exact B38 n38 x1 x2 x3 (0 : Int32) (-3 : Int32) _ hw (lv_sub hl [2, 3, 4, 5, 1, 0] rfl)
      · have hw := And.right hw hc
        refine lv_iconst (v := (-1 : Int32)) hx hb dX5_stranger_29 (by decide) ?_
        exact hret _ _ _ hw dX5_stranger_30
def wpX5_isTale (x1 : Int32) (x2 : Int32) (x3 : Int32) (z0 : wXS) (post : Int32 → Prop) : Prop := (wpX0_has x1 (w_f (x_w z0)) (fun r1 => ((r1 = 0 → (post (0 : Int32))) ∧ (¬ r1 = 0 → (wpX5_isMood x2 (fun r2 => ((r2 = 0 → (post (0 : Int32))) ∧ (¬ r2 = 0 → (wpX5_isPails (x3.toInt64) (fun r3 => ((r3 = 0 → (post (0 : Int32))) ∧ (¬ r3 = 0 → (post (1 : Int32))))))))))))))
set_option maxHeartbeats 4000000 in
set_option maxRecDepth 100000 in
theorem cX5_isTale_c {l : Launch} {G : wG} {h : Nat → Nat} {x1 : Int32} {x2 : Int32} {x3 : Int32} {post : Int32 → Prop} {z0 : wXS}  (hw : wpX5_isTale x1 x2 x3 z0 post) : Met l yX5_isTale (.code yX5_isTale cX5_isTale 4 (some .boolean) :: BIG) { frames := 2, cells := 0, slots := 0, locals := 42 } (xPr G [.ref (h 0), .int x1, .int x2, .int x3] (wsX G h z0)) (vp_Si post) 0 0 (fun _ => False) := by
  refine xm_rz (by decide) (Nat.le_of_ble_eq_true rfl) (fun p e s m args below meth c ls R Q hC hK hP hl hF hL hret => ?_)
  have hx := hC.1
  have hb := hC.2.1
  have hl : lv_has ls 4 [(0, .ref (h 0)), (1, .int x1), (2, .int x2), (3, .int x3)] := hl
  unfold wpX5_isTale at hw
  refine lv_aload_n hx hb dX5_isTale_0 rfl (lv_at hl 0 rfl) ?_
  refine rg_X_X5_0_0 hC hK hP dX5_isTale_1 ?_
  refine rg_X_X5_1_0 hC hK hP dX5_isTale_4 ?_
  refine lv_iload_n hx hb dX5_isTale_7 rfl (lv_at hl 1 rfl) ?_
  refine vp_callSi (xro (xr_VN hC hK.2 (cX0_has_c (h := (sh h 4)) hw) ⟨rfl, rfl⟩ bw_234 calX0_has ⟨Nat.le_trans (Nat.le_of_ble_eq_true rfl) hF, Nat.le_trans (Nat.le_of_ble_eq_true rfl) hL⟩ (rest := []) (xpR hK (xCut.P (cut_X_F4) hP) rfl rfl) rfl hl rfl (Nat.le_of_ble_eq_true rfl) dX5_isTale_8 ⟨Nat.zero_le _, Nat.zero_le _⟩)) (fun r1 hw => ?_)
  refine lv_if_eq (tgt := 33) hx hb dX5_isTale_11 (by decide) (fun hc => ?_) (fun hc => ?_)
  · have hw := And.left hw hc
    refine lv_iconst (v := (0 : Int32)) hx hb dX5_isTale_33 (by decide) ?_
    exact hret _ _ _ rfl hw dX5_isTale_34
  · have hw := And.right hw hc
    refine lv_iload_n hx hb dX5_isTale_14 rfl (lv_at hl 2 rfl) ?_
    refine vp_callSi (xro (xr_S hC (cX5_isMood_c hw) ⟨rfl, rfl⟩ bw_256 calX5_isMood ⟨Nat.le_trans (Nat.le_of_ble_eq_true rfl) hF, Nat.le_trans (Nat.le_of_ble_eq_true rfl) hL⟩ (rest := []) (xpS hK) rfl hl rfl (Nat.le_of_ble_eq_true rfl) dX5_isTale_15 ⟨Nat.zero_le _, Nat.zero_le _⟩)) (fun r2 hw => ?_)
    refine lv_if_eq (tgt := 33) hx hb dX5_isTale_18 (by decide) (fun hc => ?_) (fun hc => ?_)
    · have hw := And.left hw hc
      refine lv_iconst (v := (0 : Int32)) hx hb dX5_isTale_33 (by decide) ?_
      exact hret _ _ _ rfl hw dX5_isTale_34
    · have hw := And.right hw hc
      refine lv_iload_n hx hb dX5_isTale_21 rfl (lv_at hl 3 rfl) ?_
      refine lv_i2l (v := (x3.toInt64)) hx hb dX5_isTale_22 rfl ?_
      refine vp_callSi (xro (xr_S hC (cX5_isPails_c hw) ⟨rfl, rfl⟩ bw_477 calX5_isPails ⟨Nat.le_trans (Nat.le_of_ble_eq_true rfl) hF, Nat.le_trans (Nat.le_of_ble_eq_true rfl) hL⟩ (rest := []) (xpS hK) rfl hl rfl (Nat.le_of_ble_eq_true rfl) dX5_isTale_23 ⟨Nat.zero_le _, Nat.zero_le _⟩)) (fun r3 hw => ?_)
      refine lv_if_eq (tgt := 33) hx hb dX5_isTale_26 (by decide) (fun hc => ?_) (fun hc => ?_)
      · have hw := And.left hw hc
        refine lv_iconst (v := (0 : Int32)) hx hb dX5_isTale_33 (by decide) ?_
        exact hret _ _ _ rfl hw dX5_isTale_34
      · have hw := And.right hw hc
        refine lv_iconst (v := (1 : Int32)) hx hb dX5_isTale_29 (by decide) ?_
        refine lv_goto (tgt := 34) hx hb dX5_isTale_30 (by decide) ?_
        exact hret _ _ _ rfl hw dX5_isTale_34
def wpX5_liar_78  (z0 : wXS) (post : Int32 → Prop) (x7 : Int32) (t0 : Int32) : Prop := (post (x7 ||| t0))
def wpX5_liar_52  (z0 : wXS) (post : Int32 → Prop) (x4 : Int32) (x5 : Int32) (x6 : Int32) (t0 : Int32) : Prop := (wpX0_pailsAt x4 x5 (w_f (x_w z0)) (fun r1 => ((¬ r1 = x6 → (wpX5_liar_78  z0 post t0 (2 : Int32))) ∧ (r1 = x6 → (wpX5_liar_78  z0 post t0 (0 : Int32))))))
def wpX5_liar (x1 : Int32) (x2 : Int32) (x3 : Int32) (x4 : Int32) (x5 : Int32) (x6 : Int32) (z0 : wXS) (post : Int32 → Prop) : Prop := (wpX5_isTale x1 x2 x3 z0 (fun r1 => ((r1 = 0 → (post (-1 : Int32))) ∧ (¬ r1 = 0 → (wpX5_isTale x4 x5 x6 z0 (fun r2 => ((r2 = 0 → (post (-1 : Int32))) ∧ (¬ r2 = 0 → ((¬ x1 = x4 → (wpX0_pailsAt x1 x2 (w_f (x_w z0)) (fun r3 => ((¬ r3 = x3 → (wpX5_liar_52  z0 post x4 x5 x6 (1 : Int32))) ∧ (r3 = x3 → (wpX5_liar_52  z0 post x4 x5 x6 (0 : Int32))))))) ∧ (x1 = x4 → (post (-1 : Int32))))))))))))
set_option maxHeartbeats 4000000 in
set_option maxRecDepth 100000 in
theorem cX5_liar_c {l : Launch} {G : wG} {h : Nat → Nat} {x1 : Int32} {x2 : Int32} {x3 : Int32} {x4 : Int32} {x5 : Int32} {x6 : Int32} {post : Int32 → Prop} {z0 : wXS}  (hw : wpX5_liar x1 x2 x3 x4 x5 x6 z0 post) : Met l yX5_liar (.code yX5_liar cX5_liar 9 (some .int) :: BIG) { frames := 3, cells := 0, slots := 0, locals := 65 } (xPr G [.ref (h 0), .int x1, .int x2, .int x3, .int x4, .int x5, .int x6] (wsX G h z0)) (vp_Si post) 0 0 (fun _ => False) := by
  refine xm_ri (by decide) (Nat.le_of_ble_eq_true rfl) (fun p e s m args below meth c ls R Q hC hK hP hl hF hL hret => ?_)
  have hx := hC.1
  have hb := hC.2.1
  have hl : lv_has ls 9 [(0, .ref (h 0)), (1, .int x1), (2, .int x2), (3, .int x3), (4, .int x4), (5, .int x5), (6, .int x6)] := hl
  have B78 : ∀ (x7 : Int32) (t0 : Int32) (ls : Array Slot), wpX5_liar_78  z0 post x7 t0 → lv_has ls 9 [(7, .int x7)] → W p l e R s m args below meth c s.heap [] 0 0 Q (F0 m 78 ls [.int t0]) := by
    intro x7 t0 ls hw hl
    unfold wpX5_liar_78 at hw
    refine lv_istore (lv' := [(8, .int t0), (7, .int x7)]) hx hb dX5_liar_78 hl (by decide) rfl (fun ls hl => ?_)
    refine lv_iload hx hb dX5_liar_80 (lv_at hl 1 rfl) ?_
    refine lv_iload hx hb dX5_liar_82 (lv_at hl 0 rfl) ?_
    refine lv_ior hx hb dX5_liar_84 ?_
    exact hret _ _ _ hw dX5_liar_85
  have B52 : ∀ (x4 : Int32) (x5 : Int32) (x6 : Int32) (t0 : Int32) (ls : Array Slot), wpX5_liar_52  z0 post x4 x5 x6 t0 → lv_has ls 9 [(0, .ref (h 0)), (4, .int x4), (5, .int x5), (6, .int x6)] → W p l e R s m args below meth c s.heap [] 0 0 Q (F0 m 52 ls [.int t0]) := by
    intro x4 x5 x6 t0 ls hw hl
    unfold wpX5_liar_52 at hw
    refine lv_istore (lv' := [(7, .int t0), (0, .ref (h 0)), (4, .int x4), (5, .int x5), (6, .int x6)]) hx hb dX5_liar_52 hl (by decide) rfl (fun ls hl => ?_)
    refine lv_aload_n hx hb dX5_liar_54 rfl (lv_at hl 1 rfl) ?_
    refine rg_X_X5_0_0 hC hK hP dX5_liar_55 ?_
    refine rg_X_X5_1_0 hC hK hP dX5_liar_58 ?_
    refine lv_iload hx hb dX5_liar_61 (lv_at hl 2 rfl) ?_
    refine lv_iload hx hb dX5_liar_63 (lv_at hl 3 rfl) ?_
    refine vp_callSi (xro (xr_VN hC hK.2 (cX0_pailsAt_c (h := (sh h 4)) hw) ⟨rfl, rfl⟩ bw_483 calX0_pailsAt ⟨Nat.le_trans (Nat.le_of_ble_eq_true rfl) hF, Nat.le_trans (Nat.le_of_ble_eq_true rfl) hL⟩ (rest := []) (xpR hK (xCut.P (cut_X_F4) hP) rfl rfl) rfl hl rfl (Nat.le_of_ble_eq_true rfl) dX5_liar_65 ⟨Nat.zero_le _, Nat.zero_le _⟩)) (fun r1 hw => ?_)
    refine lv_iload hx hb dX5_liar_68 (lv_at hl 4 rfl) ?_
    refine lv_icmp_ne (tgt := 77) hx hb dX5_liar_70 (by decide) (fun hc => ?_) (fun hc => ?_)
    · have hw := And.left hw hc
      refine lv_iconst (v := (2 : Int32)) hx hb dX5_liar_77 (by decide) ?_
      exact B78 t0 (2 : Int32) _ hw (lv_sub hl [0] rfl)
    · have hw := And.right hw hc
      refine lv_iconst (v := (0 : Int32)) hx hb dX5_liar_73 (by decide) ?_
      refine lv_goto (tgt := 78) hx hb dX5_liar_74 (by decide) ?_
      exact B78 t0 (0 : Int32) _ hw (lv_sub hl [0] rfl)
  unfold wpX5_liar at hw
  refine lv_aload_n hx hb dX5_liar_0 rfl (lv_at hl 0 rfl) ?_
  refine lv_iload_n hx hb dX5_liar_1 rfl (lv_at hl 1 rfl) ?_
  refine lv_iload_n hx hb dX5_liar_2 rfl (lv_at hl 2 rfl) ?_
  refine lv_iload_n hx hb dX5_liar_3 rfl (lv_at hl 3 rfl) ?_
  refine vp_callSi (xro (xr_V hC (cX5_isTale_c (h := h) hw) ⟨rfl, rfl⟩ bw_488 calX5_isTale ⟨Nat.le_trans (Nat.le_of_ble_eq_true rfl) hF, Nat.le_trans (Nat.le_of_ble_eq_true rfl) hL⟩ (rest := []) (xpR hK hP rfl rfl) rfl hl rfl (Nat.le_of_ble_eq_true rfl) dX5_liar_4 ⟨Nat.zero_le _, Nat.zero_le _⟩)) (fun r1 hw => ?_)
  refine lv_if_eq (tgt := 29) hx hb dX5_liar_7 (by decide) (fun hc => ?_) (fun hc => ?_)
  · have hw := And.left hw hc
    refine lv_iconst (v := (-1 : Int32)) hx hb dX5_liar_29 (by decide) ?_
    exact hret _ _ _ hw dX5_liar_30
  · have hw := And.right hw hc
    refine lv_aload_n hx hb dX5_liar_10 rfl (lv_at hl 0 rfl) ?_
    refine lv_iload hx hb dX5_liar_11 (lv_at hl 4 rfl) ?_
    refine lv_iload hx hb dX5_liar_13 (lv_at hl 5 rfl) ?_
    refine lv_iload hx hb dX5_liar_15 (lv_at hl 6 rfl) ?_
    refine vp_callSi (xro (xr_V hC (cX5_isTale_c (h := h) hw) ⟨rfl, rfl⟩ bw_488 calX5_isTale ⟨Nat.le_trans (Nat.le_of_ble_eq_true rfl) hF, Nat.le_trans (Nat.le_of_ble_eq_true rfl) hL⟩ (rest := []) (xpR hK hP rfl rfl) rfl hl rfl (Nat.le_of_ble_eq_true rfl) dX5_liar_17 ⟨Nat.zero_le _, Nat.zero_le _⟩)) (fun r2 hw => ?_)
    refine lv_if_eq (tgt := 29) hx hb dX5_liar_20 (by decide) (fun hc => ?_) (fun hc => ?_)
    · have hw := And.left hw hc
      refine lv_iconst (v := (-1 : Int32)) hx hb dX5_liar_29 (by decide) ?_
      exact hret _ _ _ hw dX5_liar_30
    · have hw := And.right hw hc
      refine lv_iload_n hx hb dX5_liar_23 rfl (lv_at hl 1 rfl) ?_
      refine lv_iload hx hb dX5_liar_24 (lv_at hl 4 rfl) ?_
      refine lv_icmp_ne (tgt := 31) hx hb dX5_liar_26 (by decide) (fun hc => ?_) (fun hc => ?_)
      · have hw := And.left hw hc
        refine lv_aload_n hx hb dX5_liar_31 rfl (lv_at hl 0 rfl) ?_
        refine rg_X_X5_0_0 hC hK hP dX5_liar_32 ?_
        refine rg_X_X5_1_0 hC hK hP dX5_liar_35 ?_
        refine lv_iload_n hx hb dX5_liar_38 rfl (lv_at hl 1 rfl) ?_
        refine lv_iload_n hx hb dX5_liar_39 rfl (lv_at hl 2 rfl) ?_
        refine vp_callSi (xro (xr_VN hC hK.2 (cX0_pailsAt_c (h := (sh h 4)) hw) ⟨rfl, rfl⟩ bw_483 calX0_pailsAt ⟨Nat.le_trans (Nat.le_of_ble_eq_true rfl) hF, Nat.le_trans (Nat.le_of_ble_eq_true rfl) hL⟩ (rest := []) (xpR hK (xCut.P (cut_X_F4) hP) rfl rfl) rfl hl rfl (Nat.le_of_ble_eq_true rfl) dX5_liar_40 ⟨Nat.zero_le _, Nat.zero_le _⟩)) (fun r3 hw => ?_)
        refine lv_iload_n hx hb dX5_liar_43 rfl (lv_at hl 3 rfl) ?_
        refine lv_icmp_ne (tgt := 51) hx hb dX5_liar_44 (by decide) (fun hc => ?_) (fun hc => ?_)
        · have hw := And.left hw hc
          refine lv_iconst (v := (1 : Int32)) hx hb dX5_liar_51 (by decide) ?_
          exact B52 x4 x5 x6 (1 : Int32) _ hw (lv_sub hl [0, 4, 5, 6] rfl)
        · have hw := And.right hw hc
          refine lv_iconst (v := (0 : Int32)) hx hb dX5_liar_47 (by decide) ?_
          refine lv_goto (tgt := 52) hx hb dX5_liar_48 (by decide) ?_
          exact B52 x4 x5 x6 (0 : Int32) _ hw (lv_sub hl [0, 4, 5, 6] rfl)
      · have hw := And.right hw hc
        refine lv_iconst (v := (-1 : Int32)) hx hb dX5_liar_29 (by decide) ?_
        exact hret _ _ _ hw dX5_liar_30
def wpX5_other (x1 : Int32) (z0 : wXS) (post : Int32 → (wXS) → Prop) : Prop := (wpX5_within x1 (1 : Int32) (5 : Int32) (fun r1 => ((r1 = 0 → (post (-1 : Int32) z0)) ∧ (¬ r1 = 0 → (wpX5_mostFrom (-(w_i (w_o (x_w z0)) 4)) x1 z0 (fun r2 u => ∀ z1 : wXS, z1 = u → (post r2 z1)))))))
set_option maxHeartbeats 4000000 in
set_option maxRecDepth 100000 in
theorem cX5_other_c {l : Launch} {G : wG} {h : Nat → Nat} {sz : Nat} {x1 : Int32} {post : Int32 → (wXS) → Prop} {z0 : wXS}  (hw : wpX5_other x1 z0 post) : Met l yX5_other (.code yX5_other cX5_other 2 (some .int) :: BIG) { frames := 52, cells := 0, slots := 0, locals := 1442 } (xPw G [.ref (h 0), .int x1] (wsX G h z0) sz) (xQi G post (fun q => (wsX G h q)) (va_A (wsX G h z0) sz)) 0 0 (va_A (wsX G h z0) sz) := by
  refine xm_wi (by decide) (Nat.le_of_ble_eq_true rfl) (fun p e s m args below meth c A ls R Q hC hK hA hP hD hS hl hF hL hret => ?_)
  have hx := hC.1
  have hb := hC.2.1
  have hl : lv_has ls 2 [(0, .ref (h 0)), (1, .int x1)] := hl
  unfold wpX5_other at hw
  refine lv_iload_n hx hb dX5_other_0 rfl (lv_at hl 1 rfl) ?_
  refine lv_iconst (v := (1 : Int32)) hx hb dX5_other_1 (by decide) ?_
  refine lv_iconst (v := (5 : Int32)) hx hb dX5_other_2 (by decide) ?_
  refine vp_callSi (xro (xr_S hC (cX5_within_c hw) ⟨rfl, rfl⟩ bw_223 calX5_within ⟨Nat.le_trans (Nat.le_of_ble_eq_true rfl) hF, Nat.le_trans (Nat.le_of_ble_eq_true rfl) hL⟩ (rest := []) (xpS hK) rfl hl rfl (Nat.le_of_ble_eq_true rfl) dX5_other_3 ⟨Nat.zero_le _, Nat.zero_le _⟩)) (fun r1 hw => ?_)
  refine lv_if_eq (tgt := 25) hx hb dX5_other_6 (by decide) (fun hc => ?_) (fun hc => ?_)
  · have hw := And.left hw hc
    refine lv_iconst (v := (-1 : Int32)) hx hb dX5_other_25 (by decide) ?_
    exact hret _ _ _ _ _ _ hw hP hD hS dX5_other_26
  · have hw := And.right hw hc
    refine lv_aload_n hx hb dX5_other_9 rfl (lv_at hl 0 rfl) ?_
    refine lv_aload_n hx hb dX5_other_10 rfl (lv_at hl 0 rfl) ?_
    refine rg_X_X5_0_0 hC hK hP dX5_other_11 ?_
    refine rg_X_X5_1_4 hC hK hP dX5_other_14 ?_
    refine lv_ineg hx hb dX5_other_17 ?_
    refine lv_iload_n hx hb dX5_other_18 rfl (lv_at hl 1 rfl) ?_
    refine xc_wi (wsz := fun q => (wsX G h q)) (f := fun u => u) (xr_V hC (cX5_mostFrom_c (h := h) hw) ⟨rfl, rfl⟩ bw_416 calX5_mostFrom ⟨Nat.le_trans (Nat.le_of_ble_eq_true rfl) hF, Nat.le_trans (Nat.le_of_ble_eq_true rfl) hL⟩ (rest := []) (xpV hK (cut_all_X) hP hD rfl rfl) rfl hl rfl (Nat.le_of_ble_eq_true rfl) dX5_other_19 ⟨Nat.zero_le _, Nat.zero_le _⟩) (cut_all_X) hP hD hS hA (fun r2 u z1 H locs hz1 hw hP hD hS => ?_)
    have hw := hw z1 hz1
    refine lv_goto (tgt := 26) hx hb dX5_other_22 (by decide) ?_
    exact hret _ _ _ _ _ _ hw hP hD hS dX5_other_26
def wpX5_drawn_30 (k30 : Int32 → Int32 → Int32 → (wXS) → Prop) (post : Int32 → (wXS) → Prop) (x1 : Int32) (x2 : Int32) (x3 : Int32) (z0 : wXS) : Prop := ((x1 ≤ x3 → (post x2 z0)) ∧ (¬ x1 ≤ x3 → (wpX4_lot (x_w z0) (fun r1 u => ∀ z1 : wXS, z1 = (x_sw z0 u) → (wpX4_passHour r1 (x_w z1) (fun r2 u => ∀ z2 : wXS, z2 = (x_sw z1 u) → (k30 x1 (x2 + r2) (x3 + (1 : Int32)) z2)))))))
def wpX5_drawn_L30  (post : Int32 → (wXS) → Prop) : Nat → Int32 → Int32 → Int32 → (wXS) → Prop
  | 0 => fun _ _ _ _ => False
  | n + 1 => fun x1 x2 x3 z0 => wpX5_drawn_30  (wpX5_drawn_L30  post n) post x1 x2 x3 z0
def wpX5_drawn (x1 : Int32) (z0 : wXS) (post : Int32 → (wXS) → Prop) : Prop := (wpX5_within x1 (1 : Int32) (60 : Int32) (fun r1 => ((¬ r1 = 0 → (wpX4_hasHours x1 (x_w z0) (fun r2 => ((¬ r2 = 0 → (∃ n, wpX5_drawn_L30  post n x1 (0 : Int32) (0 : Int32) z0)) ∧ (r2 = 0 → (post (-3 : Int32) z0)))))) ∧ (r1 = 0 → (post (-1 : Int32) z0)))))
set_option maxHeartbeats 4000000 in
set_option maxRecDepth 100000 in
theorem cX5_drawn_c {l : Launch} {G : wG} {h : Nat → Nat} {sz : Nat} {x1 : Int32} {post : Int32 → (wXS) → Prop} {z0 : wXS}  (hw : wpX5_drawn x1 z0 post) : Met l yX5_drawn (.code yX5_drawn cX5_drawn 4 (some .int) :: BIG) { frames := 5, cells := 0, slots := 0, locals := 112 } (xPw G [.ref (h 0), .int x1] (wsX G h z0) sz) (xQi G post (fun q => (wsX G h q)) (va_A (wsX G h z0) sz)) 0 0 (va_A (wsX G h z0) sz) := by
  refine xm_wi (by decide) (Nat.le_of_ble_eq_true rfl) (fun p e s m args below meth c A ls R Q hC hK hA hP hD hS hl hF hL hret => ?_)
  have hx := hC.1
  have hb := hC.2.1
  have hl : lv_has ls 4 [(0, .ref (h 0)), (1, .int x1)] := hl
  have B30 : ∀ n : Nat, ∀ (x1 : Int32) (x2 : Int32) (x3 : Int32) (z0 : wXS) (H : Heap) (locs : List Loc) (ls : Array Slot), wpX5_drawn_L30  post n x1 x2 x3 z0 → va_P G.1 vwCl (wsX G h z0) H → va_D A (wsX G h z0) → va_S A s.heap H locs → lv_has ls 4 [(0, .ref (h 0)), (1, .int x1), (2, .int x2), (3, .int x3)] → W p l e R s m args below meth c H locs 0 0 Q (F0 m 30 ls []) := by
    intro n
    induction n with
    | zero => intro x1 x2 x3 z0 H locs ls hw hP hD hS hl; exact False.elim hw
    | succ n I30 =>
      intro x1 x2 x3 z0 H locs ls hw hP hD hS hl
      have hw : wpX5_drawn_30  (wpX5_drawn_L30  post n) post x1 x2 x3 z0 := hw
      unfold wpX5_drawn_30 at hw
      refine lv_iload_n hx hb dX5_drawn_30 rfl (lv_at hl 3 rfl) ?_
      refine lv_iload_n hx hb dX5_drawn_31 rfl (lv_at hl 1 rfl) ?_
      refine lv_icmp_ge (tgt := 58) hx hb dX5_drawn_32 (by decide) (fun hc => ?_) (fun hc => ?_)
      · have hw := And.left hw hc
        refine lv_iload_n hx hb dX5_drawn_58 rfl (lv_at hl 2 rfl) ?_
        exact hret _ _ _ _ _ _ hw hP hD hS dX5_drawn_59
      · have hw := And.right hw hc
        refine lv_iload_n hx hb dX5_drawn_35 rfl (lv_at hl 2 rfl) ?_
        refine lv_aload_n hx hb dX5_drawn_36 rfl (lv_at hl 0 rfl) ?_
        refine rg_X_X5_0_0 hC hK hP dX5_drawn_37 ?_
        refine lv_aload_n hx hb dX5_drawn_40 rfl (lv_at hl 0 rfl) ?_
        refine rg_X_X5_0_0 hC hK hP dX5_drawn_41 ?_
        refine xc_wi (wsz := fun q => (wsX G h q)) (f := fun u => (x_sw z0 u)) (xr_VN hC hK.2 (cX4_lot_c (h := (sh h 1)) hw) ⟨rfl, rfl⟩ bw_500 calX4_lot ⟨Nat.le_trans (Nat.le_of_ble_eq_true rfl) hF, Nat.le_trans (Nat.le_of_ble_eq_true rfl) hL⟩ (rest := [.ref (h 1), .int x2]) (xpV hK (cut_X_W1) hP hD rfl rfl) rfl hl rfl (Nat.le_of_ble_eq_true rfl) dX5_drawn_44 ⟨Nat.zero_le _, Nat.zero_le _⟩) (cut_X_W1) hP hD hS hA (fun r1 u z1 H locs hz1 hw hP hD hS => ?_)
        have hw := hw z1 hz1
        refine xc_wi (wsz := fun q => (wsX G h q)) (f := fun u => (x_sw z1 u)) (xr_VN hC hK.2 (cX4_passHour_c (h := (sh h 1)) hw) ⟨rfl, rfl⟩ bw_350 calX4_passHour ⟨Nat.le_trans (Nat.le_of_ble_eq_true rfl) hF, Nat.le_trans (Nat.le_of_ble_eq_true rfl) hL⟩ (rest := [.int x2]) (xpV hK (cut_X_W1) hP hD rfl rfl) rfl hl rfl (Nat.le_of_ble_eq_true rfl) dX5_drawn_47 ⟨Nat.zero_le _, Nat.zero_le _⟩) (cut_X_W1) hP hD hS hA (fun r2 u z2 H locs hz1 hw hP hD hS => ?_)
        have hw := hw z2 hz1
        refine lv_iadd hx hb dX5_drawn_50 ?_
        refine lv_istore_n (lv' := [(2, .int (x2 + r2)), (0, .ref (h 0)), (1, .int x1), (3, .int x3)]) hx hb dX5_drawn_51 rfl hl (by decide) rfl (fun ls hl => ?_)
        refine lv_iinc (v := (x3 + (1 : Int32))) (lv' := [(3, .int (x3 + (1 : Int32))), (2, .int (x2 + r2)), (0, .ref (h 0)), (1, .int x1)]) hx hb dX5_drawn_52 hl (k := 3) rfl rfl (by decide) rfl (fun ls hl => ?_)
        refine lv_goto (tgt := 30) hx hb dX5_drawn_55 (by decide) ?_
        exact I30 x1 (x2 + r2) (x3 + (1 : Int32)) z2 _ _ _ hw hP hD hS (lv_sub hl [2, 3, 1, 0] rfl)
  unfold wpX5_drawn at hw
  refine lv_iload_n hx hb dX5_drawn_0 rfl (lv_at hl 1 rfl) ?_
  refine lv_iconst (v := (1 : Int32)) hx hb dX5_drawn_1 (by decide) ?_
  refine lv_bipush (v := (60 : Int32)) hx hb dX5_drawn_2 (by decide) ?_
  refine vp_callSi (xro (xr_S hC (cX5_within_c hw) ⟨rfl, rfl⟩ bw_223 calX5_within ⟨Nat.le_trans (Nat.le_of_ble_eq_true rfl) hF, Nat.le_trans (Nat.le_of_ble_eq_true rfl) hL⟩ (rest := []) (xpS hK) rfl hl rfl (Nat.le_of_ble_eq_true rfl) dX5_drawn_4 ⟨Nat.zero_le _, Nat.zero_le _⟩)) (fun r1 hw => ?_)
  refine lv_if_ne (tgt := 12) hx hb dX5_drawn_7 (by decide) (fun hc => ?_) (fun hc => ?_)
  · have hw := And.left hw hc
    refine lv_aload_n hx hb dX5_drawn_12 rfl (lv_at hl 0 rfl) ?_
    refine rg_X_X5_0_0 hC hK hP dX5_drawn_13 ?_
    refine lv_iload_n hx hb dX5_drawn_16 rfl (lv_at hl 1 rfl) ?_
    refine vp_callSi (xro (xr_VN hC hK.2 (cX4_hasHours_c (h := (sh h 1)) hw) ⟨rfl, rfl⟩ bw_346 calX4_hasHours ⟨Nat.le_trans (Nat.le_of_ble_eq_true rfl) hF, Nat.le_trans (Nat.le_of_ble_eq_true rfl) hL⟩ (rest := []) (xpR hK (xCut.P (cut_X_W1) hP) rfl rfl) rfl hl rfl (Nat.le_of_ble_eq_true rfl) dX5_drawn_17 ⟨Nat.zero_le _, Nat.zero_le _⟩)) (fun r2 hw => ?_)
    refine lv_if_ne (tgt := 26) hx hb dX5_drawn_20 (by decide) (fun hc => ?_) (fun hc => ?_)
    · have hw := And.left hw hc
      refine lv_iconst (v := (0 : Int32)) hx hb dX5_drawn_26 (by decide) ?_
      refine lv_istore_n (lv' := [(2, .int (0 : Int32)), (0, .ref (h 0)), (1, .int x1)]) hx hb dX5_drawn_27 rfl hl (by decide) rfl (fun ls hl => ?_)
      refine lv_iconst (v := (0 : Int32)) hx hb dX5_drawn_28 (by decide) ?_
      refine lv_istore_n (lv' := [(3, .int (0 : Int32)), (2, .int (0 : Int32)), (0, .ref (h 0)), (1, .int x1)]) hx hb dX5_drawn_29 rfl hl (by decide) rfl (fun ls hl => ?_)
      obtain ⟨n30, hw⟩ := hw
      exact B30 n30 x1 (0 : Int32) (0 : Int32) z0 _ _ _ hw hP hD hS (lv_sub hl [2, 3, 1, 0] rfl)
    · have hw := And.right hw hc
      refine lv_bipush (v := (-3 : Int32)) hx hb dX5_drawn_23 (by decide) ?_
      exact hret _ _ _ _ _ _ hw hP hD hS dX5_drawn_25
  · have hw := And.right hw hc
    refine lv_iconst (v := (-1 : Int32)) hx hb dX5_drawn_10 (by decide) ?_
    exact hret _ _ _ _ _ _ hw hP hD hS dX5_drawn_11
def wpX5_seed (x1 : Int32) (z0 : wXS) (post : Int32 → (wXS) → Prop) : Prop := ((0 ≤ x1 → (∀ z1 : wXS, z1 = (x_sw z0 (w_so (x_w z0) (w_si (w_o (x_w z0)) 11 x1))) → (post (w_i (w_o (x_w z0)) 11) z1))) ∧ (¬ 0 ≤ x1 → (post (-1 : Int32) z0)))
set_option maxHeartbeats 4000000 in
set_option maxRecDepth 100000 in
theorem cX5_seed_c {l : Launch} {G : wG} {h : Nat → Nat} {sz : Nat} {x1 : Int32} {post : Int32 → (wXS) → Prop} {z0 : wXS}  (hw : wpX5_seed x1 z0 post) : Met l yX5_seed (.code yX5_seed cX5_seed 3 (some .int) :: BIG) { frames := 0, cells := 0, slots := 0, locals := 0 } (xPw G [.ref (h 0), .int x1] (wsX G h z0) sz) (xQi G post (fun q => (wsX G h q)) (va_A (wsX G h z0) sz)) 0 0 (va_A (wsX G h z0) sz) := by
  refine xm_wi (by decide) (Nat.le_of_ble_eq_true rfl) (fun p e s m args below meth c A ls R Q hC hK hA hP hD hS hl hF hL hret => ?_)
  have hx := hC.1
  have hb := hC.2.1
  have hl : lv_has ls 3 [(0, .ref (h 0)), (1, .int x1)] := hl
  unfold wpX5_seed at hw
  refine lv_iload_n hx hb dX5_seed_0 rfl (lv_at hl 1 rfl) ?_
  refine lv_if_ge (tgt := 6) hx hb dX5_seed_1 (by decide) (fun hc => ?_) (fun hc => ?_)
  · have hw := And.left hw hc
    refine lv_aload_n hx hb dX5_seed_6 rfl (lv_at hl 0 rfl) ?_
    refine rg_X_X5_0_0 hC hK hP dX5_seed_7 ?_
    refine rg_X_X5_1_11 hC hK hP dX5_seed_10 ?_
    refine lv_istore_n (lv' := [(2, .int (w_i (w_o (x_w z0)) 11)), (0, .ref (h 0)), (1, .int x1)]) hx hb dX5_seed_13 rfl hl (by decide) rfl (fun ls hl => ?_)
    refine lv_aload_n hx hb dX5_seed_14 rfl (lv_at hl 1 rfl) ?_
    refine rg_X_X5_0_0 hC hK hP dX5_seed_15 ?_
    refine lv_iload_n hx hb dX5_seed_18 rfl (lv_at hl 2 rfl) ?_
    refine rp_X_X5_1_11 hC hK hP hD hS dX5_seed_19 (fun z1 H locs hz1 hP hD hS => ?_)
    have hw := hw z1 hz1
    refine lv_iload_n hx hb dX5_seed_22 rfl (lv_at hl 0 rfl) ?_
    exact hret _ _ _ _ _ _ hw hP hD hS dX5_seed_23
  · have hw := And.right hw hc
    refine lv_iconst (v := (-1 : Int32)) hx hb dX5_seed_4 (by decide) ?_
    exact hret _ _ _ _ _ _ hw hP hD hS dX5_seed_5
def wpX5_image (z0 : wXS) (post : Int32 → (wXS) → Prop) : Prop := (wpX4_become ((x_k z0), (x_w z0)) (fun u => ∀ z1 : wXS, z1 = (x_sw (x_sk z0 u.1) u.2) → (∀ z2 : wXS, z2 = (x_so z1 (w_si (x_o z1) 2 (1 : Int32))) → (post (1 : Int32) z2))))
set_option maxHeartbeats 4000000 in
set_option maxRecDepth 100000 in
theorem cX5_image_c {l : Launch} {G : wG} {h : Nat → Nat} {sz : Nat}  {post : Int32 → (wXS) → Prop} {z0 : wXS}  (hw : wpX5_image z0 post) : Met l yX5_image (.code yX5_image cX5_image 1 (some .int) :: BIG) { frames := 2, cells := 0, slots := 0, locals := 61 } (xPw G [.ref (h 0)] (wsX G h z0) sz) (xQi G post (fun q => (wsX G h q)) (va_A (wsX G h z0) sz)) 0 0 (va_A (wsX G h z0) sz) := by
  refine xm_wi (by decide) (Nat.le_of_ble_eq_true rfl) (fun p e s m args below meth c A ls R Q hC hK hA hP hD hS hl hF hL hret => ?_)
  have hx := hC.1
  have hb := hC.2.1
  have hl : lv_has ls 1 [(0, .ref (h 0))] := hl
  unfold wpX5_image at hw
  refine lv_aload_n hx hb dX5_image_0 rfl (lv_at hl 0 rfl) ?_
  refine rg_X_X5_0_1 hC hK hP dX5_image_1 ?_
  refine lv_aload_n hx hb dX5_image_4 rfl (lv_at hl 0 rfl) ?_
  refine rg_X_X5_0_0 hC hK hP dX5_image_5 ?_
  refine xc_wv (wsz := fun q => (wsX G h q)) (f := fun u => (x_sw (x_sk z0 u.1) u.2)) (xr_VN hC hK.2 (cX4_become_c (h := (sh h 9)) (g := (sh h 1)) hw) ⟨rfl, rfl⟩ bw_516 calX4_become ⟨Nat.le_trans (Nat.le_of_ble_eq_true rfl) hF, Nat.le_trans (Nat.le_of_ble_eq_true rfl) hL⟩ (rest := []) (xpV hK (cut_X_W9_W1) hP hD rfl rfl) rfl hl rfl (Nat.le_of_ble_eq_true rfl) dX5_image_8 ⟨Nat.zero_le _, Nat.zero_le _⟩) (cut_X_W9_W1) hP hD hS hA (fun u z1 H locs hz1 hw hP hD hS => ?_)
  have hw := hw z1 hz1
  refine lv_aload_n hx hb dX5_image_11 rfl (lv_at hl 0 rfl) ?_
  refine lv_iconst (v := (1 : Int32)) hx hb dX5_image_12 (by decide) ?_
  refine rp_X_X5_0_2 (⟨rfl, rfl⟩) hC hK hP hD hS dX5_image_13 (fun z2 H locs hz1 hP hD hS => ?_)
  have hw := hw z2 hz1
  refine lv_iconst (v := (1 : Int32)) hx hb dX5_image_16 (by decide) ?_
  exact hret _ _ _ _ _ _ hw hP hD hS dX5_image_17
def wpX5_restore (z0 : wXS) (post : Int32 → (wXS) → Prop) : Prop := ((¬ (w_i (x_o z0) 2) = 0 → (wpX4_become ((x_w z0), (x_k z0)) (fun u => ∀ z1 : wXS, z1 = (x_sk (x_sw z0 u.1) u.2) → (post (1 : Int32) z1)))) ∧ ((w_i (x_o z0) 2) = 0 → (post (-4 : Int32) z0)))
set_option maxHeartbeats 4000000 in
set_option maxRecDepth 100000 in
theorem cX5_restore_c {l : Launch} {G : wG} {h : Nat → Nat} {sz : Nat}  {post : Int32 → (wXS) → Prop} {z0 : wXS}  (hw : wpX5_restore z0 post) : Met l yX5_restore (.code yX5_restore cX5_restore 1 (some .int) :: BIG) { frames := 2, cells := 0, slots := 0, locals := 61 } (xPw G [.ref (h 0)] (wsX G h z0) sz) (xQi G post (fun q => (wsX G h q)) (va_A (wsX G h z0) sz)) 0 0 (va_A (wsX G h z0) sz) := by
  refine xm_wi (by decide) (Nat.le_of_ble_eq_true rfl) (fun p e s m args below meth c A ls R Q hC hK hA hP hD hS hl hF hL hret => ?_)
  have hx := hC.1
  have hb := hC.2.1
  have hl : lv_has ls 1 [(0, .ref (h 0))] := hl
  unfold wpX5_restore at hw
  refine lv_aload_n hx hb dX5_restore_0 rfl (lv_at hl 0 rfl) ?_
  refine rg_X_X5_0_2 hC hK hP dX5_restore_1 ?_
  refine lv_if_ne (tgt := 10) hx hb dX5_restore_4 (by decide) (fun hc => ?_) (fun hc => ?_)
  · have hw := And.left hw hc
    refine lv_aload_n hx hb dX5_restore_10 rfl (lv_at hl 0 rfl) ?_
    refine rg_X_X5_0_0 hC hK hP dX5_restore_11 ?_
    refine lv_aload_n hx hb dX5_restore_14 rfl (lv_at hl 0 rfl) ?_
    refine rg_X_X5_0_1 hC hK hP dX5_restore_15 ?_
    refine xc_wv (wsz := fun q => (wsX G h q)) (f := fun u => (x_sk (x_sw z0 u.1) u.2)) (xr_VN hC hK.2 (cX4_become_c (h := (sh h 1)) (g := (sh h 9)) hw) ⟨rfl, rfl⟩ bw_516 calX4_become ⟨Nat.le_trans (Nat.le_of_ble_eq_true rfl) hF, Nat.le_trans (Nat.le_of_ble_eq_true rfl) hL⟩ (rest := []) (xpV hK (cut_X_W1_W9) hP hD rfl rfl) rfl hl rfl (Nat.le_of_ble_eq_true rfl) dX5_restore_18 ⟨Nat.zero_le _, Nat.zero_le _⟩) (cut_X_W1_W9) hP hD hS hA (fun u z1 H locs hz1 hw hP hD hS => ?_)
    have hw := hw z1 hz1
    refine lv_iconst (v := (1 : Int32)) hx hb dX5_restore_21 (by decide) ?_
    exact hret _ _ _ _ _ _ hw hP hD hS dX5_restore_22
  · have hw := And.right hw hc
    refine lv_bipush (v := (-4 : Int32)) hx hb dX5_restore_7 (by decide) ?_
    exact hret _ _ _ _ _ _ hw hP hD hS dX5_restore_9
def wpX5_refusal (x1 : Int32) (x2 : Int32) (x3 : Int32) (x4 : Int32) (z0 : wXS) (post : Int32 → Prop) : Prop := (wpX5_isSheet x1 (fun r1 => ((r1 = 0 → (post (-1 : Int32))) ∧ (¬ r1 = 0 → (wpX5_isLane x2 (fun r2 => ((¬ r2 = 0 → (vp_in x1 4 ∧ ((¬ (w_i (x_h z0 x1.toNatClampNeg) 1) = 0 → (vp_in x1 4 ∧ (((w_i (x_h z0 x1.toNatClampNeg) 2) = x2 → (vp_in x1 4 ∧ (wpX2_hasSpan x3 x4 (x_h z0 x1.toNatClampNeg) (fun r3 => ((r3 = 0 → (post (-13 : Int32))) ∧ (¬ r3 = 0 → (post (0 : Int32)))))))) ∧ (¬ (w_i (x_h z0 x1.toNatClampNeg) 2) = x2 → (post (-12 : Int32)))))) ∧ ((w_i (x_h z0 x1.toNatClampNeg) 1) = 0 → (post (-11 : Int32)))))) ∧ (r2 = 0 → (post (-1 : Int32))))))))))
set_option maxHeartbeats 4000000 in
set_option maxRecDepth 100000 in
theorem cX5_refusal_c {l : Launch} {G : wG} {h : Nat → Nat} {x1 : Int32} {x2 : Int32} {x3 : Int32} {x4 : Int32} {post : Int32 → Prop} {z0 : wXS}  (hw : wpX5_refusal x1 x2 x3 x4 z0 post) : Met l yX5_refusal (.code yX5_refusal cX5_refusal 5 (some .int) :: BIG) { frames := 2, cells := 0, slots := 0, locals := 42 } (xPr G [.ref (h 0), .int x1, .int x2, .int x3, .int x4] (wsX G h z0)) (vp_Si post) 0 0 (fun _ => False) := by
  refine xm_ri (by decide) (Nat.le_of_ble_eq_true rfl) (fun p e s m args below meth c ls R Q hC hK hP hl hF hL hret => ?_)
  have hx := hC.1
  have hb := hC.2.1
  have hl : lv_has ls 5 [(0, .ref (h 0)), (1, .int x1), (2, .int x2), (3, .int x3), (4, .int x4)] := hl
  unfold wpX5_refusal at hw
  refine lv_iload_n hx hb dX5_refusal_0 rfl (lv_at hl 1 rfl) ?_
  refine vp_callSi (xro (xr_S hC (cX5_isSheet_c hw) ⟨rfl, rfl⟩ bw_532 calX5_isSheet ⟨Nat.le_trans (Nat.le_of_ble_eq_true rfl) hF, Nat.le_trans (Nat.le_of_ble_eq_true rfl) hL⟩ (rest := []) (xpS hK) rfl hl rfl (Nat.le_of_ble_eq_true rfl) dX5_refusal_1 ⟨Nat.zero_le _, Nat.zero_le _⟩)) (fun r1 hw => ?_)
  refine lv_if_eq (tgt := 14) hx hb dX5_refusal_4 (by decide) (fun hc => ?_) (fun hc => ?_)
  · have hw := And.left hw hc
    refine lv_iconst (v := (-1 : Int32)) hx hb dX5_refusal_14 (by decide) ?_
    exact hret _ _ _ hw dX5_refusal_15
  · have hw := And.right hw hc
    refine lv_iload_n hx hb dX5_refusal_7 rfl (lv_at hl 2 rfl) ?_
    refine vp_callSi (xro (xr_S hC (cX5_isLane_c hw) ⟨rfl, rfl⟩ bw_535 calX5_isLane ⟨Nat.le_trans (Nat.le_of_ble_eq_true rfl) hF, Nat.le_trans (Nat.le_of_ble_eq_true rfl) hL⟩ (rest := []) (xpS hK) rfl hl rfl (Nat.le_of_ble_eq_true rfl) dX5_refusal_8 ⟨Nat.zero_le _, Nat.zero_le _⟩)) (fun r2 hw => ?_)
    refine lv_if_ne (tgt := 16) hx hb dX5_refusal_11 (by decide) (fun hc => ?_) (fun hc => ?_)
    · have hw := And.left hw hc
      refine lv_aload_n hx hb dX5_refusal_16 rfl (lv_at hl 0 rfl) ?_
      refine rg_X_X5_0_7 hC hK hP dX5_refusal_17 ?_
      refine lv_iload_n hx hb dX5_refusal_20 rfl (lv_at hl 1 rfl) ?_
      have hn0 := w_n4 (And.left hw)
      refine rx_ald hC hK hP (And.left hw) dX5_refusal_21 ?_
      have hw := And.right hw
      refine rg_X_X5_H_1 (n := x1.toNatClampNeg) hn0 hC hK hP dX5_refusal_22 ?_
      refine lv_if_ne (tgt := 31) hx hb dX5_refusal_25 (by decide) (fun hc => ?_) (fun hc => ?_)
      · have hw := And.left hw hc
        refine lv_aload_n hx hb dX5_refusal_31 rfl (lv_at hl 0 rfl) ?_
        refine rg_X_X5_0_7 hC hK hP dX5_refusal_32 ?_
        refine lv_iload_n hx hb dX5_refusal_35 rfl (lv_at hl 1 rfl) ?_
        have hn0 := w_n4 (And.left hw)
        refine rx_ald hC hK hP (And.left hw) dX5_refusal_36 ?_
        have hw := And.right hw
        refine rg_X_X5_H_2 (n := x1.toNatClampNeg) hn0 hC hK hP dX5_refusal_37 ?_
        refine lv_iload_n hx hb dX5_refusal_40 rfl (lv_at hl 2 rfl) ?_
        refine lv_icmp_eq (tgt := 47) hx hb dX5_refusal_41 (by decide) (fun hc => ?_) (fun hc => ?_)
        · have hw := And.left hw hc
          refine lv_aload_n hx hb dX5_refusal_47 rfl (lv_at hl 0 rfl) ?_
          refine rg_X_X5_0_7 hC hK hP dX5_refusal_48 ?_
          refine lv_iload_n hx hb dX5_refusal_51 rfl (lv_at hl 1 rfl) ?_
          have hn0 := w_n4 (And.left hw)
          refine rx_ald hC hK hP (And.left hw) dX5_refusal_52 ?_
          have hw := And.right hw
          refine lv_iload_n hx hb dX5_refusal_53 rfl (lv_at hl 3 rfl) ?_
          refine lv_iload hx hb dX5_refusal_54 (lv_at hl 4 rfl) ?_
          refine vp_callSi (xro (xr_VN hC hK.2 (cX2_hasSpan_c (h := (sh h (35 + 2 * x1.toNatClampNeg))) hw) ⟨rfl, rfl⟩ bw_538 calX2_hasSpan ⟨Nat.le_trans (Nat.le_of_ble_eq_true rfl) hF, Nat.le_trans (Nat.le_of_ble_eq_true rfl) hL⟩ (rest := []) (xpR hK (xCut.P (cut_X_Hn (n := x1.toNatClampNeg) hn0) hP) rfl rfl) rfl hl rfl (Nat.le_of_ble_eq_true rfl) dX5_refusal_56 ⟨Nat.zero_le _, Nat.zero_le _⟩)) (fun r3 hw => ?_)
          refine lv_if_eq (tgt := 66) hx hb dX5_refusal_59 (by decide) (fun hc => ?_) (fun hc => ?_)
          · have hw := And.left hw hc
            refine lv_bipush (v := (-13 : Int32)) hx hb dX5_refusal_66 (by decide) ?_
            exact hret _ _ _ hw dX5_refusal_68
          · have hw := And.right hw hc
            refine lv_iconst (v := (0 : Int32)) hx hb dX5_refusal_62 (by decide) ?_
            refine lv_goto (tgt := 68) hx hb dX5_refusal_63 (by decide) ?_
            exact hret _ _ _ hw dX5_refusal_68
        · have hw := And.right hw hc
          refine lv_bipush (v := (-12 : Int32)) hx hb dX5_refusal_44 (by decide) ?_
          exact hret _ _ _ hw dX5_refusal_46
      · have hw := And.right hw hc
        refine lv_bipush (v := (-11 : Int32)) hx hb dX5_refusal_28 (by decide) ?_
        exact hret _ _ _ hw dX5_refusal_30
    · have hw := And.right hw hc
      refine lv_iconst (v := (-1 : Int32)) hx hb dX5_refusal_14 (by decide) ?_
      exact hret _ _ _ hw dX5_refusal_15
def wpX5_areDrawings_3 (k3 : Int32 → Int32 → Int32 → Prop) (n0 : Nat) (z0 : wXS) (post : Int32 → Prop) (x2 : Int32) (x3 : Int32) (x4 : Int32) : Prop := ((x3 ≤ x4 → (post (1 : Int32))) ∧ (¬ x3 ≤ x4 → (vp_in (x2 + ((2 : Int32) * x4)) 24 ∧ (((lg_cmp (w_l (x_h z0 n0) 0 (x2 + ((2 : Int32) * x4)).toNatClampNeg) (0 : Int64)) < 0 → (post (0 : Int32))) ∧ (¬ (lg_cmp (w_l (x_h z0 n0) 0 (x2 + ((2 : Int32) * x4)).toNatClampNeg) (0 : Int64)) < 0 → ((0 ≤ (lg_cmp (w_l (x_h z0 n0) 0 (x2 + ((2 : Int32) * x4)).toNatClampNeg) ((w_i (w_f (x_w z0)) 4).toInt64)) → (post (0 : Int32))) ∧ (¬ 0 ≤ (lg_cmp (w_l (x_h z0 n0) 0 (x2 + ((2 : Int32) * x4)).toNatClampNeg) ((w_i (w_f (x_w z0)) 4).toInt64)) → (vp_in ((x2 + ((2 : Int32) * x4)) + (1 : Int32)) 24 ∧ (wpX5_isPails (w_l (x_h z0 n0) 0 ((x2 + ((2 : Int32) * x4)) + (1 : Int32)).toNatClampNeg) (fun r1 => ((¬ r1 = 0 → (k3 x2 x3 (x4 + (1 : Int32)))) ∧ (r1 = 0 → (post (0 : Int32))))))))))))))
def wpX5_areDrawings_L3  (n0 : Nat) (z0 : wXS) (post : Int32 → Prop) : Nat → Int32 → Int32 → Int32 → Prop
  | 0 => fun _ _ _ => False
  | n + 1 => fun x2 x3 x4 => wpX5_areDrawings_3  (wpX5_areDrawings_L3  n0 z0 post n) n0 z0 post x2 x3 x4
def wpX5_areDrawings (n0 : Nat) (x2 : Int32) (x3 : Int32) (z0 : wXS) (post : Int32 → Prop) : Prop := (∃ n, wpX5_areDrawings_L3  n0 z0 post n x2 x3 (0 : Int32))
set_option maxHeartbeats 4000000 in
set_option maxRecDepth 100000 in
theorem cX5_areDrawings_c {l : Launch} {G : wG} {h : Nat → Nat} {n0 : Nat} {x2 : Int32} {x3 : Int32} {post : Int32 → Prop} {z0 : wXS} (hn0 : n0 < 4) (hw : wpX5_areDrawings n0 x2 x3 z0 post) : Met l yX5_areDrawings (.code yX5_areDrawings cX5_areDrawings 7 (some .boolean) :: BIG) { frames := 1, cells := 0, slots := 0, locals := 21 } (xPr G [.ref (h 0), .ref (h (35 + 2 * n0)), .int x2, .int x3] (wsX G h z0)) (vp_Si post) 0 0 (fun _ => False) := by
  refine xm_rz (by decide) (Nat.le_of_ble_eq_true rfl) (fun p e s m args below meth c ls R Q hC hK hP hl hF hL hret => ?_)
  have hx := hC.1
  have hb := hC.2.1
  have hl : lv_has ls 7 [(0, .ref (h 0)), (1, .ref (h (35 + 2 * n0))), (2, .int x2), (3, .int x3)] := hl
  have B3 : ∀ n : Nat, ∀ (x2 : Int32) (x3 : Int32) (x4 : Int32) (ls : Array Slot), wpX5_areDrawings_L3  n0 z0 post n x2 x3 x4 → lv_has ls 7 [(0, .ref (h 0)), (1, .ref (h (35 + 2 * n0))), (2, .int x2), (3, .int x3), (4, .int x4)] → W p l e R s m args below meth c s.heap [] 0 0 Q (F0 m 3 ls []) := by
    intro n
    induction n with
    | zero => intro x2 x3 x4 ls hw hl; exact False.elim hw
    | succ n I3 =>
      intro x2 x3 x4 ls hw hl
      have hw : wpX5_areDrawings_3  (wpX5_areDrawings_L3  n0 z0 post n) n0 z0 post x2 x3 x4 := hw
      unfold wpX5_areDrawings_3 at hw
      refine lv_iload hx hb dX5_areDrawings_3 (lv_at hl 4 rfl) ?_
      refine lv_iload_n hx hb dX5_areDrawings_5 rfl (lv_at hl 3 rfl) ?_
      refine lv_icmp_ge (tgt := 73) hx hb dX5_areDrawings_6 (by decide) (fun hc => ?_) (fun hc => ?_)
      · have hw := And.left hw hc
        refine lv_iconst (v := (1 : Int32)) hx hb dX5_areDrawings_73 (by decide) ?_
        exact hret _ _ _ rfl hw dX5_areDrawings_74
      · have hw := And.right hw hc
        refine lv_aload_n hx hb dX5_areDrawings_9 rfl (lv_at hl 1 rfl) ?_
        refine rg_X_X5_H_0 (n := n0) hn0 hC hK hP dX5_areDrawings_10 ?_
        refine lv_iload_n hx hb dX5_areDrawings_13 rfl (lv_at hl 2 rfl) ?_
        refine lv_iconst (v := (2 : Int32)) hx hb dX5_areDrawings_14 (by decide) ?_
        refine lv_iload hx hb dX5_areDrawings_15 (lv_at hl 4 rfl) ?_
        refine lv_imul hx hb dX5_areDrawings_17 ?_
        refine lv_iadd hx hb dX5_areDrawings_18 ?_
        refine rl_X_H (n := n0) hn0 hC hK hP (And.left hw) dX5_areDrawings_19 ?_
        have hw := And.right hw
        refine lv_lstore (lv' := [(5, .long (w_l (x_h z0 n0) 0 (x2 + ((2 : Int32) * x4)).toNatClampNeg)), (0, .ref (h 0)), (1, .ref (h (35 + 2 * n0))), (2, .int x2), (3, .int x3), (4, .int x4)]) hx hb dX5_areDrawings_20 hl (by decide) rfl (fun ls hl => ?_)
        refine lv_lload hx hb dX5_areDrawings_22 (lv_at hl 0 rfl) ?_
        refine lv_lconst (v := (0 : Int64)) hx hb dX5_areDrawings_24 (by decide) ?_
        refine W.lcmp hx hb dX5_areDrawings_25 ?_
        refine lv_if_lt (tgt := 65) hx hb dX5_areDrawings_26 (by decide) (fun hc => ?_) (fun hc => ?_)
        · have hw := And.left hw hc
          refine lv_iconst (v := (0 : Int32)) hx hb dX5_areDrawings_65 (by decide) ?_
          exact hret _ _ _ rfl hw dX5_areDrawings_66
        · have hw := And.right hw hc
          refine lv_lload hx hb dX5_areDrawings_29 (lv_at hl 0 rfl) ?_
          refine lv_aload_n hx hb dX5_areDrawings_31 rfl (lv_at hl 1 rfl) ?_
          refine rg_X_X5_0_0 hC hK hP dX5_areDrawings_32 ?_
          refine rg_X_X5_1_0 hC hK hP dX5_areDrawings_35 ?_
          refine rg_X_X5_4_4 hC hK hP dX5_areDrawings_38 ?_
          refine lv_i2l (v := ((w_i (w_f (x_w z0)) 4).toInt64)) hx hb dX5_areDrawings_41 rfl ?_
          refine W.lcmp hx hb dX5_areDrawings_42 ?_
          refine lv_if_ge (tgt := 65) hx hb dX5_areDrawings_43 (by decide) (fun hc => ?_) (fun hc => ?_)
          · have hw := And.left hw hc
            refine lv_iconst (v := (0 : Int32)) hx hb dX5_areDrawings_65 (by decide) ?_
            exact hret _ _ _ rfl hw dX5_areDrawings_66
          · have hw := And.right hw hc
            refine lv_aload_n hx hb dX5_areDrawings_46 rfl (lv_at hl 2 rfl) ?_
            refine rg_X_X5_H_0 (n := n0) hn0 hC hK hP dX5_areDrawings_47 ?_
            refine lv_iload_n hx hb dX5_areDrawings_50 rfl (lv_at hl 3 rfl) ?_
            refine lv_iconst (v := (2 : Int32)) hx hb dX5_areDrawings_51 (by decide) ?_
            refine lv_iload hx hb dX5_areDrawings_52 (lv_at hl 5 rfl) ?_
            refine lv_imul hx hb dX5_areDrawings_54 ?_
            refine lv_iadd hx hb dX5_areDrawings_55 ?_
            refine lv_iconst (v := (1 : Int32)) hx hb dX5_areDrawings_56 (by decide) ?_
            refine lv_iadd hx hb dX5_areDrawings_57 ?_
            refine rl_X_H (n := n0) hn0 hC hK hP (And.left hw) dX5_areDrawings_58 ?_
            have hw := And.right hw
            refine vp_callSi (xro (xr_S hC (cX5_isPails_c hw) ⟨rfl, rfl⟩ bw_477 calX5_isPails ⟨Nat.le_trans (Nat.le_of_ble_eq_true rfl) hF, Nat.le_trans (Nat.le_of_ble_eq_true rfl) hL⟩ (rest := []) (xpS hK) rfl hl rfl (Nat.le_of_ble_eq_true rfl) dX5_areDrawings_59 ⟨Nat.zero_le _, Nat.zero_le _⟩)) (fun r1 hw => ?_)
            refine lv_if_ne (tgt := 67) hx hb dX5_areDrawings_62 (by decide) (fun hc => ?_) (fun hc => ?_)
            · have hw := And.left hw hc
              refine lv_iinc (v := (x4 + (1 : Int32))) (lv' := [(4, .int (x4 + (1 : Int32))), (5, .long (w_l (x_h z0 n0) 0 (x2 + ((2 : Int32) * x4)).toNatClampNeg)), (0, .ref (h 0)), (1, .ref (h (35 + 2 * n0))), (2, .int x2), (3, .int x3)]) hx hb dX5_areDrawings_67 hl (k := 5) rfl rfl (by decide) rfl (fun ls hl => ?_)
              refine lv_goto (tgt := 3) hx hb dX5_areDrawings_70 (by decide) ?_
              exact I3 x2 x3 (x4 + (1 : Int32)) _ hw (lv_sub hl [2, 3, 4, 5, 0] rfl)
            · have hw := And.right hw hc
              refine lv_iconst (v := (0 : Int32)) hx hb dX5_areDrawings_65 (by decide) ?_
              exact hret _ _ _ rfl hw dX5_areDrawings_66
  unfold wpX5_areDrawings at hw
  refine lv_iconst (v := (0 : Int32)) hx hb dX5_areDrawings_0 (by decide) ?_
  refine lv_istore (lv' := [(4, .int (0 : Int32)), (0, .ref (h 0)), (1, .ref (h (35 + 2 * n0))), (2, .int x2), (3, .int x3)]) hx hb dX5_areDrawings_1 hl (by decide) rfl (fun ls hl => ?_)
  obtain ⟨n3, hw⟩ := hw
  exact B3 n3 x2 x3 (0 : Int32) _ hw (lv_sub hl [1, 2, 3, 4, 0] rfl)
def wpX5_fitsFrom_6 (k6 : Int32 → Int32 → Int32 → Int32 → Prop) (n0 : Nat) (z0 : wXS) (post : Int32 → Prop) (x3 : Int32) (x4 : Int32) (x5 : Int32) (x6 : Int32) : Prop := ((x4 ≤ x6 → (post (1 : Int32))) ∧ (¬ x4 ≤ x6 → (vp_in (x3 + ((2 : Int32) * x6)) 24 ∧ (wpX0_pailsAt ((w_l (x_h z0 n0) 0 (x3 + ((2 : Int32) * x6)).toNatClampNeg).toInt32) x5 (w_f (x_w z0)) (fun r1 => (vp_in ((x3 + ((2 : Int32) * x6)) + (1 : Int32)) 24 ∧ (((lg_cmp (r1.toInt64) (w_l (x_h z0 n0) 0 ((x3 + ((2 : Int32) * x6)) + (1 : Int32)).toNatClampNeg)) = 0 → (wpX0_moodBehind ((w_l (x_h z0 n0) 0 (x3 + ((2 : Int32) * x6)).toNatClampNeg).toInt32) x5 (w_f (x_w z0)) (fun r2 => (wpX5_waned r2 (fun r3 => (k6 x3 x4 r3 (x6 + (1 : Int32)))))))) ∧ (¬ (lg_cmp (r1.toInt64) (w_l (x_h z0 n0) 0 ((x3 + ((2 : Int32) * x6)) + (1 : Int32)).toNatClampNeg)) = 0 → (post (0 : Int32))))))))))
def wpX5_fitsFrom_L6  (n0 : Nat) (z0 : wXS) (post : Int32 → Prop) : Nat → Int32 → Int32 → Int32 → Int32 → Prop
  | 0 => fun _ _ _ _ => False
  | n + 1 => fun x3 x4 x5 x6 => wpX5_fitsFrom_6  (wpX5_fitsFrom_L6  n0 z0 post n) n0 z0 post x3 x4 x5 x6
def wpX5_fitsFrom (n0 : Nat) (x1 : Int32) (x3 : Int32) (x4 : Int32) (z0 : wXS) (post : Int32 → Prop) : Prop := (∃ n, wpX5_fitsFrom_L6  n0 z0 post n x3 x4 x1 (0 : Int32))
set_option maxHeartbeats 4000000 in
set_option maxRecDepth 100000 in
theorem cX5_fitsFrom_c {l : Launch} {G : wG} {h : Nat → Nat} {n0 : Nat} {x1 : Int32} {x3 : Int32} {x4 : Int32} {post : Int32 → Prop} {z0 : wXS} (hn0 : n0 < 4) (hw : wpX5_fitsFrom n0 x1 x3 x4 z0 post) : Met l yX5_fitsFrom (.code yX5_fitsFrom cX5_fitsFrom 8 (some .boolean) :: BIG) { frames := 3, cells := 0, slots := 0, locals := 63 } (xPr G [.ref (h 0), .int x1, .ref (h (35 + 2 * n0)), .int x3, .int x4] (wsX G h z0)) (vp_Si post) 0 0 (fun _ => False) := by
  refine xm_rz (by decide) (Nat.le_of_ble_eq_true rfl) (fun p e s m args below meth c ls R Q hC hK hP hl hF hL hret => ?_)
  have hx := hC.1
  have hb := hC.2.1
  have hl : lv_has ls 8 [(0, .ref (h 0)), (1, .int x1), (2, .ref (h (35 + 2 * n0))), (3, .int x3), (4, .int x4)] := hl
  have B6 : ∀ n : Nat, ∀ (x3 : Int32) (x4 : Int32) (x5 : Int32) (x6 : Int32) (ls : Array Slot), wpX5_fitsFrom_L6  n0 z0 post n x3 x4 x5 x6 → lv_has ls 8 [(0, .ref (h 0)), (2, .ref (h (35 + 2 * n0))), (3, .int x3), (4, .int x4), (5, .int x5), (6, .int x6)] → W p l e R s m args below meth c s.heap [] 0 0 Q (F0 m 6 ls []) := by
    intro n
    induction n with
    | zero => intro x3 x4 x5 x6 ls hw hl; exact False.elim hw
    | succ n I6 =>
      intro x3 x4 x5 x6 ls hw hl
      have hw : wpX5_fitsFrom_6  (wpX5_fitsFrom_L6  n0 z0 post n) n0 z0 post x3 x4 x5 x6 := hw
      unfold wpX5_fitsFrom_6 at hw
      refine lv_iload hx hb dX5_fitsFrom_6 (lv_at hl 5 rfl) ?_
      refine lv_iload hx hb dX5_fitsFrom_8 (lv_at hl 3 rfl) ?_
      refine lv_icmp_ge (tgt := 86) hx hb dX5_fitsFrom_10 (by decide) (fun hc => ?_) (fun hc => ?_)
      · have hw := And.left hw hc
        refine lv_iconst (v := (1 : Int32)) hx hb dX5_fitsFrom_86 (by decide) ?_
        exact hret _ _ _ rfl hw dX5_fitsFrom_87
      · have hw := And.right hw hc
        refine lv_aload_n hx hb dX5_fitsFrom_13 rfl (lv_at hl 1 rfl) ?_
        refine rg_X_X5_H_0 (n := n0) hn0 hC hK hP dX5_fitsFrom_14 ?_
        refine lv_iload_n hx hb dX5_fitsFrom_17 rfl (lv_at hl 2 rfl) ?_
        refine lv_iconst (v := (2 : Int32)) hx hb dX5_fitsFrom_18 (by decide) ?_
        refine lv_iload hx hb dX5_fitsFrom_19 (lv_at hl 5 rfl) ?_
        refine lv_imul hx hb dX5_fitsFrom_21 ?_
        refine lv_iadd hx hb dX5_fitsFrom_22 ?_
        refine rl_X_H (n := n0) hn0 hC hK hP (And.left hw) dX5_fitsFrom_23 ?_
        have hw := And.right hw
        refine lv_l2i (v := ((w_l (x_h z0 n0) 0 (x3 + ((2 : Int32) * x6)).toNatClampNeg).toInt32)) hx hb dX5_fitsFrom_24 rfl ?_
        refine lv_istore (lv' := [(7, .int ((w_l (x_h z0 n0) 0 (x3 + ((2 : Int32) * x6)).toNatClampNeg).toInt32)), (0, .ref (h 0)), (2, .ref (h (35 + 2 * n0))), (3, .int x3), (4, .int x4), (5, .int x5), (6, .int x6)]) hx hb dX5_fitsFrom_25 hl (by decide) rfl (fun ls hl => ?_)
        refine lv_aload_n hx hb dX5_fitsFrom_27 rfl (lv_at hl 1 rfl) ?_
        refine rg_X_X5_0_0 hC hK hP dX5_fitsFrom_28 ?_
        refine rg_X_X5_1_0 hC hK hP dX5_fitsFrom_31 ?_
        refine lv_iload hx hb dX5_fitsFrom_34 (lv_at hl 0 rfl) ?_
        refine lv_iload hx hb dX5_fitsFrom_36 (lv_at hl 5 rfl) ?_
        refine vp_callSi (xro (xr_VN hC hK.2 (cX0_pailsAt_c (h := (sh h 4)) hw) ⟨rfl, rfl⟩ bw_483 calX0_pailsAt ⟨Nat.le_trans (Nat.le_of_ble_eq_true rfl) hF, Nat.le_trans (Nat.le_of_ble_eq_true rfl) hL⟩ (rest := []) (xpR hK (xCut.P (cut_X_F4) hP) rfl rfl) rfl hl rfl (Nat.le_of_ble_eq_true rfl) dX5_fitsFrom_38 ⟨Nat.zero_le _, Nat.zero_le _⟩)) (fun r1 hw => ?_)
        refine lv_i2l (v := (r1.toInt64)) hx hb dX5_fitsFrom_41 rfl ?_
        refine lv_aload_n hx hb dX5_fitsFrom_42 rfl (lv_at hl 2 rfl) ?_
        refine rg_X_X5_H_0 (n := n0) hn0 hC hK hP dX5_fitsFrom_43 ?_
        refine lv_iload_n hx hb dX5_fitsFrom_46 rfl (lv_at hl 3 rfl) ?_
        refine lv_iconst (v := (2 : Int32)) hx hb dX5_fitsFrom_47 (by decide) ?_
        refine lv_iload hx hb dX5_fitsFrom_48 (lv_at hl 6 rfl) ?_
        refine lv_imul hx hb dX5_fitsFrom_50 ?_
        refine lv_iadd hx hb dX5_fitsFrom_51 ?_
        refine lv_iconst (v := (1 : Int32)) hx hb dX5_fitsFrom_52 (by decide) ?_
        refine lv_iadd hx hb dX5_fitsFrom_53 ?_
        refine rl_X_H (n := n0) hn0 hC hK hP (And.left hw) dX5_fitsFrom_54 ?_
        have hw := And.right hw
        refine W.lcmp hx hb dX5_fitsFrom_55 ?_
        refine lv_if_eq (tgt := 61) hx hb dX5_fitsFrom_56 (by decide) (fun hc => ?_) (fun hc => ?_)
        · have hw := And.left hw hc
          refine lv_aload_n hx hb dX5_fitsFrom_61 rfl (lv_at hl 1 rfl) ?_
          refine rg_X_X5_0_0 hC hK hP dX5_fitsFrom_62 ?_
          refine rg_X_X5_1_0 hC hK hP dX5_fitsFrom_65 ?_
          refine lv_iload hx hb dX5_fitsFrom_68 (lv_at hl 0 rfl) ?_
          refine lv_iload hx hb dX5_fitsFrom_70 (lv_at hl 5 rfl) ?_
          refine vp_callSi (xro (xr_VN hC hK.2 (cX0_moodBehind_c (h := (sh h 4)) hw) ⟨rfl, rfl⟩ bw_550 calX0_moodBehind ⟨Nat.le_trans (Nat.le_of_ble_eq_true rfl) hF, Nat.le_trans (Nat.le_of_ble_eq_true rfl) hL⟩ (rest := []) (xpR hK (xCut.P (cut_X_F4) hP) rfl rfl) rfl hl rfl (Nat.le_of_ble_eq_true rfl) dX5_fitsFrom_72 ⟨Nat.zero_le _, Nat.zero_le _⟩)) (fun r2 hw => ?_)
          refine vp_callSi (xro (xr_S hC (cX5_waned_c hw) ⟨rfl, rfl⟩ bw_482 calX5_waned ⟨Nat.le_trans (Nat.le_of_ble_eq_true rfl) hF, Nat.le_trans (Nat.le_of_ble_eq_true rfl) hL⟩ (rest := []) (xpS hK) rfl hl rfl (Nat.le_of_ble_eq_true rfl) dX5_fitsFrom_75 ⟨Nat.zero_le _, Nat.zero_le _⟩)) (fun r3 hw => ?_)
          refine lv_istore (lv' := [(5, .int r3), (7, .int ((w_l (x_h z0 n0) 0 (x3 + ((2 : Int32) * x6)).toNatClampNeg).toInt32)), (0, .ref (h 0)), (2, .ref (h (35 + 2 * n0))), (3, .int x3), (4, .int x4), (6, .int x6)]) hx hb dX5_fitsFrom_78 hl (by decide) rfl (fun ls hl => ?_)
          refine lv_iinc (v := (x6 + (1 : Int32))) (lv' := [(6, .int (x6 + (1 : Int32))), (5, .int r3), (7, .int ((w_l (x_h z0 n0) 0 (x3 + ((2 : Int32) * x6)).toNatClampNeg).toInt32)), (0, .ref (h 0)), (2, .ref (h (35 + 2 * n0))), (3, .int x3), (4, .int x4)]) hx hb dX5_fitsFrom_80 hl (k := 6) rfl rfl (by decide) rfl (fun ls hl => ?_)
          refine lv_goto (tgt := 6) hx hb dX5_fitsFrom_83 (by decide) ?_
          exact I6 x3 x4 r3 (x6 + (1 : Int32)) _ hw (lv_sub hl [3, 4, 5, 6, 1, 0] rfl)
        · have hw := And.right hw hc
          refine lv_iconst (v := (0 : Int32)) hx hb dX5_fitsFrom_59 (by decide) ?_
          exact hret _ _ _ rfl hw dX5_fitsFrom_60
  unfold wpX5_fitsFrom at hw
  refine lv_iload_n hx hb dX5_fitsFrom_0 rfl (lv_at hl 1 rfl) ?_
  refine lv_istore (lv' := [(5, .int x1), (0, .ref (h 0)), (1, .int x1), (2, .ref (h (35 + 2 * n0))), (3, .int x3), (4, .int x4)]) hx hb dX5_fitsFrom_1 hl (by decide) rfl (fun ls hl => ?_)
  refine lv_iconst (v := (0 : Int32)) hx hb dX5_fitsFrom_3 (by decide) ?_
  refine lv_istore (lv' := [(6, .int (0 : Int32)), (5, .int x1), (0, .ref (h 0)), (1, .int x1), (2, .ref (h (35 + 2 * n0))), (3, .int x3), (4, .int x4)]) hx hb dX5_fitsFrom_4 hl (by decide) rfl (fun ls hl => ?_)
  obtain ⟨n6, hw⟩ := hw
  exact B6 n6 x3 x4 x1 (0 : Int32) _ hw (lv_sub hl [2, 4, 5, 6, 1, 0] rfl)
def wpX5_fit_97 (k60 : Int32 → Int32 → Int32 → Int32 → Int32 → Prop) (z0 : wXS) (post : Int32 → Prop) (x1 : Int32) (x3 : Int32) (x4 : Int32) (x6 : Int32) (x7 : Int32) : Prop := (k60 x1 x3 x4 x6 (x7 + (1 : Int32)))
def wpX5_fit_60 (k60 : Int32 → Int32 → Int32 → Int32 → Int32 → Prop) (z0 : wXS) (post : Int32 → Prop) (x1 : Int32) (x3 : Int32) (x4 : Int32) (x6 : Int32) (x7 : Int32) : Prop := (((9 : Int32) < x7 → (post x6)) ∧ (¬ (9 : Int32) < x7 → (vp_in x1 4 ∧ (wpX5_fitsFrom x1.toNatClampNeg x7 x3 x4 z0 (fun r1 => ((r1 = 0 → (wpX5_fit_97 k60 z0 post x1 x3 x4 x6 x7)) ∧ (¬ r1 = 0 → (wpX5_fit_97 k60 z0 post x1 x3 x4 (x6 ||| ((1 : Int32) <<< ((x7 + (9 : Int32)) &&& 31))) x7))))))))
def wpX5_fit_L60  (z0 : wXS) (post : Int32 → Prop) : Nat → Int32 → Int32 → Int32 → Int32 → Int32 → Prop
  | 0 => fun _ _ _ _ _ => False
  | n + 1 => fun x1 x3 x4 x6 x7 => wpX5_fit_60  (wpX5_fit_L60  z0 post n) z0 post x1 x3 x4 x6 x7
def wpX5_fit (x1 : Int32) (x2 : Int32) (x3 : Int32) (x4 : Int32) (z0 : wXS) (post : Int32 → Prop) : Prop := (wpX5_within x4 (1 : Int32) (8 : Int32) (fun r1 => ((¬ r1 = 0 → (wpX5_refusal x1 x2 x3 ((2 : Int32) * x4) z0 (fun r2 => ((r2 = 0 → (vp_in x1 4 ∧ (wpX5_areDrawings x1.toNatClampNeg x3 x4 z0 (fun r3 => ((¬ r3 = 0 → (∃ n, wpX5_fit_L60  z0 post n x1 x3 x4 (0 : Int32) (-9 : Int32))) ∧ (r3 = 0 → (post (-2 : Int32)))))))) ∧ (¬ r2 = 0 → (post r2)))))) ∧ (r1 = 0 → (post (-1 : Int32))))))
set_option maxHeartbeats 4000000 in
set_option maxRecDepth 100000 in
theorem cX5_fit_c {l : Launch} {G : wG} {h : Nat → Nat} {x1 : Int32} {x2 : Int32} {x3 : Int32} {x4 : Int32} {post : Int32 → Prop} {z0 : wXS}  (hw : wpX5_fit x1 x2 x3 x4 z0 post) : Met l yX5_fit (.code yX5_fit cX5_fit 8 (some .int) :: BIG) { frames := 4, cells := 0, slots := 0, locals := 90 } (xPr G [.ref (h 0), .int x1, .int x2, .int x3, .int x4] (wsX G h z0)) (vp_Si post) 0 0 (fun _ => False) := by
  refine xm_ri (by decide) (Nat.le_of_ble_eq_true rfl) (fun p e s m args below meth c ls R Q hC hK hP hl hF hL hret => ?_)
  have hx := hC.1
  have hb := hC.2.1
  have hl : lv_has ls 8 [(0, .ref (h 0)), (1, .int x1), (2, .int x2), (3, .int x3), (4, .int x4)] := hl
  have B60 : ∀ n : Nat, ∀ (x1 : Int32) (x3 : Int32) (x4 : Int32) (x6 : Int32) (x7 : Int32) (ls : Array Slot), wpX5_fit_L60  z0 post n x1 x3 x4 x6 x7 → lv_has ls 8 [(0, .ref (h 0)), (1, .int x1), (3, .int x3), (4, .int x4), (6, .int x6), (7, .int x7)] → W p l e R s m args below meth c s.heap [] 0 0 Q (F0 m 60 ls []) := by
    intro n
    induction n with
    | zero => intro x1 x3 x4 x6 x7 ls hw hl; exact False.elim hw
    | succ n I60 =>
      have B97 : ∀ (x1 : Int32) (x3 : Int32) (x4 : Int32) (x6 : Int32) (x7 : Int32) (ls : Array Slot), wpX5_fit_97 (wpX5_fit_L60  z0 post n) z0 post x1 x3 x4 x6 x7 → lv_has ls 8 [(0, .ref (h 0)), (1, .int x1), (3, .int x3), (4, .int x4), (6, .int x6), (7, .int x7)] → W p l e R s m args below meth c s.heap [] 0 0 Q (F0 m 97 ls []) := by
        intro x1 x3 x4 x6 x7 ls hw hl
        unfold wpX5_fit_97 at hw
        refine lv_iinc (v := (x7 + (1 : Int32))) (lv' := [(7, .int (x7 + (1 : Int32))), (0, .ref (h 0)), (1, .int x1), (3, .int x3), (4, .int x4), (6, .int x6)]) hx hb dX5_fit_97 hl (k := 5) rfl rfl (by decide) rfl (fun ls hl => ?_)
        refine lv_goto (tgt := 60) hx hb dX5_fit_100 (by decide) ?_
        exact I60 x1 x3 x4 x6 (x7 + (1 : Int32)) _ hw (lv_sub hl [1, 2, 3, 4, 5, 0] rfl)
      intro x1 x3 x4 x6 x7 ls hw hl
      have hw : wpX5_fit_60  (wpX5_fit_L60  z0 post n) z0 post x1 x3 x4 x6 x7 := hw
      unfold wpX5_fit_60 at hw
      refine lv_iload hx hb dX5_fit_60 (lv_at hl 5 rfl) ?_
      refine lv_bipush (v := (9 : Int32)) hx hb dX5_fit_62 (by decide) ?_
      refine lv_icmp_gt (tgt := 103) hx hb dX5_fit_64 (by decide) (fun hc => ?_) (fun hc => ?_)
      · have hw := And.left hw hc
        refine lv_iload hx hb dX5_fit_103 (lv_at hl 4 rfl) ?_
        exact hret _ _ _ hw dX5_fit_105
      · have hw := And.right hw hc
        refine lv_aload_n hx hb dX5_fit_67 rfl (lv_at hl 0 rfl) ?_
        refine lv_iload hx hb dX5_fit_68 (lv_at hl 5 rfl) ?_
        refine lv_aload_n hx hb dX5_fit_70 rfl (lv_at hl 0 rfl) ?_
        refine rg_X_X5_0_7 hC hK hP dX5_fit_71 ?_
        refine lv_iload_n hx hb dX5_fit_74 rfl (lv_at hl 1 rfl) ?_
        have hn0 := w_n4 (And.left hw)
        refine rx_ald hC hK hP (And.left hw) dX5_fit_75 ?_
        have hw := And.right hw
        refine lv_iload_n hx hb dX5_fit_76 rfl (lv_at hl 2 rfl) ?_
        refine lv_iload hx hb dX5_fit_77 (lv_at hl 3 rfl) ?_
        refine vp_callSi (xro (xr_V hC (cX5_fitsFrom_c (h := h) hn0 hw) ⟨rfl, rfl⟩ bw_546 calX5_fitsFrom ⟨Nat.le_trans (Nat.le_of_ble_eq_true rfl) hF, Nat.le_trans (Nat.le_of_ble_eq_true rfl) hL⟩ (rest := []) (xpR hK hP rfl rfl) rfl hl rfl (Nat.le_of_ble_eq_true rfl) dX5_fit_79 ⟨Nat.zero_le _, Nat.zero_le _⟩)) (fun r1 hw => ?_)
        refine lv_if_eq (tgt := 97) hx hb dX5_fit_82 (by decide) (fun hc => ?_) (fun hc => ?_)
        · have hw := And.left hw hc
          exact B97 x1 x3 x4 x6 x7 _ hw (lv_sub hl [0, 1, 2, 3, 4, 5] rfl)
        · have hw := And.right hw hc
          refine lv_iload hx hb dX5_fit_85 (lv_at hl 4 rfl) ?_
          refine lv_iconst (v := (1 : Int32)) hx hb dX5_fit_87 (by decide) ?_
          refine lv_iload hx hb dX5_fit_88 (lv_at hl 5 rfl) ?_
          refine lv_bipush (v := (9 : Int32)) hx hb dX5_fit_90 (by decide) ?_
          refine lv_iadd hx hb dX5_fit_92 ?_
          refine lv_ishl hx hb dX5_fit_93 ?_
          refine lv_ior hx hb dX5_fit_94 ?_
          refine lv_istore (lv' := [(6, .int (x6 ||| ((1 : Int32) <<< ((x7 + (9 : Int32)) &&& 31)))), (0, .ref (h 0)), (1, .int x1), (3, .int x3), (4, .int x4), (7, .int x7)]) hx hb dX5_fit_95 hl (by decide) rfl (fun ls hl => ?_)
          exact B97 x1 x3 x4 (x6 ||| ((1 : Int32) <<< ((x7 + (9 : Int32)) &&& 31))) x7 _ hw (lv_sub hl [1, 2, 3, 4, 0, 5] rfl)
  unfold wpX5_fit at hw
  refine lv_iload hx hb dX5_fit_0 (lv_at hl 4 rfl) ?_
  refine lv_iconst (v := (1 : Int32)) hx hb dX5_fit_2 (by decide) ?_
  refine lv_bipush (v := (8 : Int32)) hx hb dX5_fit_3 (by decide) ?_
  refine vp_callSi (xro (xr_S hC (cX5_within_c hw) ⟨rfl, rfl⟩ bw_223 calX5_within ⟨Nat.le_trans (Nat.le_of_ble_eq_true rfl) hF, Nat.le_trans (Nat.le_of_ble_eq_true rfl) hL⟩ (rest := []) (xpS hK) rfl hl rfl (Nat.le_of_ble_eq_true rfl) dX5_fit_5 ⟨Nat.zero_le _, Nat.zero_le _⟩)) (fun r1 hw => ?_)
  refine lv_if_ne (tgt := 13) hx hb dX5_fit_8 (by decide) (fun hc => ?_) (fun hc => ?_)
  · have hw := And.left hw hc
    refine lv_aload_n hx hb dX5_fit_13 rfl (lv_at hl 0 rfl) ?_
    refine lv_iload_n hx hb dX5_fit_14 rfl (lv_at hl 1 rfl) ?_
    refine lv_iload_n hx hb dX5_fit_15 rfl (lv_at hl 2 rfl) ?_
    refine lv_iload_n hx hb dX5_fit_16 rfl (lv_at hl 3 rfl) ?_
    refine lv_iconst (v := (2 : Int32)) hx hb dX5_fit_17 (by decide) ?_
    refine lv_iload hx hb dX5_fit_18 (lv_at hl 4 rfl) ?_
    refine lv_imul hx hb dX5_fit_20 ?_
    refine vp_callSi (xro (xr_V hC (cX5_refusal_c (h := h) hw) ⟨rfl, rfl⟩ bw_528 calX5_refusal ⟨Nat.le_trans (Nat.le_of_ble_eq_true rfl) hF, Nat.le_trans (Nat.le_of_ble_eq_true rfl) hL⟩ (rest := []) (xpR hK hP rfl rfl) rfl hl rfl (Nat.le_of_ble_eq_true rfl) dX5_fit_21 ⟨Nat.zero_le _, Nat.zero_le _⟩)) (fun r2 hw => ?_)
    refine lv_istore (lv' := [(5, .int r2), (0, .ref (h 0)), (1, .int x1), (2, .int x2), (3, .int x3), (4, .int x4)]) hx hb dX5_fit_24 hl (by decide) rfl (fun ls hl => ?_)
    refine lv_iload hx hb dX5_fit_26 (lv_at hl 0 rfl) ?_
    refine lv_if_eq (tgt := 34) hx hb dX5_fit_28 (by decide) (fun hc => ?_) (fun hc => ?_)
    · have hw := And.left hw hc
      refine lv_aload_n hx hb dX5_fit_34 rfl (lv_at hl 1 rfl) ?_
      refine lv_aload_n hx hb dX5_fit_35 rfl (lv_at hl 1 rfl) ?_
      refine rg_X_X5_0_7 hC hK hP dX5_fit_36 ?_
      refine lv_iload_n hx hb dX5_fit_39 rfl (lv_at hl 2 rfl) ?_
      have hn0 := w_n4 (And.left hw)
      refine rx_ald hC hK hP (And.left hw) dX5_fit_40 ?_
      have hw := And.right hw
      refine lv_iload_n hx hb dX5_fit_41 rfl (lv_at hl 4 rfl) ?_
      refine lv_iload hx hb dX5_fit_42 (lv_at hl 5 rfl) ?_
      refine vp_callSi (xro (xr_V hC (cX5_areDrawings_c (h := h) hn0 hw) ⟨rfl, rfl⟩ bw_542 calX5_areDrawings ⟨Nat.le_trans (Nat.le_of_ble_eq_true rfl) hF, Nat.le_trans (Nat.le_of_ble_eq_true rfl) hL⟩ (rest := []) (xpR hK hP rfl rfl) rfl hl rfl (Nat.le_of_ble_eq_true rfl) dX5_fit_44 ⟨Nat.zero_le _, Nat.zero_le _⟩)) (fun r3 hw => ?_)
      refine lv_if_ne (tgt := 53) hx hb dX5_fit_47 (by decide) (fun hc => ?_) (fun hc => ?_)
      · have hw := And.left hw hc
        refine lv_iconst (v := (0 : Int32)) hx hb dX5_fit_53 (by decide) ?_
        refine lv_istore (lv' := [(6, .int (0 : Int32)), (5, .int r2), (0, .ref (h 0)), (1, .int x1), (2, .int x2), (3, .int x3), (4, .int x4)]) hx hb dX5_fit_54 hl (by decide) rfl (fun ls hl => ?_)
        refine lv_bipush (v := (-9 : Int32)) hx hb dX5_fit_56 (by decide) ?_
        refine lv_istore (lv' := [(7, .int (-9 : Int32)), (6, .int (0 : Int32)), (5, .int r2), (0, .ref (h 0)), (1, .int x1), (2, .int x2), (3, .int x3), (4, .int x4)]) hx hb dX5_fit_58 hl (by decide) rfl (fun ls hl => ?_)
        obtain ⟨n60, hw⟩ := hw
        exact B60 n60 x1 x3 x4 (0 : Int32) (-9 : Int32) _ hw (lv_sub hl [3, 4, 6, 7, 1, 0] rfl)
      · have hw := And.right hw hc
        refine lv_bipush (v := (-2 : Int32)) hx hb dX5_fit_50 (by decide) ?_
        exact hret _ _ _ hw dX5_fit_52
    · have hw := And.right hw hc
      refine lv_iload hx hb dX5_fit_31 (lv_at hl 0 rfl) ?_
      exact hret _ _ _ hw dX5_fit_33
  · have hw := And.right hw hc
    refine lv_iconst (v := (-1 : Int32)) hx hb dX5_fit_11 (by decide) ?_
    exact hret _ _ _ hw dX5_fit_12
def wpX5_film_39 (k39 : Int32 → Int32 → Int32 → Int32 → (wXS) → Prop) (post : Int32 → (wXS) → Prop) (x1 : Int32) (x2 : Int32) (x4 : Int32) (x6 : Int32) (z0 : wXS) : Prop := (((19 : Int32) ≤ x6 → (post (19 : Int32) z0)) ∧ (¬ (19 : Int32) ≤ x6 → (vp_in x2 4 ∧ (wpX4_givesAt x1 (x6 - (9 : Int32)) (x_w z0) (fun r1 => (wpX2_put (x4 + x6) (r1.toInt64) (x_h z0 x2.toNatClampNeg) (fun u => ∀ z1 : wXS, z1 = (x_sh z0 x2.toNatClampNeg u) → (k39 x1 x2 x4 (x6 + (1 : Int32)) z1))))))))
def wpX5_film_L39  (post : Int32 → (wXS) → Prop) : Nat → Int32 → Int32 → Int32 → Int32 → (wXS) → Prop
  | 0 => fun _ _ _ _ _ => False
  | n + 1 => fun x1 x2 x4 x6 z0 => wpX5_film_39  (wpX5_film_L39  post n) post x1 x2 x4 x6 z0
def wpX5_film (x1 : Int32) (x2 : Int32) (x3 : Int32) (x4 : Int32) (z0 : wXS) (post : Int32 → (wXS) → Prop) : Prop := (wpX0_has x1 (w_f (x_w z0)) (fun r1 => ((¬ r1 = 0 → (wpX5_refusal x2 x3 x4 (19 : Int32) z0 (fun r2 => ((r2 = 0 → (∃ n, wpX5_film_L39  post n x1 x2 x4 (0 : Int32) z0)) ∧ (¬ r2 = 0 → (post r2 z0)))))) ∧ (r1 = 0 → (post (-1 : Int32) z0)))))
set_option maxHeartbeats 4000000 in
set_option maxRecDepth 100000 in
theorem cX5_film_c {l : Launch} {G : wG} {h : Nat → Nat} {sz : Nat} {x1 : Int32} {x2 : Int32} {x3 : Int32} {x4 : Int32} {post : Int32 → (wXS) → Prop} {z0 : wXS}  (hw : wpX5_film x1 x2 x3 x4 z0 post) : Met l yX5_film (.code yX5_film cX5_film 7 (some .int) :: BIG) { frames := 3, cells := 0, slots := 0, locals := 67 } (xPw G [.ref (h 0), .int x1, .int x2, .int x3, .int x4] (wsX G h z0) sz) (xQi G post (fun q => (wsX G h q)) (va_A (wsX G h z0) sz)) 0 0 (va_A (wsX G h z0) sz) := by
  refine xm_wi (by decide) (Nat.le_of_ble_eq_true rfl) (fun p e s m args below meth c A ls R Q hC hK hA hP hD hS hl hF hL hret => ?_)
  have hx := hC.1
  have hb := hC.2.1
  have hl : lv_has ls 7 [(0, .ref (h 0)), (1, .int x1), (2, .int x2), (3, .int x3), (4, .int x4)] := hl
  have B39 : ∀ n : Nat, ∀ (x1 : Int32) (x2 : Int32) (x4 : Int32) (x6 : Int32) (z0 : wXS) (H : Heap) (locs : List Loc) (ls : Array Slot), wpX5_film_L39  post n x1 x2 x4 x6 z0 → va_P G.1 vwCl (wsX G h z0) H → va_D A (wsX G h z0) → va_S A s.heap H locs → lv_has ls 7 [(0, .ref (h 0)), (1, .int x1), (2, .int x2), (4, .int x4), (6, .int x6)] → W p l e R s m args below meth c H locs 0 0 Q (F0 m 39 ls []) := by
    intro n
    induction n with
    | zero => intro x1 x2 x4 x6 z0 H locs ls hw hP hD hS hl; exact False.elim hw
    | succ n I39 =>
      intro x1 x2 x4 x6 z0 H locs ls hw hP hD hS hl
      have hw : wpX5_film_39  (wpX5_film_L39  post n) post x1 x2 x4 x6 z0 := hw
      unfold wpX5_film_39 at hw
      refine lv_iload hx hb dX5_film_39 (lv_at hl 4 rfl) ?_
      refine lv_bipush (v := (19 : Int32)) hx hb dX5_film_41 (by decide) ?_
      refine lv_icmp_ge (tgt := 80) hx hb dX5_film_43 (by decide) (fun hc => ?_) (fun hc => ?_)
      · have hw := And.left hw hc
        refine lv_bipush (v := (19 : Int32)) hx hb dX5_film_80 (by decide) ?_
        exact hret _ _ _ _ _ _ hw hP hD hS dX5_film_82
      · have hw := And.right hw hc
        refine lv_aload_n hx hb dX5_film_46 rfl (lv_at hl 0 rfl) ?_
        refine rg_X_X5_0_7 hC hK hP dX5_film_47 ?_
        refine lv_iload_n hx hb dX5_film_50 rfl (lv_at hl 2 rfl) ?_
        have hn0 := w_n4 (And.left hw)
        refine rx_ald hC hK hP (And.left hw) dX5_film_51 ?_
        have hw := And.right hw
        refine lv_iload hx hb dX5_film_52 (lv_at hl 3 rfl) ?_
        refine lv_iload hx hb dX5_film_54 (lv_at hl 4 rfl) ?_
        refine lv_iadd hx hb dX5_film_56 ?_
        refine lv_aload_n hx hb dX5_film_57 rfl (lv_at hl 0 rfl) ?_
        refine rg_X_X5_0_0 hC hK hP dX5_film_58 ?_
        refine lv_iload_n hx hb dX5_film_61 rfl (lv_at hl 1 rfl) ?_
        refine lv_iload hx hb dX5_film_62 (lv_at hl 4 rfl) ?_
        refine lv_bipush (v := (9 : Int32)) hx hb dX5_film_64 (by decide) ?_
        refine lv_isub hx hb dX5_film_66 ?_
        refine vp_callSi (xro (xr_VN hC hK.2 (cX4_givesAt_c (h := (sh h 1)) hw) ⟨rfl, rfl⟩ bw_468 calX4_givesAt ⟨Nat.le_trans (Nat.le_of_ble_eq_true rfl) hF, Nat.le_trans (Nat.le_of_ble_eq_true rfl) hL⟩ (rest := [.int (x4 + x6), .ref (h (35 + 2 * x2.toNatClampNeg))]) (xpR hK (xCut.P (cut_X_W1) hP) rfl rfl) rfl hl rfl (Nat.le_of_ble_eq_true rfl) dX5_film_67 ⟨Nat.zero_le _, Nat.zero_le _⟩)) (fun r1 hw => ?_)
        refine lv_i2l (v := (r1.toInt64)) hx hb dX5_film_70 rfl ?_
        refine xc_wv (wsz := fun q => (wsX G h q)) (f := fun u => (x_sh z0 x2.toNatClampNeg u)) (xr_VN hC hK.2 (cX2_put_c (h := (sh h (35 + 2 * x2.toNatClampNeg))) hw) ⟨rfl, rfl⟩ bw_555 calX2_put ⟨Nat.le_trans (Nat.le_of_ble_eq_true rfl) hF, Nat.le_trans (Nat.le_of_ble_eq_true rfl) hL⟩ (rest := []) (xpV hK (cut_X_Hn (n := x2.toNatClampNeg) hn0) hP hD rfl rfl) rfl hl rfl (Nat.le_of_ble_eq_true rfl) dX5_film_71 ⟨Nat.zero_le _, Nat.zero_le _⟩) (cut_X_Hn (n := x2.toNatClampNeg) hn0) hP hD hS hA (fun u z1 H locs hz1 hw hP hD hS => ?_)
        have hw := hw z1 hz1
        refine lv_iinc (v := (x6 + (1 : Int32))) (lv' := [(6, .int (x6 + (1 : Int32))), (0, .ref (h 0)), (1, .int x1), (2, .int x2), (4, .int x4)]) hx hb dX5_film_74 hl (k := 4) rfl rfl (by decide) rfl (fun ls hl => ?_)
        refine lv_goto (tgt := 39) hx hb dX5_film_77 (by decide) ?_
        exact I39 x1 x2 x4 (x6 + (1 : Int32)) z1 _ _ _ hw hP hD hS (lv_sub hl [1, 2, 3, 4, 0] rfl)
  unfold wpX5_film at hw
  refine lv_aload_n hx hb dX5_film_0 rfl (lv_at hl 0 rfl) ?_
  refine rg_X_X5_0_0 hC hK hP dX5_film_1 ?_
  refine rg_X_X5_1_0 hC hK hP dX5_film_4 ?_
  refine lv_iload_n hx hb dX5_film_7 rfl (lv_at hl 1 rfl) ?_
  refine vp_callSi (xro (xr_VN hC hK.2 (cX0_has_c (h := (sh h 4)) hw) ⟨rfl, rfl⟩ bw_234 calX0_has ⟨Nat.le_trans (Nat.le_of_ble_eq_true rfl) hF, Nat.le_trans (Nat.le_of_ble_eq_true rfl) hL⟩ (rest := []) (xpR hK (xCut.P (cut_X_F4) hP) rfl rfl) rfl hl rfl (Nat.le_of_ble_eq_true rfl) dX5_film_8 ⟨Nat.zero_le _, Nat.zero_le _⟩)) (fun r1 hw => ?_)
  refine lv_if_ne (tgt := 16) hx hb dX5_film_11 (by decide) (fun hc => ?_) (fun hc => ?_)
  · have hw := And.left hw hc
    refine lv_aload_n hx hb dX5_film_16 rfl (lv_at hl 0 rfl) ?_
    refine lv_iload_n hx hb dX5_film_17 rfl (lv_at hl 2 rfl) ?_
    refine lv_iload_n hx hb dX5_film_18 rfl (lv_at hl 3 rfl) ?_
    refine lv_iload hx hb dX5_film_19 (lv_at hl 4 rfl) ?_
    refine lv_bipush (v := (19 : Int32)) hx hb dX5_film_21 (by decide) ?_
    refine vp_callSi (xro (xr_V hC (cX5_refusal_c (h := h) hw) ⟨rfl, rfl⟩ bw_528 calX5_refusal ⟨Nat.le_trans (Nat.le_of_ble_eq_true rfl) hF, Nat.le_trans (Nat.le_of_ble_eq_true rfl) hL⟩ (rest := []) (xpR hK hP rfl rfl) rfl hl rfl (Nat.le_of_ble_eq_true rfl) dX5_film_23 ⟨Nat.zero_le _, Nat.zero_le _⟩)) (fun r2 hw => ?_)
    refine lv_istore (lv' := [(5, .int r2), (0, .ref (h 0)), (1, .int x1), (2, .int x2), (3, .int x3), (4, .int x4)]) hx hb dX5_film_26 hl (by decide) rfl (fun ls hl => ?_)
    refine lv_iload hx hb dX5_film_28 (lv_at hl 0 rfl) ?_
    refine lv_if_eq (tgt := 36) hx hb dX5_film_30 (by decide) (fun hc => ?_) (fun hc => ?_)
    · have hw := And.left hw hc
      refine lv_iconst (v := (0 : Int32)) hx hb dX5_film_36 (by decide) ?_
      refine lv_istore (lv' := [(6, .int (0 : Int32)), (5, .int r2), (0, .ref (h 0)), (1, .int x1), (2, .int x2), (3, .int x3), (4, .int x4)]) hx hb dX5_film_37 hl (by decide) rfl (fun ls hl => ?_)
      obtain ⟨n39, hw⟩ := hw
      exact B39 n39 x1 x2 x4 (0 : Int32) z0 _ _ _ hw hP hD hS (lv_sub hl [2, 3, 4, 6, 0] rfl)
    · have hw := And.right hw hc
      refine lv_iload hx hb dX5_film_33 (lv_at hl 0 rfl) ?_
      exact hret _ _ _ _ _ _ hw hP hD hS dX5_film_35
  · have hw := And.right hw hc
    refine lv_iconst (v := (-1 : Int32)) hx hb dX5_film_14 (by decide) ?_
    exact hret _ _ _ _ _ _ hw hP hD hS dX5_film_15
def wpX5_sheet (x1 : Int32) (x2 : Int32) (x3 : Int32) (z0 : wXS) (post : Int32 → (wXS) → Prop) : Prop := (wpX5_isSheet x1 (fun r1 => ((r1 = 0 → (post (-1 : Int32) z0)) ∧ (¬ r1 = 0 → (wpX5_isLane x2 (fun r2 => ((r2 = 0 → (post (-1 : Int32) z0)) ∧ (¬ r2 = 0 → ((x3 ≤ (24 : Int32) → ((0 ≤ x3 → (vp_in x1 4 ∧ (wpX2_begin x2 x3 (x_h z0 x1.toNatClampNeg) (fun u => ∀ z1 : wXS, z1 = (x_sh z0 x1.toNatClampNeg u) → (post x3 z1))))) ∧ (¬ 0 ≤ x3 → (post (-14 : Int32) z0)))) ∧ (¬ x3 ≤ (24 : Int32) → (post (-1 : Int32) z0)))))))))))
set_option maxHeartbeats 4000000 in
set_option maxRecDepth 100000 in
theorem cX5_sheet_c {l : Launch} {G : wG} {h : Nat → Nat} {sz : Nat} {x1 : Int32} {x2 : Int32} {x3 : Int32} {post : Int32 → (wXS) → Prop} {z0 : wXS}  (hw : wpX5_sheet x1 x2 x3 z0 post) : Met l yX5_sheet (.code yX5_sheet cX5_sheet 4 (some .int) :: BIG) { frames := 2, cells := 0, slots := 0, locals := 42 } (xPw G [.ref (h 0), .int x1, .int x2, .int x3] (wsX G h z0) sz) (xQi G post (fun q => (wsX G h q)) (va_A (wsX G h z0) sz)) 0 0 (va_A (wsX G h z0) sz) := by
  refine xm_wi (by decide) (Nat.le_of_ble_eq_true rfl) (fun p e s m args below meth c A ls R Q hC hK hA hP hD hS hl hF hL hret => ?_)
  have hx := hC.1
  have hb := hC.2.1
  have hl : lv_has ls 4 [(0, .ref (h 0)), (1, .int x1), (2, .int x2), (3, .int x3)] := hl
  unfold wpX5_sheet at hw
  refine lv_iload_n hx hb dX5_sheet_0 rfl (lv_at hl 1 rfl) ?_
  refine vp_callSi (xro (xr_S hC (cX5_isSheet_c hw) ⟨rfl, rfl⟩ bw_532 calX5_isSheet ⟨Nat.le_trans (Nat.le_of_ble_eq_true rfl) hF, Nat.le_trans (Nat.le_of_ble_eq_true rfl) hL⟩ (rest := []) (xpS hK) rfl hl rfl (Nat.le_of_ble_eq_true rfl) dX5_sheet_1 ⟨Nat.zero_le _, Nat.zero_le _⟩)) (fun r1 hw => ?_)
  refine lv_if_eq (tgt := 20) hx hb dX5_sheet_4 (by decide) (fun hc => ?_) (fun hc => ?_)
  · have hw := And.left hw hc
    refine lv_iconst (v := (-1 : Int32)) hx hb dX5_sheet_20 (by decide) ?_
    exact hret _ _ _ _ _ _ hw hP hD hS dX5_sheet_21
  · have hw := And.right hw hc
    refine lv_iload_n hx hb dX5_sheet_7 rfl (lv_at hl 2 rfl) ?_
    refine vp_callSi (xro (xr_S hC (cX5_isLane_c hw) ⟨rfl, rfl⟩ bw_535 calX5_isLane ⟨Nat.le_trans (Nat.le_of_ble_eq_true rfl) hF, Nat.le_trans (Nat.le_of_ble_eq_true rfl) hL⟩ (rest := []) (xpS hK) rfl hl rfl (Nat.le_of_ble_eq_true rfl) dX5_sheet_8 ⟨Nat.zero_le _, Nat.zero_le _⟩)) (fun r2 hw => ?_)
    refine lv_if_eq (tgt := 20) hx hb dX5_sheet_11 (by decide) (fun hc => ?_) (fun hc => ?_)
    · have hw := And.left hw hc
      refine lv_iconst (v := (-1 : Int32)) hx hb dX5_sheet_20 (by decide) ?_
      exact hret _ _ _ _ _ _ hw hP hD hS dX5_sheet_21
    · have hw := And.right hw hc
      refine lv_iload_n hx hb dX5_sheet_14 rfl (lv_at hl 3 rfl) ?_
      refine lv_bipush (v := (24 : Int32)) hx hb dX5_sheet_15 (by decide) ?_
      refine lv_icmp_le (tgt := 22) hx hb dX5_sheet_17 (by decide) (fun hc => ?_) (fun hc => ?_)
      · have hw := And.left hw hc
        refine lv_iload_n hx hb dX5_sheet_22 rfl (lv_at hl 3 rfl) ?_
        refine lv_if_ge (tgt := 29) hx hb dX5_sheet_23 (by decide) (fun hc => ?_) (fun hc => ?_)
        · have hw := And.left hw hc
          refine lv_aload_n hx hb dX5_sheet_29 rfl (lv_at hl 0 rfl) ?_
          refine rg_X_X5_0_7 hC hK hP dX5_sheet_30 ?_
          refine lv_iload_n hx hb dX5_sheet_33 rfl (lv_at hl 1 rfl) ?_
          have hn0 := w_n4 (And.left hw)
          refine rx_ald hC hK hP (And.left hw) dX5_sheet_34 ?_
          have hw := And.right hw
          refine lv_iload_n hx hb dX5_sheet_35 rfl (lv_at hl 2 rfl) ?_
          refine lv_iload_n hx hb dX5_sheet_36 rfl (lv_at hl 3 rfl) ?_
          refine xc_wv (wsz := fun q => (wsX G h q)) (f := fun u => (x_sh z0 x1.toNatClampNeg u)) (xr_VN hC hK.2 (cX2_begin_c (h := (sh h (35 + 2 * x1.toNatClampNeg))) hw) ⟨rfl, rfl⟩ bw_563 calX2_begin ⟨Nat.le_trans (Nat.le_of_ble_eq_true rfl) hF, Nat.le_trans (Nat.le_of_ble_eq_true rfl) hL⟩ (rest := []) (xpV hK (cut_X_Hn (n := x1.toNatClampNeg) hn0) hP hD rfl rfl) rfl hl rfl (Nat.le_of_ble_eq_true rfl) dX5_sheet_37 ⟨Nat.zero_le _, Nat.zero_le _⟩) (cut_X_Hn (n := x1.toNatClampNeg) hn0) hP hD hS hA (fun u z1 H locs hz1 hw hP hD hS => ?_)
          have hw := hw z1 hz1
          refine lv_iload_n hx hb dX5_sheet_40 rfl (lv_at hl 3 rfl) ?_
          exact hret _ _ _ _ _ _ hw hP hD hS dX5_sheet_41
        · have hw := And.right hw hc
          refine lv_bipush (v := (-14 : Int32)) hx hb dX5_sheet_26 (by decide) ?_
          exact hret _ _ _ _ _ _ hw hP hD hS dX5_sheet_28
      · have hw := And.right hw hc
        refine lv_iconst (v := (-1 : Int32)) hx hb dX5_sheet_20 (by decide) ?_
        exact hret _ _ _ _ _ _ hw hP hD hS dX5_sheet_21
def wpX5_drop (x1 : Int32) (z0 : wXS) (post : Int32 → (wXS) → Prop) : Prop := (wpX5_isSheet x1 (fun r1 => ((¬ r1 = 0 → (vp_in x1 4 ∧ ((¬ (w_i (x_h z0 x1.toNatClampNeg) 1) = 0 → (vp_in x1 4 ∧ (∀ z1 : wXS, z1 = (x_sh z0 x1.toNatClampNeg (w_si (x_h z0 x1.toNatClampNeg) 1 (0 : Int32))) → (vp_in x1 4 ∧ (post (w_i (x_h z1 x1.toNatClampNeg) 3) z1))))) ∧ ((w_i (x_h z0 x1.toNatClampNeg) 1) = 0 → (post (-11 : Int32) z0))))) ∧ (r1 = 0 → (post (-1 : Int32) z0)))))
set_option maxHeartbeats 4000000 in
set_option maxRecDepth 100000 in
theorem cX5_drop_c {l : Launch} {G : wG} {h : Nat → Nat} {sz : Nat} {x1 : Int32} {post : Int32 → (wXS) → Prop} {z0 : wXS}  (hw : wpX5_drop x1 z0 post) : Met l yX5_drop (.code yX5_drop cX5_drop 2 (some .int) :: BIG) { frames := 2, cells := 0, slots := 0, locals := 42 } (xPw G [.ref (h 0), .int x1] (wsX G h z0) sz) (xQi G post (fun q => (wsX G h q)) (va_A (wsX G h z0) sz)) 0 0 (va_A (wsX G h z0) sz) := by
  refine xm_wi (by decide) (Nat.le_of_ble_eq_true rfl) (fun p e s m args below meth c A ls R Q hC hK hA hP hD hS hl hF hL hret => ?_)
  have hx := hC.1
  have hb := hC.2.1
  have hl : lv_has ls 2 [(0, .ref (h 0)), (1, .int x1)] := hl
  unfold wpX5_drop at hw
  refine lv_iload_n hx hb dX5_drop_0 rfl (lv_at hl 1 rfl) ?_
  refine vp_callSi (xro (xr_S hC (cX5_isSheet_c hw) ⟨rfl, rfl⟩ bw_532 calX5_isSheet ⟨Nat.le_trans (Nat.le_of_ble_eq_true rfl) hF, Nat.le_trans (Nat.le_of_ble_eq_true rfl) hL⟩ (rest := []) (xpS hK) rfl hl rfl (Nat.le_of_ble_eq_true rfl) dX5_drop_1 ⟨Nat.zero_le _, Nat.zero_le _⟩)) (fun r1 hw => ?_)
  refine lv_if_ne (tgt := 9) hx hb dX5_drop_4 (by decide) (fun hc => ?_) (fun hc => ?_)
  · have hw := And.left hw hc
    refine lv_aload_n hx hb dX5_drop_9 rfl (lv_at hl 0 rfl) ?_
    refine rg_X_X5_0_7 hC hK hP dX5_drop_10 ?_
    refine lv_iload_n hx hb dX5_drop_13 rfl (lv_at hl 1 rfl) ?_
    have hn0 := w_n4 (And.left hw)
    refine rx_ald hC hK hP (And.left hw) dX5_drop_14 ?_
    have hw := And.right hw
    refine rg_X_X5_H_1 (n := x1.toNatClampNeg) hn0 hC hK hP dX5_drop_15 ?_
    refine lv_if_ne (tgt := 24) hx hb dX5_drop_18 (by decide) (fun hc => ?_) (fun hc => ?_)
    · have hw := And.left hw hc
      refine lv_aload_n hx hb dX5_drop_24 rfl (lv_at hl 0 rfl) ?_
      refine rg_X_X5_0_7 hC hK hP dX5_drop_25 ?_
      refine lv_iload_n hx hb dX5_drop_28 rfl (lv_at hl 1 rfl) ?_
      have hn0 := w_n4 (And.left hw)
      refine rx_ald hC hK hP (And.left hw) dX5_drop_29 ?_
      have hw := And.right hw
      refine lv_iconst (v := (0 : Int32)) hx hb dX5_drop_30 (by decide) ?_
      refine rp_X_X5_H_1 (n := x1.toNatClampNeg) hn0 (⟨rfl, rfl⟩) hC hK hP hD hS dX5_drop_31 (fun z1 H locs hz1 hP hD hS => ?_)
      have hw := hw z1 hz1
      refine lv_aload_n hx hb dX5_drop_34 rfl (lv_at hl 0 rfl) ?_
      refine rg_X_X5_0_7 hC hK hP dX5_drop_35 ?_
      refine lv_iload_n hx hb dX5_drop_38 rfl (lv_at hl 1 rfl) ?_
      have hn0 := w_n4 (And.left hw)
      refine rx_ald hC hK hP (And.left hw) dX5_drop_39 ?_
      have hw := And.right hw
      refine rg_X_X5_H_3 (n := x1.toNatClampNeg) hn0 hC hK hP dX5_drop_40 ?_
      exact hret _ _ _ _ _ _ hw hP hD hS dX5_drop_43
    · have hw := And.right hw hc
      refine lv_bipush (v := (-11 : Int32)) hx hb dX5_drop_21 (by decide) ?_
      exact hret _ _ _ _ _ _ hw hP hD hS dX5_drop_23
  · have hw := And.right hw hc
    refine lv_iconst (v := (-1 : Int32)) hx hb dX5_drop_7 (by decide) ?_
    exact hret _ _ _ _ _ _ hw hP hD hS dX5_drop_8
def wpX5_item (x1 : Int32) (x2 : Int32) (x3 : Int32) (x4 : Int64) (z0 : wXS) (post : Int32 → (wXS) → Prop) : Prop := (wpX5_refusal x1 x2 x3 (1 : Int32) z0 (fun r1 => ((r1 = 0 → (vp_in x1 4 ∧ (wpX2_put x3 x4 (x_h z0 x1.toNatClampNeg) (fun u => ∀ z1 : wXS, z1 = (x_sh z0 x1.toNatClampNeg u) → (post (1 : Int32) z1))))) ∧ (¬ r1 = 0 → (post r1 z0)))))
set_option maxHeartbeats 4000000 in
set_option maxRecDepth 100000 in
theorem cX5_item_c {l : Launch} {G : wG} {h : Nat → Nat} {sz : Nat} {x1 : Int32} {x2 : Int32} {x3 : Int32} {x4 : Int64} {post : Int32 → (wXS) → Prop} {z0 : wXS}  (hw : wpX5_item x1 x2 x3 x4 z0 post) : Met l yX5_item (.code yX5_item cX5_item 7 (some .int) :: BIG) { frames := 3, cells := 0, slots := 0, locals := 66 } (xPw G [.ref (h 0), .int x1, .int x2, .int x3, .long x4] (wsX G h z0) sz) (xQi G post (fun q => (wsX G h q)) (va_A (wsX G h z0) sz)) 0 0 (va_A (wsX G h z0) sz) := by
  refine xm_wi (by decide) (Nat.le_of_ble_eq_true rfl) (fun p e s m args below meth c A ls R Q hC hK hA hP hD hS hl hF hL hret => ?_)
  have hx := hC.1
  have hb := hC.2.1
  have hl : lv_has ls 7 [(0, .ref (h 0)), (1, .int x1), (2, .int x2), (3, .int x3), (4, .long x4)] := hl
  unfold wpX5_item at hw
  refine lv_aload_n hx hb dX5_item_0 rfl (lv_at hl 0 rfl) ?_
  refine lv_iload_n hx hb dX5_item_1 rfl (lv_at hl 1 rfl) ?_
  refine lv_iload_n hx hb dX5_item_2 rfl (lv_at hl 2 rfl) ?_
  refine lv_iload_n hx hb dX5_item_3 rfl (lv_at hl 3 rfl) ?_
  refine lv_iconst (v := (1 : Int32)) hx hb dX5_item_4 (by decide) ?_
  refine vp_callSi (xro (xr_V hC (cX5_refusal_c (h := h) hw) ⟨rfl, rfl⟩ bw_528 calX5_refusal ⟨Nat.le_trans (Nat.le_of_ble_eq_true rfl) hF, Nat.le_trans (Nat.le_of_ble_eq_true rfl) hL⟩ (rest := []) (xpR hK hP rfl rfl) rfl hl rfl (Nat.le_of_ble_eq_true rfl) dX5_item_5 ⟨Nat.zero_le _, Nat.zero_le _⟩)) (fun r1 hw => ?_)
  refine lv_istore (lv' := [(6, .int r1), (0, .ref (h 0)), (1, .int x1), (2, .int x2), (3, .int x3), (4, .long x4)]) hx hb dX5_item_8 hl (by decide) rfl (fun ls hl => ?_)
  refine lv_iload hx hb dX5_item_10 (lv_at hl 0 rfl) ?_
  refine lv_if_eq (tgt := 18) hx hb dX5_item_12 (by decide) (fun hc => ?_) (fun hc => ?_)
  · have hw := And.left hw hc
    refine lv_aload_n hx hb dX5_item_18 rfl (lv_at hl 1 rfl) ?_
    refine rg_X_X5_0_7 hC hK hP dX5_item_19 ?_
    refine lv_iload_n hx hb dX5_item_22 rfl (lv_at hl 2 rfl) ?_
    have hn0 := w_n4 (And.left hw)
    refine rx_ald hC hK hP (And.left hw) dX5_item_23 ?_
    have hw := And.right hw
    refine lv_iload_n hx hb dX5_item_24 rfl (lv_at hl 4 rfl) ?_
    refine lv_lload hx hb dX5_item_25 (lv_at hl 5 rfl) ?_
    refine xc_wv (wsz := fun q => (wsX G h q)) (f := fun u => (x_sh z0 x1.toNatClampNeg u)) (xr_VN hC hK.2 (cX2_put_c (h := (sh h (35 + 2 * x1.toNatClampNeg))) hw) ⟨rfl, rfl⟩ bw_555 calX2_put ⟨Nat.le_trans (Nat.le_of_ble_eq_true rfl) hF, Nat.le_trans (Nat.le_of_ble_eq_true rfl) hL⟩ (rest := []) (xpV hK (cut_X_Hn (n := x1.toNatClampNeg) hn0) hP hD rfl rfl) rfl hl rfl (Nat.le_of_ble_eq_true rfl) dX5_item_27 ⟨Nat.zero_le _, Nat.zero_le _⟩) (cut_X_Hn (n := x1.toNatClampNeg) hn0) hP hD hS hA (fun u z1 H locs hz1 hw hP hD hS => ?_)
    have hw := hw z1 hz1
    refine lv_iconst (v := (1 : Int32)) hx hb dX5_item_30 (by decide) ?_
    exact hret _ _ _ _ _ _ hw hP hD hS dX5_item_31
  · have hw := And.right hw hc
    refine lv_iload hx hb dX5_item_15 (lv_at hl 0 rfl) ?_
    exact hret _ _ _ _ _ _ hw hP hD hS dX5_item_17
def wpX5_copy (x1 : Int32) (x2 : Int32) (x3 : Int32) (x4 : Int32) (x5 : Int32) (z0 : wXS) (post : Int32 → (wXS) → Prop) : Prop := (wpX5_isSheet x1 (fun r1 => ((r1 = 0 → (post (-1 : Int32) z0)) ∧ (¬ r1 = 0 → (wpX5_isSheet x3 (fun r2 => ((¬ r2 = 0 → (vp_in x1 4 ∧ (((w_i (x_h z0 x1.toNatClampNeg) 1) = 0 → (post (-11 : Int32) z0)) ∧ (¬ (w_i (x_h z0 x1.toNatClampNeg) 1) = 0 → (vp_in x3 4 ∧ ((¬ (w_i (x_h z0 x3.toNatClampNeg) 1) = 0 → (vp_in x1 4 ∧ (vp_in x3 4 ∧ (((w_i (x_h z0 x1.toNatClampNeg) 2) = (w_i (x_h z0 x3.toNatClampNeg) 2) → (vp_in x1 4 ∧ (wpX2_hasSpan x2 x5 (x_h z0 x1.toNatClampNeg) (fun r3 => ((r3 = 0 → (post (-13 : Int32) z0)) ∧ (¬ r3 = 0 → (vp_in x3 4 ∧ (wpX2_hasSpan x4 x5 (x_h z0 x3.toNatClampNeg) (fun r4 => ((¬ r4 = 0 → (vp_in x1 4 ∧ (vp_in x3 4 ∧ (¬ x2 < 0 ∧ ¬ x4 < 0 ∧ ¬ x5 < 0 ∧ x2.toNatClampNeg + x5.toNatClampNeg ≤ 24 ∧ x4.toNatClampNeg + x5.toNatClampNeg ≤ 24 ∧ ∀ z1 : wXS, z1 = (x_sh z0 x3.toNatClampNeg (w_sl (x_h z0 x3.toNatClampNeg) 0 (va_cpy (w_l (x_h z0 x1.toNatClampNeg) 0) (w_l (x_h z0 x3.toNatClampNeg) 0) x2.toNatClampNeg x4.toNatClampNeg x5.toNatClampNeg))) → (post x5 z1))))) ∧ (r4 = 0 → (post (-13 : Int32) z0)))))))))))) ∧ (¬ (w_i (x_h z0 x1.toNatClampNeg) 2) = (w_i (x_h z0 x3.toNatClampNeg) 2) → (post (-12 : Int32) z0)))))) ∧ ((w_i (x_h z0 x3.toNatClampNeg) 1) = 0 → (post (-11 : Int32) z0)))))))) ∧ (r2 = 0 → (post (-1 : Int32) z0)))))))))
set_option maxHeartbeats 4000000 in
set_option maxRecDepth 100000 in
theorem cX5_copy_c {l : Launch} {G : wG} {h : Nat → Nat} {sz : Nat} {x1 : Int32} {x2 : Int32} {x3 : Int32} {x4 : Int32} {x5 : Int32} {post : Int32 → (wXS) → Prop} {z0 : wXS}  (hw : wpX5_copy x1 x2 x3 x4 x5 z0 post) : Met l yX5_copy (.code yX5_copy cX5_copy 6 (some .int) :: BIG) { frames := 2, cells := 0, slots := 0, locals := 42 } (xPw G [.ref (h 0), .int x1, .int x2, .int x3, .int x4, .int x5] (wsX G h z0) sz) (xQi G post (fun q => (wsX G h q)) (va_A (wsX G h z0) sz)) 0 0 (va_A (wsX G h z0) sz) := by
  refine xm_wi (by decide) (Nat.le_of_ble_eq_true rfl) (fun p e s m args below meth c A ls R Q hC hK hA hP hD hS hl hF hL hret => ?_)
  have hx := hC.1
  have hb := hC.2.1
  have hl : lv_has ls 6 [(0, .ref (h 0)), (1, .int x1), (2, .int x2), (3, .int x3), (4, .int x4), (5, .int x5)] := hl
  unfold wpX5_copy at hw
  refine lv_iload_n hx hb dX5_copy_0 rfl (lv_at hl 1 rfl) ?_
  refine vp_callSi (xro (xr_S hC (cX5_isSheet_c hw) ⟨rfl, rfl⟩ bw_532 calX5_isSheet ⟨Nat.le_trans (Nat.le_of_ble_eq_true rfl) hF, Nat.le_trans (Nat.le_of_ble_eq_true rfl) hL⟩ (rest := []) (xpS hK) rfl hl rfl (Nat.le_of_ble_eq_true rfl) dX5_copy_1 ⟨Nat.zero_le _, Nat.zero_le _⟩)) (fun r1 hw => ?_)
  refine lv_if_eq (tgt := 14) hx hb dX5_copy_4 (by decide) (fun hc => ?_) (fun hc => ?_)
  · have hw := And.left hw hc
    refine lv_iconst (v := (-1 : Int32)) hx hb dX5_copy_14 (by decide) ?_
    exact hret _ _ _ _ _ _ hw hP hD hS dX5_copy_15
  · have hw := And.right hw hc
    refine lv_iload_n hx hb dX5_copy_7 rfl (lv_at hl 3 rfl) ?_
    refine vp_callSi (xro (xr_S hC (cX5_isSheet_c hw) ⟨rfl, rfl⟩ bw_532 calX5_isSheet ⟨Nat.le_trans (Nat.le_of_ble_eq_true rfl) hF, Nat.le_trans (Nat.le_of_ble_eq_true rfl) hL⟩ (rest := []) (xpS hK) rfl hl rfl (Nat.le_of_ble_eq_true rfl) dX5_copy_8 ⟨Nat.zero_le _, Nat.zero_le _⟩)) (fun r2 hw => ?_)
    refine lv_if_ne (tgt := 16) hx hb dX5_copy_11 (by decide) (fun hc => ?_) (fun hc => ?_)
    · have hw := And.left hw hc
      refine lv_aload_n hx hb dX5_copy_16 rfl (lv_at hl 0 rfl) ?_
      refine rg_X_X5_0_7 hC hK hP dX5_copy_17 ?_
      refine lv_iload_n hx hb dX5_copy_20 rfl (lv_at hl 1 rfl) ?_
      have hn0 := w_n4 (And.left hw)
      refine rx_ald hC hK hP (And.left hw) dX5_copy_21 ?_
      have hw := And.right hw
      refine rg_X_X5_H_1 (n := x1.toNatClampNeg) hn0 hC hK hP dX5_copy_22 ?_
      refine lv_if_eq (tgt := 40) hx hb dX5_copy_25 (by decide) (fun hc => ?_) (fun hc => ?_)
      · have hw := And.left hw hc
        refine lv_bipush (v := (-11 : Int32)) hx hb dX5_copy_40 (by decide) ?_
        exact hret _ _ _ _ _ _ hw hP hD hS dX5_copy_42
      · have hw := And.right hw hc
        refine lv_aload_n hx hb dX5_copy_28 rfl (lv_at hl 0 rfl) ?_
        refine rg_X_X5_0_7 hC hK hP dX5_copy_29 ?_
        refine lv_iload_n hx hb dX5_copy_32 rfl (lv_at hl 3 rfl) ?_
        have hn1 := w_n4 (And.left hw)
        refine rx_ald hC hK hP (And.left hw) dX5_copy_33 ?_
        have hw := And.right hw
        refine rg_X_X5_H_1 (n := x3.toNatClampNeg) hn1 hC hK hP dX5_copy_34 ?_
        refine lv_if_ne (tgt := 43) hx hb dX5_copy_37 (by decide) (fun hc => ?_) (fun hc => ?_)
        · have hw := And.left hw hc
          refine lv_aload_n hx hb dX5_copy_43 rfl (lv_at hl 0 rfl) ?_
          refine rg_X_X5_0_7 hC hK hP dX5_copy_44 ?_
          refine lv_iload_n hx hb dX5_copy_47 rfl (lv_at hl 1 rfl) ?_
          have hn0 := w_n4 (And.left hw)
          refine rx_ald hC hK hP (And.left hw) dX5_copy_48 ?_
          have hw := And.right hw
          refine rg_X_X5_H_2 (n := x1.toNatClampNeg) hn0 hC hK hP dX5_copy_49 ?_
          refine lv_aload_n hx hb dX5_copy_52 rfl (lv_at hl 0 rfl) ?_
          refine rg_X_X5_0_7 hC hK hP dX5_copy_53 ?_
          refine lv_iload_n hx hb dX5_copy_56 rfl (lv_at hl 3 rfl) ?_
          have hn1 := w_n4 (And.left hw)
          refine rx_ald hC hK hP (And.left hw) dX5_copy_57 ?_
          have hw := And.right hw
          refine rg_X_X5_H_2 (n := x3.toNatClampNeg) hn1 hC hK hP dX5_copy_58 ?_
          refine lv_icmp_eq (tgt := 67) hx hb dX5_copy_61 (by decide) (fun hc => ?_) (fun hc => ?_)
          · have hw := And.left hw hc
            refine lv_aload_n hx hb dX5_copy_67 rfl (lv_at hl 0 rfl) ?_
            refine rg_X_X5_0_7 hC hK hP dX5_copy_68 ?_
            refine lv_iload_n hx hb dX5_copy_71 rfl (lv_at hl 1 rfl) ?_
            have hn0 := w_n4 (And.left hw)
            refine rx_ald hC hK hP (And.left hw) dX5_copy_72 ?_
            have hw := And.right hw
            refine lv_iload_n hx hb dX5_copy_73 rfl (lv_at hl 2 rfl) ?_
            refine lv_iload hx hb dX5_copy_74 (lv_at hl 5 rfl) ?_
            refine vp_callSi (xro (xr_VN hC hK.2 (cX2_hasSpan_c (h := (sh h (35 + 2 * x1.toNatClampNeg))) hw) ⟨rfl, rfl⟩ bw_538 calX2_hasSpan ⟨Nat.le_trans (Nat.le_of_ble_eq_true rfl) hF, Nat.le_trans (Nat.le_of_ble_eq_true rfl) hL⟩ (rest := []) (xpR hK (xCut.P (cut_X_Hn (n := x1.toNatClampNeg) hn0) hP) rfl rfl) rfl hl rfl (Nat.le_of_ble_eq_true rfl) dX5_copy_76 ⟨Nat.zero_le _, Nat.zero_le _⟩)) (fun r3 hw => ?_)
            refine lv_if_eq (tgt := 98) hx hb dX5_copy_79 (by decide) (fun hc => ?_) (fun hc => ?_)
            · have hw := And.left hw hc
              refine lv_bipush (v := (-13 : Int32)) hx hb dX5_copy_98 (by decide) ?_
              exact hret _ _ _ _ _ _ hw hP hD hS dX5_copy_100
            · have hw := And.right hw hc
              refine lv_aload_n hx hb dX5_copy_82 rfl (lv_at hl 0 rfl) ?_
              refine rg_X_X5_0_7 hC hK hP dX5_copy_83 ?_
              refine lv_iload_n hx hb dX5_copy_86 rfl (lv_at hl 3 rfl) ?_
              have hn1 := w_n4 (And.left hw)
              refine rx_ald hC hK hP (And.left hw) dX5_copy_87 ?_
              have hw := And.right hw
              refine lv_iload hx hb dX5_copy_88 (lv_at hl 4 rfl) ?_
              refine lv_iload hx hb dX5_copy_90 (lv_at hl 5 rfl) ?_
              refine vp_callSi (xro (xr_VN hC hK.2 (cX2_hasSpan_c (h := (sh h (35 + 2 * x3.toNatClampNeg))) hw) ⟨rfl, rfl⟩ bw_538 calX2_hasSpan ⟨Nat.le_trans (Nat.le_of_ble_eq_true rfl) hF, Nat.le_trans (Nat.le_of_ble_eq_true rfl) hL⟩ (rest := []) (xpR hK (xCut.P (cut_X_Hn (n := x3.toNatClampNeg) hn1) hP) rfl rfl) rfl hl rfl (Nat.le_of_ble_eq_true rfl) dX5_copy_92 ⟨Nat.zero_le _, Nat.zero_le _⟩)) (fun r4 hw => ?_)
              refine lv_if_ne (tgt := 101) hx hb dX5_copy_95 (by decide) (fun hc => ?_) (fun hc => ?_)
              · have hw := And.left hw hc
                refine lv_aload_n hx hb dX5_copy_101 rfl (lv_at hl 0 rfl) ?_
                refine rg_X_X5_0_7 hC hK hP dX5_copy_102 ?_
                refine lv_iload_n hx hb dX5_copy_105 rfl (lv_at hl 1 rfl) ?_
                have hn0 := w_n4 (And.left hw)
                refine rx_ald hC hK hP (And.left hw) dX5_copy_106 ?_
                have hw := And.right hw
                refine rg_X_X5_H_0 (n := x1.toNatClampNeg) hn0 hC hK hP dX5_copy_107 ?_
                refine lv_iload_n hx hb dX5_copy_110 rfl (lv_at hl 2 rfl) ?_
                refine lv_aload_n hx hb dX5_copy_111 rfl (lv_at hl 0 rfl) ?_
                refine rg_X_X5_0_7 hC hK hP dX5_copy_112 ?_
                refine lv_iload_n hx hb dX5_copy_115 rfl (lv_at hl 3 rfl) ?_
                have hn1 := w_n4 (And.left hw)
                refine rx_ald hC hK hP (And.left hw) dX5_copy_116 ?_
                have hw := And.right hw
                refine rg_X_X5_H_0 (n := x3.toNatClampNeg) hn1 hC hK hP dX5_copy_117 ?_
                refine lv_iload hx hb dX5_copy_120 (lv_at hl 4 rfl) ?_
                refine lv_iload hx hb dX5_copy_122 (lv_at hl 5 rfl) ?_
                obtain ⟨h1, h2, h3, h4, h5, hw⟩ := hw
                refine rc_X_H (n1 := x1.toNatClampNeg) (n2 := x3.toNatClampNeg) hn0 hn1 hC hK hP hD hS hl (Nat.le_trans (Nat.le_of_ble_eq_true rfl) hF) (Nat.le_trans (Nat.le_of_ble_eq_true rfl) hL) h1 h2 h3 h4 h5 dX5_copy_124 (fun z1 H locs hz1 hP hD hS => ?_)
                have hw := hw z1 hz1
                refine lv_iload hx hb dX5_copy_127 (lv_at hl 5 rfl) ?_
                exact hret _ _ _ _ _ _ hw hP hD hS dX5_copy_129
              · have hw := And.right hw hc
                refine lv_bipush (v := (-13 : Int32)) hx hb dX5_copy_98 (by decide) ?_
                exact hret _ _ _ _ _ _ hw hP hD hS dX5_copy_100
          · have hw := And.right hw hc
            refine lv_bipush (v := (-12 : Int32)) hx hb dX5_copy_64 (by decide) ?_
            exact hret _ _ _ _ _ _ hw hP hD hS dX5_copy_66
        · have hw := And.right hw hc
          refine lv_bipush (v := (-11 : Int32)) hx hb dX5_copy_40 (by decide) ?_
          exact hret _ _ _ _ _ _ hw hP hD hS dX5_copy_42
    · have hw := And.right hw hc
      refine lv_iconst (v := (-1 : Int32)) hx hb dX5_copy_14 (by decide) ?_
      exact hret _ _ _ _ _ _ hw hP hD hS dX5_copy_15
