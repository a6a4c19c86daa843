def wpX5_folk (x1 : Int32) (x2 : Int32) (x3 : Int32) (z0 : wXS) (post : Int32 → (wXS) → Prop) : Prop := (wpX5_within x1 (0 : Int32) (3 : Int32) (fun r1 => ((r1 = 0 → (post (-1 : Int32) z0)) ∧ (¬ r1 = 0 → (wpX5_within x2 (-3 : Int32) (3 : Int32) (fun r2 => ((r2 = 0 → (post (-1 : Int32) z0)) ∧ (¬ r2 = 0 → (wpX5_within x3 (1 : Int32) (9 : Int32) (fun r3 => ((¬ r3 = 0 → (((w_i (w_f (x_w z0)) 4) < (6 : Int32) → (wpX0_add x1 x2 x3 (w_f (x_w z0)) (fun r4 u => ∀ z1 : wXS, z1 = (x_sw z0 (w_sf (x_w z0) u)) → (post r4 z1)))) ∧ (¬ (w_i (w_f (x_w z0)) 4) < (6 : Int32) → (post (-3 : Int32) z0)))) ∧ (r3 = 0 → (post (-1 : Int32) z0)))))))))))))
set_option maxHeartbeats 4000000 in
set_option maxRecDepth 100000 in
theorem cX5_folk_c {l : Launch} {G : wG} {h : Nat → Nat} {sz : Nat} {x1 : Int32} {x2 : Int32} {x3 : Int32} {post : Int32 → (wXS) → Prop} {z0 : wXS}  (hw : wpX5_folk x1 x2 x3 z0 post) : Met l yX5_folk (.code yX5_folk cX5_folk 4 (some .int) :: BIG) { frames := 1, cells := 0, slots := 0, locals := 24 } (xPw G [.ref (h 0), .int x1, .int x2, .int x3] (wsX G h z0) sz) (xQi G post (fun q => (wsX G h q)) (va_A (wsX G h z0) sz)) 0 0 (va_A (wsX G h z0) sz) := by
  refine xm_wi (by decide) (Nat.le_of_ble_eq_true rfl) (fun p e s m args below meth c A ls R Q hC hK hA hP hD hS hl hF hL hret => ?_)
  have hx := hC.1
  have hb := hC.2.1
  have hl : lv_has ls 4 [(0, .ref (h 0)), (1, .int x1), (2, .int x2), (3, .int x3)] := hl
  unfold wpX5_folk at hw
  refine lv_iload_n hx hb dX5_folk_0 rfl (lv_at hl 1 rfl) ?_
  refine lv_iconst (v := (0 : Int32)) hx hb dX5_folk_1 (by decide) ?_
  refine lv_iconst (v := (3 : Int32)) hx hb dX5_folk_2 (by decide) ?_
  refine vp_callSi (xro (xr_S hC (cX5_within_c hw) ⟨rfl, rfl⟩ bw_223 calX5_within ⟨Nat.le_trans (Nat.le_of_ble_eq_true rfl) hF, Nat.le_trans (Nat.le_of_ble_eq_true rfl) hL⟩ (rest := []) (xpS hK) rfl hl rfl (Nat.le_of_ble_eq_true rfl) dX5_folk_3 ⟨Nat.zero_le _, Nat.zero_le _⟩)) (fun r1 hw => ?_)
  refine lv_if_eq (tgt := 29) hx hb dX5_folk_6 (by decide) (fun hc => ?_) (fun hc => ?_)
  · have hw := And.left hw hc
    refine lv_iconst (v := (-1 : Int32)) hx hb dX5_folk_29 (by decide) ?_
    exact hret _ _ _ _ _ _ hw hP hD hS dX5_folk_30
  · have hw := And.right hw hc
    refine lv_iload_n hx hb dX5_folk_9 rfl (lv_at hl 2 rfl) ?_
    refine lv_bipush (v := (-3 : Int32)) hx hb dX5_folk_10 (by decide) ?_
    refine lv_iconst (v := (3 : Int32)) hx hb dX5_folk_12 (by decide) ?_
    refine vp_callSi (xro (xr_S hC (cX5_within_c hw) ⟨rfl, rfl⟩ bw_223 calX5_within ⟨Nat.le_trans (Nat.le_of_ble_eq_true rfl) hF, Nat.le_trans (Nat.le_of_ble_eq_true rfl) hL⟩ (rest := []) (xpS hK) rfl hl rfl (Nat.le_of_ble_eq_true rfl) dX5_folk_13 ⟨Nat.zero_le _, Nat.zero_le _⟩)) (fun r2 hw => ?_)
    refine lv_if_eq (tgt := 29) hx hb dX5_folk_16 (by decide) (fun hc => ?_) (fun hc => ?_)
    · have hw := And.left hw hc
      refine lv_iconst (v := (-1 : Int32)) hx hb dX5_folk_29 (by decide) ?_
      exact hret _ _ _ _ _ _ hw hP hD hS dX5_folk_30
    · have hw := And.right hw hc
      refine lv_iload_n hx hb dX5_folk_19 rfl (lv_at hl 3 rfl) ?_
      refine lv_iconst (v := (1 : Int32)) hx hb dX5_folk_20 (by decide) ?_
      refine lv_bipush (v := (9 : Int32)) hx hb dX5_folk_21 (by decide) ?_
      refine vp_callSi (xro (xr_S hC (cX5_within_c hw) ⟨rfl, rfl⟩ bw_223 calX5_within ⟨Nat.le_trans (Nat.le_of_ble_eq_true rfl) hF, Nat.le_trans (Nat.le_of_ble_eq_true rfl) hL⟩ (rest := []) (xpS hK) rfl hl rfl (Nat.le_of_ble_eq_true rfl) dX5_folk_23 ⟨Nat.zero_le _, Nat.zero_le _⟩)) (fun r3 hw => ?_)
      refine lv_if_ne (tgt := 31) hx hb dX5_folk_26 (by decide) (fun hc => ?_) (fun hc => ?_)
      · have hw := And.left hw hc
        refine lv_aload_n hx hb dX5_folk_31 rfl (lv_at hl 0 rfl) ?_
        refine rg_X_X5_0_0 hC hK hP dX5_folk_32 ?_
        refine rg_X_X5_1_0 hC hK hP dX5_folk_35 ?_
        refine rg_X_X5_4_4 hC hK hP dX5_folk_38 ?_
        refine lv_bipush (v := (6 : Int32)) hx hb dX5_folk_41 (by decide) ?_
        refine lv_icmp_lt (tgt := 49) hx hb dX5_folk_43 (by decide) (fun hc => ?_) (fun hc => ?_)
        · have hw := And.left hw hc
          refine lv_aload_n hx hb dX5_folk_49 rfl (lv_at hl 0 rfl) ?_
          refine rg_X_X5_0_0 hC hK hP dX5_folk_50 ?_
          refine rg_X_X5_1_0 hC hK hP dX5_folk_53 ?_
          refine lv_iload_n hx hb dX5_folk_56 rfl (lv_at hl 1 rfl) ?_
          refine lv_iload_n hx hb dX5_folk_57 rfl (lv_at hl 2 rfl) ?_
          refine lv_iload_n hx hb dX5_folk_58 rfl (lv_at hl 3 rfl) ?_
          refine xc_wi (S := wSt) (wsz := fun q => (wsX G h q)) (f := fun u => (x_sw z0 (w_sf (x_w z0) u))) (xr_VN hC hK.2 (cX0_add_c (h := (sh h 4)) hw) ⟨rfl, rfl⟩ bw_226 calX0_add ⟨Nat.le_trans (Nat.le_of_ble_eq_true rfl) hF, Nat.le_trans (Nat.le_of_ble_eq_true rfl) hL⟩ (rest := []) (xpV hK (cut_X_F4) hP hD rfl rfl) rfl hl rfl (Nat.le_of_ble_eq_true rfl) dX5_folk_59 ⟨Nat.zero_le _, Nat.zero_le _⟩) (cut_X_F4) hP hD hS hA (fun r4 u z1 H locs hz1 hw hP hD hS => ?_)
          have hw := hw z1 hz1
          exact hret _ _ _ _ _ _ hw hP hD hS dX5_folk_62
        · have hw := And.right hw hc
          refine lv_bipush (v := (-3 : Int32)) hx hb dX5_folk_46 (by decide) ?_
          exact hret _ _ _ _ _ _ hw hP hD hS dX5_folk_48
      · have hw := And.right hw hc
        refine lv_iconst (v := (-1 : Int32)) hx hb dX5_folk_29 (by decide) ?_
        exact hret _ _ _ _ _ _ hw hP hD hS dX5_folk_30
def wpX5_told (x1 : Int32) (x2 : Int32) (z0 : wXS) (post : Int32 → Prop) : Prop := (wpX0_has x1 (w_f (x_w z0)) (fun r1 => ((¬ r1 = 0 → ((x2.toInt < 0 ∨ 4 < x2.toInt → (post (-100001 : Int32))) ∧ (x2 = (0 : Int32) → (vp_in x1 6 ∧ (post ((w_a (w_f (x_w z0)) 0) x1.toNatClampNeg)))) ∧ (x2 = (1 : Int32) → (vp_in x1 6 ∧ (post ((w_a (w_f (x_w z0)) 1) x1.toNatClampNeg)))) ∧ (x2 = (2 : Int32) → (vp_in x1 6 ∧ (post ((w_a (w_f (x_w z0)) 2) x1.toNatClampNeg)))) ∧ (x2 = (3 : Int32) → (vp_in x1 6 ∧ (post ((w_a (w_o (x_w z0)) 1) x1.toNatClampNeg)))) ∧ (x2 = (4 : Int32) → (vp_in x1 6 ∧ (post ((w_a (w_f (x_w z0)) 3) x1.toNatClampNeg)))))) ∧ (r1 = 0 → (post (-100001 : Int32))))))
set_option maxHeartbeats 4000000 in
set_option maxRecDepth 100000 in
theorem cX5_told_c {l : Launch} {G : wG} {h : Nat → Nat} {x1 : Int32} {x2 : Int32} {post : Int32 → Prop} {z0 : wXS}  (hw : wpX5_told x1 x2 z0 post) : Met l yX5_told (.code yX5_told cX5_told 3 (some .int) :: BIG) { frames := 1, cells := 0, slots := 0, locals := 21 } (xPr G [.ref (h 0), .int x1, .int x2] (wsX G h z0)) (vp_Si post) 0 0 (fun _ => False) := by
  refine xm_ri (by decide) (Nat.le_of_ble_eq_true rfl) (fun p e s m args below meth c ls R Q hC hK hP hl hF hL hret => ?_)
  have hx := hC.1
  have hb := hC.2.1
  have hl : lv_has ls 3 [(0, .ref (h 0)), (1, .int x1), (2, .int x2)] := hl
  unfold wpX5_told at hw
  refine lv_aload_n hx hb dX5_told_0 rfl (lv_at hl 0 rfl) ?_
  refine rg_X_X5_0_0 hC hK hP dX5_told_1 ?_
  refine rg_X_X5_1_0 hC hK hP dX5_told_4 ?_
  refine lv_iload_n hx hb dX5_told_7 rfl (lv_at hl 1 rfl) ?_
  refine vp_callSi (xro (xr_VN hC hK.2 (cX0_has_c (h := (sh h 4)) hw) ⟨rfl, rfl⟩ bw_234 calX0_has ⟨Nat.le_trans (Nat.le_of_ble_eq_true rfl) hF, Nat.le_trans (Nat.le_of_ble_eq_true rfl) hL⟩ (rest := []) (xpR hK (xCut.P (cut_X_F4) hP) rfl rfl) rfl hl rfl (Nat.le_of_ble_eq_true rfl) dX5_told_8 ⟨Nat.zero_le _, Nat.zero_le _⟩)) (fun r1 hw => ?_)
  refine lv_if_ne (tgt := 17) hx hb dX5_told_11 (by decide) (fun hc => ?_) (fun hc => ?_)
  · have hw := And.left hw hc
    refine lv_iload_n hx hb dX5_told_17 rfl (lv_at hl 2 rfl) ?_
    rcases x_tswL x2 0 5 (by decide) with hq | ⟨j, hj, hq⟩
    · have hw := And.left hw (by omega)
      refine lv_tableOut (tgt := 114) hx hb dX5_told_18 (by omega) (by decide) ?_
      refine lv_ldc (v := (-100001 : Int32)) hx hb hC.2.2.2.1 (hC.2.2.2.2 _ bw_238) dX5_told_114 ?_
      exact hret _ _ _ hw dX5_told_116
    · have hw := And.right hw
      obtain rfl | rfl | rfl | rfl | rfl : j = 0 ∨ j = 1 ∨ j = 2 ∨ j = 3 ∨ j = 4 := by omega
      · have hw := (And.left hw) hq
        refine lv_tableIn (off := 34) (tgt := 52) hx hb dX5_told_18 (by rw [hq]; decide) (by rw [hq]; decide) (by rw [hq]; rfl) (by decide) ?_
        refine lv_aload_n hx hb dX5_told_52 rfl (lv_at hl 0 rfl) ?_
        refine rg_X_X5_0_0 hC hK hP dX5_told_53 ?_
        refine rg_X_X5_1_0 hC hK hP dX5_told_56 ?_
        refine rg_X_X5_4_0 hC hK hP dX5_told_59 ?_
        refine lv_iload_n hx hb dX5_told_62 rfl (lv_at hl 1 rfl) ?_
        refine rl_X_5 hC hK hP (And.left hw) dX5_told_63 ?_
        have hw := And.right hw
        exact hret _ _ _ hw dX5_told_64
      · have hw := (And.left (And.right hw)) hq
        refine lv_tableIn (off := 47) (tgt := 65) hx hb dX5_told_18 (by rw [hq]; decide) (by rw [hq]; decide) (by rw [hq]; rfl) (by decide) ?_
        refine lv_aload_n hx hb dX5_told_65 rfl (lv_at hl 0 rfl) ?_
        refine rg_X_X5_0_0 hC hK hP dX5_told_66 ?_
        refine rg_X_X5_1_0 hC hK hP dX5_told_69 ?_
        refine rg_X_X5_4_1 hC hK hP dX5_told_72 ?_
        refine lv_iload_n hx hb dX5_told_75 rfl (lv_at hl 1 rfl) ?_
        refine rl_X_6 hC hK hP (And.left hw) dX5_told_76 ?_
        have hw := And.right hw
        exact hret _ _ _ hw dX5_told_77
      · have hw := (And.left (And.right (And.right hw))) hq
        refine lv_tableIn (off := 60) (tgt := 78) hx hb dX5_told_18 (by rw [hq]; decide) (by rw [hq]; decide) (by rw [hq]; rfl) (by decide) ?_
        refine lv_aload_n hx hb dX5_told_78 rfl (lv_at hl 0 rfl) ?_
        refine rg_X_X5_0_0 hC hK hP dX5_told_79 ?_
        refine rg_X_X5_1_0 hC hK hP dX5_told_82 ?_
        refine rg_X_X5_4_2 hC hK hP dX5_told_85 ?_
        refine lv_iload_n hx hb dX5_told_88 rfl (lv_at hl 1 rfl) ?_
        refine rl_X_7 hC hK hP (And.left hw) dX5_told_89 ?_
        have hw := And.right hw
        exact hret _ _ _ hw dX5_told_90
      · have hw := (And.left (And.right (And.right (And.right hw)))) hq
        refine lv_tableIn (off := 73) (tgt := 91) hx hb dX5_told_18 (by rw [hq]; decide) (by rw [hq]; decide) (by rw [hq]; rfl) (by decide) ?_
        refine lv_aload_n hx hb dX5_told_91 rfl (lv_at hl 0 rfl) ?_
        refine rg_X_X5_0_0 hC hK hP dX5_told_92 ?_
        refine rg_X_X5_1_1 hC hK hP dX5_told_95 ?_
        refine lv_iload_n hx hb dX5_told_98 rfl (lv_at hl 1 rfl) ?_
        refine rl_X_2 hC hK hP (And.left hw) dX5_told_99 ?_
        have hw := And.right hw
        exact hret _ _ _ hw dX5_told_100
      · have hw := ((And.right (And.right (And.right (And.right hw))))) hq
        refine lv_tableIn (off := 83) (tgt := 101) hx hb dX5_told_18 (by rw [hq]; decide) (by rw [hq]; decide) (by rw [hq]; rfl) (by decide) ?_
        refine lv_aload_n hx hb dX5_told_101 rfl (lv_at hl 0 rfl) ?_
        refine rg_X_X5_0_0 hC hK hP dX5_told_102 ?_
        refine rg_X_X5_1_0 hC hK hP dX5_told_105 ?_
        refine rg_X_X5_4_3 hC hK hP dX5_told_108 ?_
        refine lv_iload_n hx hb dX5_told_111 rfl (lv_at hl 1 rfl) ?_
        refine rl_X_8 hC hK hP (And.left hw) dX5_told_112 ?_
        have hw := And.right hw
        exact hret _ _ _ hw dX5_told_113
  · have hw := And.right hw hc
    refine lv_ldc (v := (-100001 : Int32)) hx hb hC.2.2.2.1 (hC.2.2.2.2 _ bw_238) dX5_told_14 ?_
    exact hret _ _ _ hw dX5_told_16
def wpX5_quarrel_55  (post : Int32 → (wXS) → Prop) (x1 : Int32) (x2 : Int32) (x3 : Int32) (t0 : Int32) (z0 : wXS) : Prop := (wpX0_makeFoes x1 x2 x3 (w_f (x_w z0)) (fun u => ∀ z1 : wXS, z1 = (x_sw z0 (w_sf (x_w z0) u)) → (post t0 z1)))
def wpX5_quarrel (x1 : Int32) (x2 : Int32) (x3 : Int32) (z0 : wXS) (post : Int32 → (wXS) → Prop) : Prop := (wpX0_has x1 (w_f (x_w z0)) (fun r1 => ((r1 = 0 → (post (-1 : Int32) z0)) ∧ (¬ r1 = 0 → (wpX0_has x2 (w_f (x_w z0)) (fun r2 => ((r2 = 0 → (post (-1 : Int32) z0)) ∧ (¬ r2 = 0 → ((¬ x1 = x2 → (wpX0_areFoes x1 x2 (w_f (x_w z0)) (fun r3 => ((r3 = 0 → (wpX5_quarrel_55  post x1 x2 x3 (0 : Int32) z0)) ∧ (¬ r3 = 0 → (wpX5_quarrel_55  post x1 x2 x3 (1 : Int32) z0)))))) ∧ (x1 = x2 → (post (-1 : Int32) z0)))))))))))
set_option maxHeartbeats 4000000 in
set_option maxRecDepth 100000 in
theorem cX5_quarrel_c {l : Launch} {G : wG} {h : Nat → Nat} {sz : Nat} {x1 : Int32} {x2 : Int32} {x3 : Int32} {post : Int32 → (wXS) → Prop} {z0 : wXS}  (hw : wpX5_quarrel x1 x2 x3 z0 post) : Met l yX5_quarrel (.code yX5_quarrel cX5_quarrel 5 (some .int) :: BIG) { frames := 2, cells := 0, slots := 0, locals := 44 } (xPw G [.ref (h 0), .int x1, .int x2, .int x3] (wsX G h z0) sz) (xQi G post (fun q => (wsX G h q)) (va_A (wsX G h z0) sz)) 0 0 (va_A (wsX G h z0) sz) := by
  refine xm_wi (by decide) (Nat.le_of_ble_eq_true rfl) (fun p e s m args below meth c A ls R Q hC hK hA hP hD hS hl hF hL hret => ?_)
  have hx := hC.1
  have hb := hC.2.1
  have hl : lv_has ls 5 [(0, .ref (h 0)), (1, .int x1), (2, .int x2), (3, .int x3)] := hl
  have B55 : ∀ (x1 : Int32) (x2 : Int32) (x3 : Int32) (t0 : Int32) (z0 : wXS) (H : Heap) (locs : List Loc) (ls : Array Slot), wpX5_quarrel_55  post x1 x2 x3 t0 z0 → va_P G.1 vwCl (wsX G h z0) H → va_D A (wsX G h z0) → va_S A s.heap H locs → lv_has ls 5 [(0, .ref (h 0)), (1, .int x1), (2, .int x2), (3, .int x3)] → W p l e R s m args below meth c H locs 0 0 Q (F0 m 55 ls [.int t0]) := by
    intro x1 x2 x3 t0 z0 H locs ls hw hP hD hS hl
    unfold wpX5_quarrel_55 at hw
    refine lv_istore (lv' := [(4, .int t0), (0, .ref (h 0)), (1, .int x1), (2, .int x2), (3, .int x3)]) hx hb dX5_quarrel_55 hl (by decide) rfl (fun ls hl => ?_)
    refine lv_aload_n hx hb dX5_quarrel_57 rfl (lv_at hl 1 rfl) ?_
    refine rg_X_X5_0_0 hC hK hP dX5_quarrel_58 ?_
    refine rg_X_X5_1_0 hC hK hP dX5_quarrel_61 ?_
    refine lv_iload_n hx hb dX5_quarrel_64 rfl (lv_at hl 2 rfl) ?_
    refine lv_iload_n hx hb dX5_quarrel_65 rfl (lv_at hl 3 rfl) ?_
    refine lv_iload_n hx hb dX5_quarrel_66 rfl (lv_at hl 4 rfl) ?_
    refine xc_wv (S := wSt) (wsz := fun q => (wsX G h q)) (f := fun u => (x_sw z0 (w_sf (x_w z0) u))) (xr_VN hC hK.2 (cX0_makeFoes_c (h := (sh h 4)) hw) ⟨rfl, rfl⟩ bw_248 calX0_makeFoes ⟨Nat.le_trans (Nat.le_of_ble_eq_true rfl) hF, Nat.le_trans (Nat.le_of_ble_eq_true rfl) hL⟩ (rest := []) (xpV hK (cut_X_F4) hP hD rfl rfl) rfl hl rfl (Nat.le_of_ble_eq_true rfl) dX5_quarrel_67 ⟨Nat.zero_le _, Nat.zero_le _⟩) (cut_X_F4) hP hD hS hA (fun u z1 H locs hz1 hw hP hD hS => ?_)
    have hw := hw z1 hz1
    refine lv_iload hx hb dX5_quarrel_70 (lv_at hl 0 rfl) ?_
    exact hret _ _ _ _ _ _ hw hP hD hS dX5_quarrel_72
  unfold wpX5_quarrel at hw
  refine lv_aload_n hx hb dX5_quarrel_0 rfl (lv_at hl 0 rfl) ?_
  refine rg_X_X5_0_0 hC hK hP dX5_quarrel_1 ?_
  refine rg_X_X5_1_0 hC hK hP dX5_quarrel_4 ?_
  refine lv_iload_n hx hb dX5_quarrel_7 rfl (lv_at hl 1 rfl) ?_
  refine vp_callSi (xro (xr_VN hC hK.2 (cX0_has_c (h := (sh h 4)) hw) ⟨rfl, rfl⟩ bw_234 calX0_has ⟨Nat.le_trans (Nat.le_of_ble_eq_true rfl) hF, Nat.le_trans (Nat.le_of_ble_eq_true rfl) hL⟩ (rest := []) (xpR hK (xCut.P (cut_X_F4) hP) rfl rfl) rfl hl rfl (Nat.le_of_ble_eq_true rfl) dX5_quarrel_8 ⟨Nat.zero_le _, Nat.zero_le _⟩)) (fun r1 hw => ?_)
  refine lv_if_eq (tgt := 33) hx hb dX5_quarrel_11 (by decide) (fun hc => ?_) (fun hc => ?_)
  · have hw := And.left hw hc
    refine lv_iconst (v := (-1 : Int32)) hx hb dX5_quarrel_33 (by decide) ?_
    exact hret _ _ _ _ _ _ hw hP hD hS dX5_quarrel_34
  · have hw := And.right hw hc
    refine lv_aload_n hx hb dX5_quarrel_14 rfl (lv_at hl 0 rfl) ?_
    refine rg_X_X5_0_0 hC hK hP dX5_quarrel_15 ?_
    refine rg_X_X5_1_0 hC hK hP dX5_quarrel_18 ?_
    refine lv_iload_n hx hb dX5_quarrel_21 rfl (lv_at hl 2 rfl) ?_
    refine vp_callSi (xro (xr_VN hC hK.2 (cX0_has_c (h := (sh h 4)) hw) ⟨rfl, rfl⟩ bw_234 calX0_has ⟨Nat.le_trans (Nat.le_of_ble_eq_true rfl) hF, Nat.le_trans (Nat.le_of_ble_eq_true rfl) hL⟩ (rest := []) (xpR hK (xCut.P (cut_X_F4) hP) rfl rfl) rfl hl rfl (Nat.le_of_ble_eq_true rfl) dX5_quarrel_22 ⟨Nat.zero_le _, Nat.zero_le _⟩)) (fun r2 hw => ?_)
    refine lv_if_eq (tgt := 33) hx hb dX5_quarrel_25 (by decide) (fun hc => ?_) (fun hc => ?_)
    · have hw := And.left hw hc
      refine lv_iconst (v := (-1 : Int32)) hx hb dX5_quarrel_33 (by decide) ?_
      exact hret _ _ _ _ _ _ hw hP hD hS dX5_quarrel_34
    · have hw := And.right hw hc
      refine lv_iload_n hx hb dX5_quarrel_28 rfl (lv_at hl 1 rfl) ?_
      refine lv_iload_n hx hb dX5_quarrel_29 rfl (lv_at hl 2 rfl) ?_
      refine lv_icmp_ne (tgt := 35) hx hb dX5_quarrel_30 (by decide) (fun hc => ?_) (fun hc => ?_)
      · have hw := And.left hw hc
        refine lv_aload_n hx hb dX5_quarrel_35 rfl (lv_at hl 0 rfl) ?_
        refine rg_X_X5_0_0 hC hK hP dX5_quarrel_36 ?_
        refine rg_X_X5_1_0 hC hK hP dX5_quarrel_39 ?_
        refine lv_iload_n hx hb dX5_quarrel_42 rfl (lv_at hl 1 rfl) ?_
        refine lv_iload_n hx hb dX5_quarrel_43 rfl (lv_at hl 2 rfl) ?_
        refine vp_callSi (xro (xr_VN hC hK.2 (cX0_areFoes_c (h := (sh h 4)) hw) ⟨rfl, rfl⟩ bw_243 calX0_areFoes ⟨Nat.le_trans (Nat.le_of_ble_eq_true rfl) hF, Nat.le_trans (Nat.le_of_ble_eq_true rfl) hL⟩ (rest := []) (xpR hK (xCut.P (cut_X_F4) hP) rfl rfl) rfl hl rfl (Nat.le_of_ble_eq_true rfl) dX5_quarrel_44 ⟨Nat.zero_le _, Nat.zero_le _⟩)) (fun r3 hw => ?_)
        refine lv_if_eq (tgt := 54) hx hb dX5_quarrel_47 (by decide) (fun hc => ?_) (fun hc => ?_)
        · have hw := And.left hw hc
          refine lv_iconst (v := (0 : Int32)) hx hb dX5_quarrel_54 (by decide) ?_
          exact B55 x1 x2 x3 (0 : Int32) z0 _ _ _ hw hP hD hS (lv_sub hl [0, 1, 2, 3] rfl)
        · have hw := And.right hw hc
          refine lv_iconst (v := (1 : Int32)) hx hb dX5_quarrel_50 (by decide) ?_
          refine lv_goto (tgt := 55) hx hb dX5_quarrel_51 (by decide) ?_
          exact B55 x1 x2 x3 (1 : Int32) z0 _ _ _ hw hP hD hS (lv_sub hl [0, 1, 2, 3] rfl)
      · have hw := And.right hw hc
        refine lv_iconst (v := (-1 : Int32)) hx hb dX5_quarrel_33 (by decide) ?_
        exact hret _ _ _ _ _ _ hw hP hD hS dX5_quarrel_34
def wpX5_set_68  (post : Int32 → (wXS) → Prop) (x1 : Int32) (x2 : Int32) (x3 : Int32) (z0 : wXS) : Prop := ((¬ x1 = (2 : Int32) → (post x3 z0)) ∧ (x1 = (2 : Int32) → (wpX5_within x2 (0 : Int32) (9 : Int32) (fun r1 => ((r1 = 0 → (post x3 z0)) ∧ (¬ r1 = 0 → (∀ z1 : wXS, z1 = (x_sw z0 (w_so (x_w z0) (w_si (w_o (x_w z0)) 6 x2))) → (post (w_i (w_o (x_w z0)) 6) z1))))))))
def wpX5_set_33  (post : Int32 → (wXS) → Prop) (x1 : Int32) (x2 : Int32) (x3 : Int32) (z0 : wXS) : Prop := ((¬ x1 = (1 : Int32) → (wpX5_set_68  post x1 x2 x3 z0)) ∧ (x1 = (1 : Int32) → (wpX5_within x2 (0 : Int32) (999 : Int32) (fun r1 => ((r1 = 0 → (wpX5_set_68  post x1 x2 x3 z0)) ∧ (¬ r1 = 0 → (∀ z1 : wXS, z1 = (x_sw z0 (w_so (x_w z0) (w_si (w_o (x_w z0)) 5 x2))) → (post (w_i (w_o (x_w z0)) 5) z1))))))))
def wpX5_set (x1 : Int32) (x2 : Int32) (z0 : wXS) (post : Int32 → (wXS) → Prop) : Prop := ((¬ x1 = 0 → (wpX5_set_33  post x1 x2 (-100001 : Int32) z0)) ∧ (x1 = 0 → (wpX5_isMood x2 (fun r1 => ((r1 = 0 → (wpX5_set_33  post x1 x2 (-100001 : Int32) z0)) ∧ (¬ r1 = 0 → (∀ z1 : wXS, z1 = (x_sw z0 (w_so (x_w z0) (w_si (w_o (x_w z0)) 4 x2))) → (post (w_i (w_o (x_w z0)) 4) z1))))))))
set_option maxHeartbeats 4000000 in
set_option maxRecDepth 100000 in
theorem cX5_set_c {l : Launch} {G : wG} {h : Nat → Nat} {sz : Nat} {x1 : Int32} {x2 : Int32} {post : Int32 → (wXS) → Prop} {z0 : wXS}  (hw : wpX5_set x1 x2 z0 post) : Met l yX5_set (.code yX5_set cX5_set 4 (some .int) :: BIG) { frames := 2, cells := 0, slots := 0, locals := 42 } (xPw G [.ref (h 0), .int x1, .int x2] (wsX G h z0) sz) (xQi G post (fun q => (wsX G h q)) (va_A (wsX G h z0) sz)) 0 0 (va_A (wsX G h z0) sz) := by
  refine xm_wi (by decide) (Nat.le_of_ble_eq_true rfl) (fun p e s m args below meth c A ls R Q hC hK hA hP hD hS hl hF hL hret => ?_)
  have hx := hC.1
  have hb := hC.2.1
  have hl : lv_has ls 4 [(0, .ref (h 0)), (1, .int x1), (2, .int x2)] := hl
  have B68 : ∀ (x1 : Int32) (x2 : Int32) (x3 : Int32) (z0 : wXS) (H : Heap) (locs : List Loc) (ls : Array Slot), wpX5_set_68  post x1 x2 x3 z0 → va_P G.1 vwCl (wsX G h z0) H → va_D A (wsX G h z0) → va_S A s.heap H locs → lv_has ls 4 [(0, .ref (h 0)), (1, .int x1), (2, .int x2), (3, .int x3)] → W p l e R s m args below meth c H locs 0 0 Q (F0 m 68 ls []) := by
    intro x1 x2 x3 z0 H locs ls hw hP hD hS hl
    unfold wpX5_set_68 at hw
    refine lv_iload_n hx hb dX5_set_68 rfl (lv_at hl 1 rfl) ?_
    refine lv_iconst (v := (2 : Int32)) hx hb dX5_set_69 (by decide) ?_
    refine lv_icmp_ne (tgt := 99) hx hb dX5_set_70 (by decide) (fun hc => ?_) (fun hc => ?_)
    · have hw := And.left hw hc
      refine lv_iload_n hx hb dX5_set_99 rfl (lv_at hl 3 rfl) ?_
      exact hret _ _ _ _ _ _ hw hP hD hS dX5_set_100
    · have hw := And.right hw hc
      refine lv_iload_n hx hb dX5_set_73 rfl (lv_at hl 2 rfl) ?_
      refine lv_iconst (v := (0 : Int32)) hx hb dX5_set_74 (by decide) ?_
      refine lv_bipush (v := (9 : Int32)) hx hb dX5_set_75 (by decide) ?_
      refine vp_callSi (xro (xr_S hC (cX5_within_c hw) ⟨rfl, rfl⟩ bw_223 calX5_within ⟨Nat.le_trans (Nat.le_of_ble_eq_true rfl) hF, Nat.le_trans (Nat.le_of_ble_eq_true rfl) hL⟩ (rest := []) (xpS hK) rfl hl rfl (Nat.le_of_ble_eq_true rfl) dX5_set_77 ⟨Nat.zero_le _, Nat.zero_le _⟩)) (fun r1 hw => ?_)
      refine lv_if_eq (tgt := 99) hx hb dX5_set_80 (by decide) (fun hc => ?_) (fun hc => ?_)
      · have hw := And.left hw hc
        refine lv_iload_n hx hb dX5_set_99 rfl (lv_at hl 3 rfl) ?_
        exact hret _ _ _ _ _ _ hw hP hD hS dX5_set_100
      · have hw := And.right hw hc
        refine lv_aload_n hx hb dX5_set_83 rfl (lv_at hl 0 rfl) ?_
        refine rg_X_X5_0_0 hC hK hP dX5_set_84 ?_
        refine rg_X_X5_1_6 hC hK hP dX5_set_87 ?_
        refine lv_istore_n (lv' := [(3, .int (w_i (w_o (x_w z0)) 6)), (0, .ref (h 0)), (1, .int x1), (2, .int x2)]) hx hb dX5_set_90 rfl hl (by decide) rfl (fun ls hl => ?_)
        refine lv_aload_n hx hb dX5_set_91 rfl (lv_at hl 1 rfl) ?_
        refine rg_X_X5_0_0 hC hK hP dX5_set_92 ?_
        refine lv_iload_n hx hb dX5_set_95 rfl (lv_at hl 3 rfl) ?_
        refine rp_X_X5_1_6 hC hK hP hD hS dX5_set_96 (fun z1 H locs hz1 hP hD hS => ?_)
        have hw := hw z1 hz1
        refine lv_iload_n hx hb dX5_set_99 rfl (lv_at hl 0 rfl) ?_
        exact hret _ _ _ _ _ _ hw hP hD hS dX5_set_100
  have B33 : ∀ (x1 : Int32) (x2 : Int32) (x3 : Int32) (z0 : wXS) (H : Heap) (locs : List Loc) (ls : Array Slot), wpX5_set_33  post x1 x2 x3 z0 → va_P G.1 vwCl (wsX G h z0) H → va_D A (wsX G h z0) → va_S A s.heap H locs → lv_has ls 4 [(0, .ref (h 0)), (1, .int x1), (2, .int x2), (3, .int x3)] → W p l e R s m args below meth c H locs 0 0 Q (F0 m 33 ls []) := by
    intro x1 x2 x3 z0 H locs ls hw hP hD hS hl
    unfold wpX5_set_33 at hw
    refine lv_iload_n hx hb dX5_set_33 rfl (lv_at hl 1 rfl) ?_
    refine lv_iconst (v := (1 : Int32)) hx hb dX5_set_34 (by decide) ?_
    refine lv_icmp_ne (tgt := 68) hx hb dX5_set_35 (by decide) (fun hc => ?_) (fun hc => ?_)
    · have hw := And.left hw hc
      exact B68 x1 x2 x3 z0 _ _ _ hw hP hD hS (lv_sub hl [0, 1, 2, 3] rfl)
    · have hw := And.right hw hc
      refine lv_iload_n hx hb dX5_set_38 rfl (lv_at hl 2 rfl) ?_
      refine lv_iconst (v := (0 : Int32)) hx hb dX5_set_39 (by decide) ?_
      refine lv_sipush (v := (999 : Int32)) hx hb dX5_set_40 (by decide) ?_
      refine vp_callSi (xro (xr_S hC (cX5_within_c hw) ⟨rfl, rfl⟩ bw_223 calX5_within ⟨Nat.le_trans (Nat.le_of_ble_eq_true rfl) hF, Nat.le_trans (Nat.le_of_ble_eq_true rfl) hL⟩ (rest := []) (xpS hK) rfl hl rfl (Nat.le_of_ble_eq_true rfl) dX5_set_43 ⟨Nat.zero_le _, Nat.zero_le _⟩)) (fun r1 hw => ?_)
      refine lv_if_eq (tgt := 68) hx hb dX5_set_46 (by decide) (fun hc => ?_) (fun hc => ?_)
      · have hw := And.left hw hc
        exact B68 x1 x2 x3 z0 _ _ _ hw hP hD hS (lv_sub hl [0, 1, 2, 3] rfl)
      · have hw := And.right hw hc
        refine lv_aload_n hx hb dX5_set_49 rfl (lv_at hl 0 rfl) ?_
        refine rg_X_X5_0_0 hC hK hP dX5_set_50 ?_
        refine rg_X_X5_1_5 hC hK hP dX5_set_53 ?_
        refine lv_istore_n (lv' := [(3, .int (w_i (w_o (x_w z0)) 5)), (0, .ref (h 0)), (1, .int x1), (2, .int x2)]) hx hb dX5_set_56 rfl hl (by decide) rfl (fun ls hl => ?_)
        refine lv_aload_n hx hb dX5_set_57 rfl (lv_at hl 1 rfl) ?_
        refine rg_X_X5_0_0 hC hK hP dX5_set_58 ?_
        refine lv_iload_n hx hb dX5_set_61 rfl (lv_at hl 3 rfl) ?_
        refine rp_X_X5_1_5 hC hK hP hD hS dX5_set_62 (fun z1 H locs hz1 hP hD hS => ?_)
        have hw := hw z1 hz1
        refine lv_goto (tgt := 99) hx hb dX5_set_65 (by decide) ?_
        refine lv_iload_n hx hb dX5_set_99 rfl (lv_at hl 0 rfl) ?_
        exact hret _ _ _ _ _ _ hw hP hD hS dX5_set_100
  unfold wpX5_set at hw
  refine lv_ldc (v := (-100001 : Int32)) hx hb hC.2.2.2.1 (hC.2.2.2.2 _ bw_238) dX5_set_0 ?_
  refine lv_istore_n (lv' := [(3, .int (-100001 : Int32)), (0, .ref (h 0)), (1, .int x1), (2, .int x2)]) hx hb dX5_set_2 rfl hl (by decide) rfl (fun ls hl => ?_)
  refine lv_iload_n hx hb dX5_set_3 rfl (lv_at hl 2 rfl) ?_
  refine lv_if_ne (tgt := 33) hx hb dX5_set_4 (by decide) (fun hc => ?_) (fun hc => ?_)
  · have hw := And.left hw hc
    exact B33 x1 x2 (-100001 : Int32) z0 _ _ _ hw hP hD hS (lv_sub hl [1, 2, 3, 0] rfl)
  · have hw := And.right hw hc
    refine lv_iload_n hx hb dX5_set_7 rfl (lv_at hl 3 rfl) ?_
    refine vp_callSi (xro (xr_S hC (cX5_isMood_c hw) ⟨rfl, rfl⟩ bw_256 calX5_isMood ⟨Nat.le_trans (Nat.le_of_ble_eq_true rfl) hF, Nat.le_trans (Nat.le_of_ble_eq_true rfl) hL⟩ (rest := []) (xpS hK) rfl hl rfl (Nat.le_of_ble_eq_true rfl) dX5_set_8 ⟨Nat.zero_le _, Nat.zero_le _⟩)) (fun r1 hw => ?_)
    refine lv_if_eq (tgt := 33) hx hb dX5_set_11 (by decide) (fun hc => ?_) (fun hc => ?_)
    · have hw := And.left hw hc
      exact B33 x1 x2 (-100001 : Int32) z0 _ _ _ hw hP hD hS (lv_sub hl [1, 2, 3, 0] rfl)
    · have hw := And.right hw hc
      refine lv_aload_n hx hb dX5_set_14 rfl (lv_at hl 1 rfl) ?_
      refine rg_X_X5_0_0 hC hK hP dX5_set_15 ?_
      refine rg_X_X5_1_4 hC hK hP dX5_set_18 ?_
      refine lv_istore_n (lv' := [(3, .int (w_i (w_o (x_w z0)) 4)), (0, .ref (h 0)), (1, .int x1), (2, .int x2)]) hx hb dX5_set_21 rfl hl (by decide) rfl (fun ls hl => ?_)
      refine lv_aload_n hx hb dX5_set_22 rfl (lv_at hl 1 rfl) ?_
      refine rg_X_X5_0_0 hC hK hP dX5_set_23 ?_
      refine lv_iload_n hx hb dX5_set_26 rfl (lv_at hl 3 rfl) ?_
      refine rp_X_X5_1_4 hC hK hP hD hS dX5_set_27 (fun z1 H locs hz1 hP hD hS => ?_)
      have hw := hw z1 hz1
      refine lv_goto (tgt := 99) hx hb dX5_set_30 (by decide) ?_
      refine lv_iload_n hx hb dX5_set_99 rfl (lv_at hl 0 rfl) ?_
      exact hret _ _ _ _ _ _ hw hP hD hS dX5_set_100
def wpX5_is (x1 : Int32) (z0 : wXS) (post : Int32 → Prop) : Prop := ((x1.toInt < 0 ∨ 8 < x1.toInt → (post (-100001 : Int32))) ∧ (x1 = (0 : Int32) → (post (w_i (w_o (x_w z0)) 4))) ∧ (x1 = (1 : Int32) → (post (w_i (w_o (x_w z0)) 5))) ∧ (x1 = (2 : Int32) → (post (w_i (w_o (x_w z0)) 6))) ∧ (x1 = (3 : Int32) → (post (w_i (w_o (x_w z0)) 7))) ∧ (x1 = (4 : Int32) → (post (w_i (w_o (x_w z0)) 8))) ∧ (x1 = (5 : Int32) → (post (w_i (w_o (x_w z0)) 9))) ∧ (x1 = (6 : Int32) → (post (w_i (w_f (x_w z0)) 4))) ∧ (x1 = (7 : Int32) → (post (w_i (w_o (x_w z0)) 3))) ∧ (x1 = (8 : Int32) → (post (w_i (w_o (x_w z0)) 10))))
set_option maxHeartbeats 4000000 in
set_option maxRecDepth 100000 in
theorem cX5_is_c {l : Launch} {G : wG} {h : Nat → Nat} {x1 : Int32} {post : Int32 → Prop} {z0 : wXS}  (hw : wpX5_is x1 z0 post) : Met l yX5_is (.code yX5_is cX5_is 2 (some .int) :: BIG) { frames := 0, cells := 0, slots := 0, locals := 0 } (xPr G [.ref (h 0), .int x1] (wsX G h z0)) (vp_Si post) 0 0 (fun _ => False) := by
  refine xm_ri (by decide) (Nat.le_of_ble_eq_true rfl) (fun p e s m args below meth c ls R Q hC hK hP hl hF hL hret => ?_)
  have hx := hC.1
  have hb := hC.2.1
  have hl : lv_has ls 2 [(0, .ref (h 0)), (1, .int x1)] := hl
  unfold wpX5_is at hw
  refine lv_iload_n hx hb dX5_is_0 rfl (lv_at hl 1 rfl) ?_
  rcases x_tswL x1 0 9 (by decide) with hq | ⟨j, hj, hq⟩
  · have hw := And.left hw (by omega)
    refine lv_tableOut (tgt := 127) hx hb dX5_is_1 (by omega) (by decide) ?_
    refine lv_ldc (v := (-100001 : Int32)) hx hb hC.2.2.2.1 (hC.2.2.2.2 _ bw_238) dX5_is_127 ?_
    exact hret _ _ _ hw dX5_is_129
  · have hw := And.right hw
    obtain rfl | rfl | rfl | rfl | rfl | rfl | rfl | rfl | rfl : j = 0 ∨ j = 1 ∨ j = 2 ∨ j = 3 ∨ j = 4 ∨ j = 5 ∨ j = 6 ∨ j = 7 ∨ j = 8 := by omega
    · have hw := (And.left hw) hq
      refine lv_tableIn (off := 51) (tgt := 52) hx hb dX5_is_1 (by rw [hq]; decide) (by rw [hq]; decide) (by rw [hq]; rfl) (by decide) ?_
      refine lv_aload_n hx hb dX5_is_52 rfl (lv_at hl 0 rfl) ?_
      refine rg_X_X5_0_0 hC hK hP dX5_is_53 ?_
      refine rg_X_X5_1_4 hC hK hP dX5_is_56 ?_
      exact hret _ _ _ hw dX5_is_59
    · have hw := (And.left (And.right hw)) hq
      refine lv_tableIn (off := 59) (tgt := 60) hx hb dX5_is_1 (by rw [hq]; decide) (by rw [hq]; decide) (by rw [hq]; rfl) (by decide) ?_
      refine lv_aload_n hx hb dX5_is_60 rfl (lv_at hl 0 rfl) ?_
      refine rg_X_X5_0_0 hC hK hP dX5_is_61 ?_
      refine rg_X_X5_1_5 hC hK hP dX5_is_64 ?_
      exact hret _ _ _ hw dX5_is_67
    · have hw := (And.left (And.right (And.right hw))) hq
      refine lv_tableIn (off := 67) (tgt := 68) hx hb dX5_is_1 (by rw [hq]; decide) (by rw [hq]; decide) (by rw [hq]; rfl) (by decide) ?_
      refine lv_aload_n hx hb dX5_is_68 rfl (lv_at hl 0 rfl) ?_
      refine rg_X_X5_0_0 hC hK hP dX5_is_69 ?_
      refine rg_X_X5_1_6 hC hK hP dX5_is_72 ?_
      exact hret _ _ _ hw dX5_is_75
    · have hw := (And.left (And.right (And.right (And.right hw)))) hq
      refine lv_tableIn (off := 75) (tgt := 76) hx hb dX5_is_1 (by rw [hq]; decide) (by rw [hq]; decide) (by rw [hq]; rfl) (by decide) ?_
      refine lv_aload_n hx hb dX5_is_76 rfl (lv_at hl 0 rfl) ?_
      refine rg_X_X5_0_0 hC hK hP dX5_is_77 ?_
      refine rg_X_X5_1_7 hC hK hP dX5_is_80 ?_
      exact hret _ _ _ hw dX5_is_83
    · have hw := (And.left (And.right (And.right (And.right (And.right hw))))) hq
      refine lv_tableIn (off := 83) (tgt := 84) hx hb dX5_is_1 (by rw [hq]; decide) (by rw [hq]; decide) (by rw [hq]; rfl) (by decide) ?_
      refine lv_aload_n hx hb dX5_is_84 rfl (lv_at hl 0 rfl) ?_
      refine rg_X_X5_0_0 hC hK hP dX5_is_85 ?_
      refine rg_X_X5_1_8 hC hK hP dX5_is_88 ?_
      exact hret _ _ _ hw dX5_is_91
    · have hw := (And.left (And.right (And.right (And.right (And.right (And.right hw)))))) hq
      refine lv_tableIn (off := 91) (tgt := 92) hx hb dX5_is_1 (by rw [hq]; decide) (by rw [hq]; decide) (by rw [hq]; rfl) (by decide) ?_
      refine lv_aload_n hx hb dX5_is_92 rfl (lv_at hl 0 rfl) ?_
      refine rg_X_X5_0_0 hC hK hP dX5_is_93 ?_
      refine rg_X_X5_1_9 hC hK hP dX5_is_96 ?_
      exact hret _ _ _ hw dX5_is_99
    · have hw := (And.left (And.right (And.right (And.right (And.right (And.right (And.right hw))))))) hq
      refine lv_tableIn (off := 99) (tgt := 100) hx hb dX5_is_1 (by rw [hq]; decide) (by rw [hq]; decide) (by rw [hq]; rfl) (by decide) ?_
      refine lv_aload_n hx hb dX5_is_100 rfl (lv_at hl 0 rfl) ?_
      refine rg_X_X5_0_0 hC hK hP dX5_is_101 ?_
      refine rg_X_X5_1_0 hC hK hP dX5_is_104 ?_
      refine rg_X_X5_4_4 hC hK hP dX5_is_107 ?_
      exact hret _ _ _ hw dX5_is_110
    · have hw := (And.left (And.right (And.right (And.right (And.right (And.right (And.right (And.right hw)))))))) hq
      refine lv_tableIn (off := 110) (tgt := 111) hx hb dX5_is_1 (by rw [hq]; decide) (by rw [hq]; decide) (by rw [hq]; rfl) (by decide) ?_
      refine lv_aload_n hx hb dX5_is_111 rfl (lv_at hl 0 rfl) ?_
      refine rg_X_X5_0_0 hC hK hP dX5_is_112 ?_
      refine rg_X_X5_1_3 hC hK hP dX5_is_115 ?_
      exact hret _ _ _ hw dX5_is_118
    · have hw := ((And.right (And.right (And.right (And.right (And.right (And.right (And.right (And.right hw))))))))) hq
      refine lv_tableIn (off := 118) (tgt := 119) hx hb dX5_is_1 (by rw [hq]; decide) (by rw [hq]; decide) (by rw [hq]; rfl) (by decide) ?_
      refine lv_aload_n hx hb dX5_is_119 rfl (lv_at hl 0 rfl) ?_
      refine rg_X_X5_0_0 hC hK hP dX5_is_120 ?_
      refine rg_X_X5_1_10 hC hK hP dX5_is_123 ?_
      exact hret _ _ _ hw dX5_is_126
def wpX5_type_42 (k42 : Int64 → Int32 → (wXS) → Prop) (post : Int32 → (wXS) → Prop) (x1 : Int64) (x4 : Int32) (z0 : wXS) : Prop := ((x4 < 0 → (post (w_i (x_t z0) 1) z0)) ∧ (¬ x4 < 0 → (wpX5_byteOf x1 x4 (fun r1 => (wpX3_append r1 (x_t z0) (fun u => ∀ z1 : wXS, z1 = (x_st z0 u) → (k42 x1 (x4 + (-1 : Int32)) z1)))))))
def wpX5_type_L42  (post : Int32 → (wXS) → Prop) : Nat → Int64 → Int32 → (wXS) → Prop
  | 0 => fun _ _ _ => False
  | n + 1 => fun x1 x4 z0 => wpX5_type_42  (wpX5_type_L42  post n) post x1 x4 z0
def wpX5_type (x1 : Int64) (x3 : Int32) (z0 : wXS) (post : Int32 → (wXS) → Prop) : Prop := (wpX5_within x3 (1 : Int32) (8 : Int32) (fun r1 => ((r1 = 0 → (post (-1 : Int32) z0)) ∧ (¬ r1 = 0 → (wpX5_areSigns x1 x3 (fun r2 => ((¬ r2 = 0 → ((((w_i (x_t z0) 1) + x3) ≤ (60 : Int32) → (∃ n, wpX5_type_L42  post n x1 (x3 - (1 : Int32)) z0)) ∧ (¬ ((w_i (x_t z0) 1) + x3) ≤ (60 : Int32) → (post (-3 : Int32) z0)))) ∧ (r2 = 0 → (post (-1 : Int32) z0)))))))))
set_option maxHeartbeats 4000000 in
set_option maxRecDepth 100000 in
theorem cX5_type_c {l : Launch} {G : wG} {h : Nat → Nat} {sz : Nat} {x1 : Int64} {x3 : Int32} {post : Int32 → (wXS) → Prop} {z0 : wXS}  (hw : wpX5_type x1 x3 z0 post) : Met l yX5_type (.code yX5_type cX5_type 5 (some .int) :: BIG) { frames := 2, cells := 0, slots := 0, locals := 45 } (xPw G [.ref (h 0), .long x1, .int x3] (wsX G h z0) sz) (xQi G post (fun q => (wsX G h q)) (va_A (wsX G h z0) sz)) 0 0 (va_A (wsX G h z0) sz) := by
  refine xm_wi (by decide) (Nat.le_of_ble_eq_true rfl) (fun p e s m args below meth c A ls R Q hC hK hA hP hD hS hl hF hL hret => ?_)
  have hx := hC.1
  have hb := hC.2.1
  have hl : lv_has ls 5 [(0, .ref (h 0)), (1, .long x1), (3, .int x3)] := hl
  have B42 : ∀ n42 : Nat, ∀ (x1 : Int64) (x4 : Int32) (z0 : wXS) (H : Heap) (locs : List Loc) (ls : Array Slot), wpX5_type_L42  post n42 x1 x4 z0 → va_P G.1 vwCl (wsX G h z0) H → va_D A (wsX G h z0) → va_S A s.heap H locs → lv_has ls 5 [(0, .ref (h 0)), (1, .long x1), (4, .int x4)] → W p l e R s m args below meth c H locs 0 0 Q (F0 m 42 ls []) := by
    intro n42
    induction n42 with
    | zero => intro x1 x4 z0 H locs ls hw hP hD hS hl; exact False.elim hw
    | succ n42 I42 =>
      intro x1 x4 z0 H locs ls hw hP hD hS hl
      have hw : wpX5_type_42  (wpX5_type_L42  post n42) post x1 x4 z0 := hw
      unfold wpX5_type_42 at hw
      refine lv_iload hx hb dX5_type_42 (lv_at hl 2 rfl) ?_
      refine lv_if_lt (tgt := 66) hx hb dX5_type_44 (by decide) (fun hc => ?_) (fun hc => ?_)
      · have hw := And.left hw hc
        refine lv_aload_n hx hb dX5_type_66 rfl (lv_at hl 0 rfl) ?_
        refine rg_X_X5_0_3 hC hK hP dX5_type_67 ?_
        refine rg_X_X5_17_1 hC hK hP dX5_type_70 ?_
        exact hret _ _ _ _ _ _ hw hP hD hS dX5_type_73
      · have hw := And.right hw hc
        refine lv_aload_n hx hb dX5_type_47 rfl (lv_at hl 0 rfl) ?_
        refine rg_X_X5_0_3 hC hK hP dX5_type_48 ?_
        refine lv_lload_n hx hb dX5_type_51 rfl (lv_at hl 1 rfl) ?_
        refine lv_iload hx hb dX5_type_52 (lv_at hl 2 rfl) ?_
        refine vp_callSi (xro (xr_S hC (cX5_byteOf_c hw) ⟨rfl, rfl⟩ bw_270 calX5_byteOf ⟨Nat.le_trans (Nat.le_of_ble_eq_true rfl) hF, Nat.le_trans (Nat.le_of_ble_eq_true rfl) hL⟩ (rest := [.ref (h 17)]) (xpS hK) rfl hl rfl (Nat.le_of_ble_eq_true rfl) dX5_type_54 ⟨Nat.zero_le _, Nat.zero_le _⟩)) (fun r1 hw => ?_)
        refine xc_wv (S := wSt) (wsz := fun q => (wsX G h q)) (f := fun u => (x_st z0 u)) (xr_VN hC hK.2 (cX3_append_c (h := (sh h 17)) hw) ⟨rfl, rfl⟩ bw_273 calX3_append ⟨Nat.le_trans (Nat.le_of_ble_eq_true rfl) hF, Nat.le_trans (Nat.le_of_ble_eq_true rfl) hL⟩ (rest := []) (xpV hK (cut_X_T17) hP hD rfl rfl) rfl hl rfl (Nat.le_of_ble_eq_true rfl) dX5_type_57 ⟨Nat.zero_le _, Nat.zero_le _⟩) (cut_X_T17) hP hD hS hA (fun u z1 H locs hz1 hw hP hD hS => ?_)
        have hw := hw z1 hz1
        refine lv_iinc (v := (x4 + (-1 : Int32))) (lv' := [(4, .int (x4 + (-1 : Int32))), (0, .ref (h 0)), (1, .long x1)]) hx hb dX5_type_60 hl (k := 2) rfl rfl (by decide) rfl (fun ls hl => ?_)
        refine lv_goto (tgt := 42) hx hb dX5_type_63 (by decide) ?_
        exact I42 x1 (x4 + (-1 : Int32)) z1 _ _ _ hw hP hD hS (lv_sub hl [1, 2, 0] rfl)
  unfold wpX5_type at hw
  refine lv_iload_n hx hb dX5_type_0 rfl (lv_at hl 2 rfl) ?_
  refine lv_iconst (v := (1 : Int32)) hx hb dX5_type_1 (by decide) ?_
  refine lv_bipush (v := (8 : Int32)) hx hb dX5_type_2 (by decide) ?_
  refine vp_callSi (xro (xr_S hC (cX5_within_c hw) ⟨rfl, rfl⟩ bw_223 calX5_within ⟨Nat.le_trans (Nat.le_of_ble_eq_true rfl) hF, Nat.le_trans (Nat.le_of_ble_eq_true rfl) hL⟩ (rest := []) (xpS hK) rfl hl rfl (Nat.le_of_ble_eq_true rfl) dX5_type_4 ⟨Nat.zero_le _, Nat.zero_le _⟩)) (fun r1 hw => ?_)
  refine lv_if_eq (tgt := 18) hx hb dX5_type_7 (by decide) (fun hc => ?_) (fun hc => ?_)
  · have hw := And.left hw hc
    refine lv_iconst (v := (-1 : Int32)) hx hb dX5_type_18 (by decide) ?_
    exact hret _ _ _ _ _ _ hw hP hD hS dX5_type_19
  · have hw := And.right hw hc
    refine lv_lload_n hx hb dX5_type_10 rfl (lv_at hl 1 rfl) ?_
    refine lv_iload_n hx hb dX5_type_11 rfl (lv_at hl 2 rfl) ?_
    refine vp_callSi (xro (xr_S hC (cX5_areSigns_c hw) ⟨rfl, rfl⟩ bw_267 calX5_areSigns ⟨Nat.le_trans (Nat.le_of_ble_eq_true rfl) hF, Nat.le_trans (Nat.le_of_ble_eq_true rfl) hL⟩ (rest := []) (xpS hK) rfl hl rfl (Nat.le_of_ble_eq_true rfl) dX5_type_12 ⟨Nat.zero_le _, Nat.zero_le _⟩)) (fun r2 hw => ?_)
    refine lv_if_ne (tgt := 20) hx hb dX5_type_15 (by decide) (fun hc => ?_) (fun hc => ?_)
    · have hw := And.left hw hc
      refine lv_aload_n hx hb dX5_type_20 rfl (lv_at hl 0 rfl) ?_
      refine rg_X_X5_0_3 hC hK hP dX5_type_21 ?_
      refine rg_X_X5_17_1 hC hK hP dX5_type_24 ?_
      refine lv_iload_n hx hb dX5_type_27 rfl (lv_at hl 2 rfl) ?_
      refine lv_iadd hx hb dX5_type_28 ?_
      refine lv_bipush (v := (60 : Int32)) hx hb dX5_type_29 (by decide) ?_
      refine lv_icmp_le (tgt := 37) hx hb dX5_type_31 (by decide) (fun hc => ?_) (fun hc => ?_)
      · have hw := And.left hw hc
        refine lv_iload_n hx hb dX5_type_37 rfl (lv_at hl 2 rfl) ?_
        refine lv_iconst (v := (1 : Int32)) hx hb dX5_type_38 (by decide) ?_
        refine lv_isub hx hb dX5_type_39 ?_
        refine lv_istore (lv' := [(4, .int (x3 - (1 : Int32))), (0, .ref (h 0)), (1, .long x1), (3, .int x3)]) hx hb dX5_type_40 hl (by decide) rfl (fun ls hl => ?_)
        obtain ⟨j42, hw⟩ := hw
        exact B42 j42 x1 (x3 - (1 : Int32)) z0 _ _ _ hw hP hD hS (lv_sub hl [1, 2, 0] rfl)
      · have hw := And.right hw hc
        refine lv_bipush (v := (-3 : Int32)) hx hb dX5_type_34 (by decide) ?_
        exact hret _ _ _ _ _ _ hw hP hD hS dX5_type_36
    · have hw := And.right hw hc
      refine lv_iconst (v := (-1 : Int32)) hx hb dX5_type_18 (by decide) ?_
      exact hret _ _ _ _ _ _ hw hP hD hS dX5_type_19
def wpX5_plan (z0 : wXS) (post : Int32 → (wXS) → Prop) : Prop := (wpX3_readPlan ((x_t z0), (w_a (x_o z0) 5), (w_f (x_w z0))) (fun r1 u => ∀ z1 : wXS, z1 = (x_sw (x_so (x_st z0 u.1) (w_sa (x_o (x_st z0 u.1)) 5 u.2.1)) (w_sf (x_w (x_so (x_st z0 u.1) (w_sa (x_o (x_st z0 u.1)) 5 u.2.1))) u.2.2)) → (∀ z2 : wXS, z2 = (x_st z1 (w_si (x_t z1) 1 (0 : Int32))) → ((r1 ≤ 0 → (post r1 z2)) ∧ (¬ r1 ≤ 0 → (wpX4_adopt r1 ((x_w z2), (w_a (x_o z2) 5)) (fun u => ∀ z3 : wXS, z3 = (x_so (x_sw z2 u.1) (w_sa (x_o (x_sw z2 u.1)) 5 u.2)) → (post r1 z3))))))))
set_option maxHeartbeats 4000000 in
set_option maxRecDepth 100000 in
theorem cX5_plan_c {l : Launch} {G : wG} {h : Nat → Nat} {sz : Nat}  {post : Int32 → (wXS) → Prop} {z0 : wXS}  (hw : wpX5_plan z0 post) : Met l yX5_plan (.code yX5_plan cX5_plan 2 (some .int) :: BIG) { frames := 2, cells := 0, slots := 0, locals := 62 } (xPw G [.ref (h 0)] (wsX G h z0) sz) (xQi G post (fun q => (wsX G h q)) (va_A (wsX G h z0) sz)) 0 0 (va_A (wsX G h z0) sz) := by
  refine xm_wi (by decide) (Nat.le_of_ble_eq_true rfl) (fun p e s m args below meth c A ls R Q hC hK hA hP hD hS hl hF hL hret => ?_)
  have hx := hC.1
  have hb := hC.2.1
  have hl : lv_has ls 2 [(0, .ref (h 0))] := hl
  unfold wpX5_plan at hw
  refine lv_aload_n hx hb dX5_plan_0 rfl (lv_at hl 0 rfl) ?_
  refine rg_X_X5_0_3 hC hK hP dX5_plan_1 ?_
  refine lv_aload_n hx hb dX5_plan_4 rfl (lv_at hl 0 rfl) ?_
  refine rg_X_X5_0_5 hC hK hP dX5_plan_5 ?_
  refine lv_aload_n hx hb dX5_plan_8 rfl (lv_at hl 0 rfl) ?_
  refine rg_X_X5_0_0 hC hK hP dX5_plan_9 ?_
  refine rg_X_X5_1_0 hC hK hP dX5_plan_12 ?_
  refine xc_wi (S := wSt × (Nat → Int32) × wSt) (wsz := fun q => (wsX G h q)) (f := fun u => (x_sw (x_so (x_st z0 u.1) (w_sa (x_o (x_st z0 u.1)) 5 u.2.1)) (w_sf (x_w (x_so (x_st z0 u.1) (w_sa (x_o (x_st z0 u.1)) 5 u.2.1))) u.2.2))) (xr_VN hC hK.2 (cX3_readPlan_c (h := (sh h 17)) (g := (sh h 24)) (k := (sh h 4)) hw) ⟨rfl, rfl⟩ bw_318 calX3_readPlan ⟨Nat.le_trans (Nat.le_of_ble_eq_true rfl) hF, Nat.le_trans (Nat.le_of_ble_eq_true rfl) hL⟩ (rest := []) (xpV hK (cut_X_T17_A24_F4) hP hD rfl rfl) rfl hl rfl (Nat.le_of_ble_eq_true rfl) dX5_plan_15 ⟨Nat.zero_le _, Nat.zero_le _⟩) (cut_X_T17_A24_F4) hP hD hS hA (fun r1 u z1 H locs hz1 hw hP hD hS => ?_)
  have hw := hw z1 hz1
  refine lv_istore_n (lv' := [(1, .int r1), (0, .ref (h 0))]) hx hb dX5_plan_18 rfl hl (by decide) rfl (fun ls hl => ?_)
  refine lv_aload_n hx hb dX5_plan_19 rfl (lv_at hl 1 rfl) ?_
  refine rg_X_X5_0_3 hC hK hP dX5_plan_20 ?_
  refine lv_iconst (v := (0 : Int32)) hx hb dX5_plan_23 (by decide) ?_
  refine rp_X_X5_17_1 hC hK hP hD hS dX5_plan_24 (fun z2 H locs hz1 hP hD hS => ?_)
  have hw := hw z2 hz1
  refine lv_iload_n hx hb dX5_plan_27 rfl (lv_at hl 0 rfl) ?_
  refine lv_if_le (tgt := 43) hx hb dX5_plan_28 (by decide) (fun hc => ?_) (fun hc => ?_)
  · have hw := And.left hw hc
    refine lv_iload_n hx hb dX5_plan_43 rfl (lv_at hl 0 rfl) ?_
    exact hret _ _ _ _ _ _ hw hP hD hS dX5_plan_44
  · have hw := And.right hw hc
    refine lv_aload_n hx hb dX5_plan_31 rfl (lv_at hl 1 rfl) ?_
    refine rg_X_X5_0_0 hC hK hP dX5_plan_32 ?_
    refine lv_aload_n hx hb dX5_plan_35 rfl (lv_at hl 1 rfl) ?_
    refine rg_X_X5_0_5 hC hK hP dX5_plan_36 ?_
    refine lv_iload_n hx hb dX5_plan_39 rfl (lv_at hl 0 rfl) ?_
    refine xc_wv (S := wP2 × (Nat → Int32)) (wsz := fun q => (wsX G h q)) (f := fun u => (x_so (x_sw z2 u.1) (w_sa (x_o (x_sw z2 u.1)) 5 u.2))) (xr_VN hC hK.2 (cX4_adopt_c (h := (sh h 1)) (g := (sh h 24)) hw) ⟨rfl, rfl⟩ bw_323 calX4_adopt ⟨Nat.le_trans (Nat.le_of_ble_eq_true rfl) hF, Nat.le_trans (Nat.le_of_ble_eq_true rfl) hL⟩ (rest := []) (xpV hK (cut_X_W1_A24) hP hD rfl rfl) rfl hl rfl (Nat.le_of_ble_eq_true rfl) dX5_plan_40 ⟨Nat.zero_le _, Nat.zero_le _⟩) (cut_X_W1_A24) hP hD hS hA (fun u z3 H locs hz1 hw hP hD hS => ?_)
    have hw := hw z3 hz1
    refine lv_iload_n hx hb dX5_plan_43 rfl (lv_at hl 0 rfl) ?_
    exact hret _ _ _ _ _ _ hw hP hD hS dX5_plan_44
def wpX5_may_35 (k4 : Int32 → Int32 → Prop) (z0 : wXS) (post : Int32 → Prop) (x1 : Int32) (x2 : Int32) : Prop := (k4 x1 (x2 + (1 : Int32)))
def wpX5_may_4 (k4 : Int32 → Int32 → Prop) (z0 : wXS) (post : Int32 → Prop) (x1 : Int32) (x2 : Int32) : Prop := (((w_i (w_f (x_w z0)) 4) ≤ x2 → (post x1)) ∧ (¬ (w_i (w_f (x_w z0)) 4) ≤ x2 → (wpX4_mayDraw x2 (x_w z0) (fun r1 => ((r1 = 0 → (wpX5_may_35 k4 z0 post x1 x2)) ∧ (¬ r1 = 0 → (wpX5_may_35 k4 z0 post (x1 ||| ((1 : Int32) <<< (x2 &&& 31))) x2)))))))
def wpX5_may_L4  (z0 : wXS) (post : Int32 → Prop) : Nat → Int32 → Int32 → Prop
  | 0 => fun _ _ => False
  | n + 1 => fun x1 x2 => wpX5_may_4  (wpX5_may_L4  z0 post n) z0 post x1 x2
def wpX5_may (z0 : wXS) (post : Int32 → Prop) : Prop := (∃ n, wpX5_may_L4  z0 post n (0 : Int32) (0 : Int32))
set_option maxHeartbeats 4000000 in
set_option maxRecDepth 100000 in
theorem cX5_may_c {l : Launch} {G : wG} {h : Nat → Nat}  {post : Int32 → Prop} {z0 : wXS}  (hw : wpX5_may z0 post) : Met l yX5_may (.code yX5_may cX5_may 3 (some .int) :: BIG) { frames := 2, cells := 0, slots := 0, locals := 42 } (xPr G [.ref (h 0)] (wsX G h z0)) (vp_Si post) 0 0 (fun _ => False) := by
  refine xm_ri (by decide) (Nat.le_of_ble_eq_true rfl) (fun p e s m args below meth c ls R Q hC hK hP hl hF hL hret => ?_)
  have hx := hC.1
  have hb := hC.2.1
  have hl : lv_has ls 3 [(0, .ref (h 0))] := hl
  have B4 : ∀ n4 : Nat, ∀ (x1 : Int32) (x2 : Int32) (ls : Array Slot), wpX5_may_L4  z0 post n4 x1 x2 → lv_has ls 3 [(0, .ref (h 0)), (1, .int x1), (2, .int x2)] → W p l e R s m args below meth c s.heap [] 0 0 Q (F0 m 4 ls []) := by
    intro n4
    induction n4 with
    | zero => intro x1 x2 ls hw hl; exact False.elim hw
    | succ n4 I4 =>
      have B35 : ∀ (x1 : Int32) (x2 : Int32) (ls : Array Slot), wpX5_may_35 (wpX5_may_L4  z0 post n4) z0 post x1 x2 → lv_has ls 3 [(0, .ref (h 0)), (1, .int x1), (2, .int x2)] → W p l e R s m args below meth c s.heap [] 0 0 Q (F0 m 35 ls []) := by
        intro x1 x2 ls hw hl
        unfold wpX5_may_35 at hw
        refine lv_iinc (v := (x2 + (1 : Int32))) (lv' := [(2, .int (x2 + (1 : Int32))), (0, .ref (h 0)), (1, .int x1)]) hx hb dX5_may_35 hl (k := 2) rfl rfl (by decide) rfl (fun ls hl => ?_)
        refine lv_goto (tgt := 4) hx hb dX5_may_38 (by decide) ?_
        exact I4 x1 (x2 + (1 : Int32)) _ hw (lv_sub hl [1, 2, 0] rfl)
      intro x1 x2 ls hw hl
      have hw : wpX5_may_4  (wpX5_may_L4  z0 post n4) z0 post x1 x2 := hw
      unfold wpX5_may_4 at hw
      refine lv_iload_n hx hb dX5_may_4 rfl (lv_at hl 2 rfl) ?_
      refine lv_aload_n hx hb dX5_may_5 rfl (lv_at hl 0 rfl) ?_
      refine rg_X_X5_0_0 hC hK hP dX5_may_6 ?_
      refine rg_X_X5_1_0 hC hK hP dX5_may_9 ?_
      refine rg_X_X5_4_4 hC hK hP dX5_may_12 ?_
      refine lv_icmp_ge (tgt := 41) hx hb dX5_may_15 (by decide) (fun hc => ?_) (fun hc => ?_)
      · have hw := And.left hw hc
        refine lv_iload_n hx hb dX5_may_41 rfl (lv_at hl 1 rfl) ?_
        exact hret _ _ _ hw dX5_may_42
      · have hw := And.right hw hc
        refine lv_aload_n hx hb dX5_may_18 rfl (lv_at hl 0 rfl) ?_
        refine rg_X_X5_0_0 hC hK hP dX5_may_19 ?_
        refine lv_iload_n hx hb dX5_may_22 rfl (lv_at hl 2 rfl) ?_
        refine vp_callSi (xro (xr_VN hC hK.2 (cX4_mayDraw_c (h := (sh h 1)) hw) ⟨rfl, rfl⟩ bw_337 calX4_mayDraw ⟨Nat.le_trans (Nat.le_of_ble_eq_true rfl) hF, Nat.le_trans (Nat.le_of_ble_eq_true rfl) hL⟩ (rest := []) (xpR hK (xCut.P (cut_X_W1) hP) rfl rfl) rfl hl rfl (Nat.le_of_ble_eq_true rfl) dX5_may_23 ⟨Nat.zero_le _, Nat.zero_le _⟩)) (fun r1 hw => ?_)
        refine lv_if_eq (tgt := 35) hx hb dX5_may_26 (by decide) (fun hc => ?_) (fun hc => ?_)
        · have hw := And.left hw hc
          exact B35 x1 x2 _ hw (lv_sub hl [0, 1, 2] rfl)
        · have hw := And.right hw hc
          refine lv_iload_n hx hb dX5_may_29 rfl (lv_at hl 1 rfl) ?_
          refine lv_iconst (v := (1 : Int32)) hx hb dX5_may_30 (by decide) ?_
          refine lv_iload_n hx hb dX5_may_31 rfl (lv_at hl 2 rfl) ?_
          refine lv_ishl hx hb dX5_may_32 ?_
          refine lv_ior hx hb dX5_may_33 ?_
          refine lv_istore_n (lv' := [(1, .int (x1 ||| ((1 : Int32) <<< (x2 &&& 31)))), (0, .ref (h 0)), (2, .int x2)]) hx hb dX5_may_34 rfl hl (by decide) rfl (fun ls hl => ?_)
          exact B35 (x1 ||| ((1 : Int32) <<< (x2 &&& 31))) x2 _ hw (lv_sub hl [1, 0, 2] rfl)
  unfold wpX5_may at hw
  refine lv_iconst (v := (0 : Int32)) hx hb dX5_may_0 (by decide) ?_
  refine lv_istore_n (lv' := [(1, .int (0 : Int32)), (0, .ref (h 0))]) hx hb dX5_may_1 rfl hl (by decide) rfl (fun ls hl => ?_)
  refine lv_iconst (v := (0 : Int32)) hx hb dX5_may_2 (by decide) ?_
  refine lv_istore_n (lv' := [(2, .int (0 : Int32)), (1, .int (0 : Int32)), (0, .ref (h 0))]) hx hb dX5_may_3 rfl hl (by decide) rfl (fun ls hl => ?_)
  obtain ⟨j4, hw⟩ := hw
  exact B4 j4 (0 : Int32) (0 : Int32) _ hw (lv_sub hl [2, 1, 0] rfl)
def wpX5_draw_42  (post : Int32 → (wXS) → Prop) (x1 : Int32) (z0 : wXS) : Prop := (wpX4_hasHours (1 : Int32) (x_w z0) (fun r1 => ((¬ r1 = 0 → (wpX4_passHour x1 (x_w z0) (fun r2 u => ∀ z1 : wXS, z1 = (x_sw z0 u) → (post r2 z1)))) ∧ (r1 = 0 → (post (-3 : Int32) z0)))))
def wpX5_draw_22  (post : Int32 → (wXS) → Prop) (x1 : Int32) (z0 : wXS) : Prop := ((x1 = (9 : Int32) → (wpX5_draw_42  post x1 z0)) ∧ (¬ x1 = (9 : Int32) → (wpX4_mayDraw x1 (x_w z0) (fun r1 => ((¬ r1 = 0 → (wpX5_draw_42  post x1 z0)) ∧ (r1 = 0 → (post (-2 : Int32) z0)))))))
def wpX5_draw (x1 : Int32) (z0 : wXS) (post : Int32 → (wXS) → Prop) : Prop := ((x1 = (9 : Int32) → (wpX5_draw_22  post x1 z0)) ∧ (¬ x1 = (9 : Int32) → (wpX0_has x1 (w_f (x_w z0)) (fun r1 => ((¬ r1 = 0 → (wpX5_draw_22  post x1 z0)) ∧ (r1 = 0 → (post (-1 : Int32) z0)))))))
set_option maxHeartbeats 4000000 in
set_option maxRecDepth 100000 in
theorem cX5_draw_c {l : Launch} {G : wG} {h : Nat → Nat} {sz : Nat} {x1 : Int32} {post : Int32 → (wXS) → Prop} {z0 : wXS}  (hw : wpX5_draw x1 z0 post) : Met l yX5_draw (.code yX5_draw cX5_draw 2 (some .int) :: BIG) { frames := 5, cells := 0, slots := 0, locals := 112 } (xPw G [.ref (h 0), .int x1] (wsX G h z0) sz) (xQi G post (fun q => (wsX G h q)) (va_A (wsX G h z0) sz)) 0 0 (va_A (wsX G h z0) sz) := by
  refine xm_wi (by decide) (Nat.le_of_ble_eq_true rfl) (fun p e s m args below meth c A ls R Q hC hK hA hP hD hS hl hF hL hret => ?_)
  have hx := hC.1
  have hb := hC.2.1
  have hl : lv_has ls 2 [(0, .ref (h 0)), (1, .int x1)] := hl
  have B42 : ∀ (x1 : Int32) (z0 : wXS) (H : Heap) (locs : List Loc) (ls : Array Slot), wpX5_draw_42  post x1 z0 → va_P G.1 vwCl (wsX G h z0) H → va_D A (wsX G h z0) → va_S A s.heap H locs → lv_has ls 2 [(0, .ref (h 0)), (1, .int x1)] → W p l e R s m args below meth c H locs 0 0 Q (F0 m 42 ls []) := by
    intro x1 z0 H locs ls hw hP hD hS hl
    unfold wpX5_draw_42 at hw
    refine lv_aload_n hx hb dX5_draw_42 rfl (lv_at hl 0 rfl) ?_
    refine rg_X_X5_0_0 hC hK hP dX5_draw_43 ?_
    refine lv_iconst (v := (1 : Int32)) hx hb dX5_draw_46 (by decide) ?_
    refine vp_callSi (xro (xr_VN hC hK.2 (cX4_hasHours_c (h := (sh h 1)) hw) ⟨rfl, rfl⟩ bw_346 calX4_hasHours ⟨Nat.le_trans (Nat.le_of_ble_eq_true rfl) hF, Nat.le_trans (Nat.le_of_ble_eq_true rfl) hL⟩ (rest := []) (xpR hK (xCut.P (cut_X_W1) hP) rfl rfl) rfl hl rfl (Nat.le_of_ble_eq_true rfl) dX5_draw_47 ⟨Nat.zero_le _, Nat.zero_le _⟩)) (fun r1 hw => ?_)
    refine lv_if_ne (tgt := 56) hx hb dX5_draw_50 (by decide) (fun hc => ?_) (fun hc => ?_)
    · have hw := And.left hw hc
      refine lv_aload_n hx hb dX5_draw_56 rfl (lv_at hl 0 rfl) ?_
      refine rg_X_X5_0_0 hC hK hP dX5_draw_57 ?_
      refine lv_iload_n hx hb dX5_draw_60 rfl (lv_at hl 1 rfl) ?_
      refine xc_wi (S := wP2) (wsz := fun q => (wsX G h q)) (f := fun u => (x_sw z0 u)) (xr_VN hC hK.2 (cX4_passHour_c (h := (sh h 1)) hw) ⟨rfl, rfl⟩ bw_350 calX4_passHour ⟨Nat.le_trans (Nat.le_of_ble_eq_true rfl) hF, Nat.le_trans (Nat.le_of_ble_eq_true rfl) hL⟩ (rest := []) (xpV hK (cut_X_W1) hP hD rfl rfl) rfl hl rfl (Nat.le_of_ble_eq_true rfl) dX5_draw_61 ⟨Nat.zero_le _, Nat.zero_le _⟩) (cut_X_W1) hP hD hS hA (fun r2 u z1 H locs hz1 hw hP hD hS => ?_)
      have hw := hw z1 hz1
      exact hret _ _ _ _ _ _ hw hP hD hS dX5_draw_64
    · have hw := And.right hw hc
      refine lv_bipush (v := (-3 : Int32)) hx hb dX5_draw_53 (by decide) ?_
      exact hret _ _ _ _ _ _ hw hP hD hS dX5_draw_55
  have B22 : ∀ (x1 : Int32) (z0 : wXS) (H : Heap) (locs : List Loc) (ls : Array Slot), wpX5_draw_22  post x1 z0 → va_P G.1 vwCl (wsX G h z0) H → va_D A (wsX G h z0) → va_S A s.heap H locs → lv_has ls 2 [(0, .ref (h 0)), (1, .int x1)] → W p l e R s m args below meth c H locs 0 0 Q (F0 m 22 ls []) := by
    intro x1 z0 H locs ls hw hP hD hS hl
    unfold wpX5_draw_22 at hw
    refine lv_iload_n hx hb dX5_draw_22 rfl (lv_at hl 1 rfl) ?_
    refine lv_bipush (v := (9 : Int32)) hx hb dX5_draw_23 (by decide) ?_
    refine lv_icmp_eq (tgt := 42) hx hb dX5_draw_25 (by decide) (fun hc => ?_) (fun hc => ?_)
    · have hw := And.left hw hc
      exact B42 x1 z0 _ _ _ hw hP hD hS (lv_sub hl [0, 1] rfl)
    · have hw := And.right hw hc
      refine lv_aload_n hx hb dX5_draw_28 rfl (lv_at hl 0 rfl) ?_
      refine rg_X_X5_0_0 hC hK hP dX5_draw_29 ?_
      refine lv_iload_n hx hb dX5_draw_32 rfl (lv_at hl 1 rfl) ?_
      refine vp_callSi (xro (xr_VN hC hK.2 (cX4_mayDraw_c (h := (sh h 1)) hw) ⟨rfl, rfl⟩ bw_337 calX4_mayDraw ⟨Nat.le_trans (Nat.le_of_ble_eq_true rfl) hF, Nat.le_trans (Nat.le_of_ble_eq_true rfl) hL⟩ (rest := []) (xpR hK (xCut.P (cut_X_W1) hP) rfl rfl) rfl hl rfl (Nat.le_of_ble_eq_true rfl) dX5_draw_33 ⟨Nat.zero_le _, Nat.zero_le _⟩)) (fun r1 hw => ?_)
      refine lv_if_ne (tgt := 42) hx hb dX5_draw_36 (by decide) (fun hc => ?_) (fun hc => ?_)
      · have hw := And.left hw hc
        exact B42 x1 z0 _ _ _ hw hP hD hS (lv_sub hl [0, 1] rfl)
      · have hw := And.right hw hc
        refine lv_bipush (v := (-2 : Int32)) hx hb dX5_draw_39 (by decide) ?_
        exact hret _ _ _ _ _ _ hw hP hD hS dX5_draw_41
  unfold wpX5_draw at hw
  refine lv_iload_n hx hb dX5_draw_0 rfl (lv_at hl 1 rfl) ?_
  refine lv_bipush (v := (9 : Int32)) hx hb dX5_draw_1 (by decide) ?_
  refine lv_icmp_eq (tgt := 22) hx hb dX5_draw_3 (by decide) (fun hc => ?_) (fun hc => ?_)
  · have hw := And.left hw hc
    exact B22 x1 z0 _ _ _ hw hP hD hS (lv_sub hl [0, 1] rfl)
  · have hw := And.right hw hc
    refine lv_aload_n hx hb dX5_draw_6 rfl (lv_at hl 0 rfl) ?_
    refine rg_X_X5_0_0 hC hK hP dX5_draw_7 ?_
    refine rg_X_X5_1_0 hC hK hP dX5_draw_10 ?_
    refine lv_iload_n hx hb dX5_draw_13 rfl (lv_at hl 1 rfl) ?_
    refine vp_callSi (xro (xr_VN hC hK.2 (cX0_has_c (h := (sh h 4)) hw) ⟨rfl, rfl⟩ bw_234 calX0_has ⟨Nat.le_trans (Nat.le_of_ble_eq_true rfl) hF, Nat.le_trans (Nat.le_of_ble_eq_true rfl) hL⟩ (rest := []) (xpR hK (xCut.P (cut_X_F4) hP) rfl rfl) rfl hl rfl (Nat.le_of_ble_eq_true rfl) dX5_draw_14 ⟨Nat.zero_le _, Nat.zero_le _⟩)) (fun r1 hw => ?_)
    refine lv_if_ne (tgt := 22) hx hb dX5_draw_17 (by decide) (fun hc => ?_) (fun hc => ?_)
    · have hw := And.left hw hc
      exact B22 x1 z0 _ _ _ hw hP hD hS (lv_sub hl [0, 1] rfl)
    · have hw := And.right hw hc
      refine lv_iconst (v := (-1 : Int32)) hx hb dX5_draw_20 (by decide) ?_
      exact hret _ _ _ _ _ _ hw hP hD hS dX5_draw_21
def wpX5_pass_28 (k28 : Int32 → Int32 → (wXS) → Prop) (post : Int32 → (wXS) → Prop) (x1 : Int32) (x2 : Int32) (z0 : wXS) : Prop := ((x1 ≤ x2 → (post (w_i (w_o (x_w z0)) 9) z0)) ∧ (¬ x1 ≤ x2 → (wpX4_passHour (9 : Int32) (x_w z0) (fun r1 u => ∀ z1 : wXS, z1 = (x_sw z0 u) → (k28 x1 (x2 + (1 : Int32)) z1)))))
def wpX5_pass_L28  (post : Int32 → (wXS) → Prop) : Nat → Int32 → Int32 → (wXS) → Prop
  | 0 => fun _ _ _ => False
  | n + 1 => fun x1 x2 z0 => wpX5_pass_28  (wpX5_pass_L28  post n) post x1 x2 z0
def wpX5_pass (x1 : Int32) (z0 : wXS) (post : Int32 → (wXS) → Prop) : Prop := (wpX5_within x1 (1 : Int32) (60 : Int32) (fun r1 => ((¬ r1 = 0 → (wpX4_hasHours x1 (x_w z0) (fun r2 => ((¬ r2 = 0 → (∃ n, wpX5_pass_L28  post n x1 (0 : Int32) z0)) ∧ (r2 = 0 → (post (-3 : Int32) z0)))))) ∧ (r1 = 0 → (post (-1 : Int32) z0)))))
set_option maxHeartbeats 4000000 in
set_option maxRecDepth 100000 in
theorem cX5_pass_c {l : Launch} {G : wG} {h : Nat → Nat} {sz : Nat} {x1 : Int32} {post : Int32 → (wXS) → Prop} {z0 : wXS}  (hw : wpX5_pass x1 z0 post) : Met l yX5_pass (.code yX5_pass cX5_pass 3 (some .int) :: BIG) { frames := 5, cells := 0, slots := 0, locals := 112 } (xPw G [.ref (h 0), .int x1] (wsX G h z0) sz) (xQi G post (fun q => (wsX G h q)) (va_A (wsX G h z0) sz)) 0 0 (va_A (wsX G h z0) sz) := by
  refine xm_wi (by decide) (Nat.le_of_ble_eq_true rfl) (fun p e s m args below meth c A ls R Q hC hK hA hP hD hS hl hF hL hret => ?_)
  have hx := hC.1
  have hb := hC.2.1
  have hl : lv_has ls 3 [(0, .ref (h 0)), (1, .int x1)] := hl
  have B28 : ∀ n28 : Nat, ∀ (x1 : Int32) (x2 : Int32) (z0 : wXS) (H : Heap) (locs : List Loc) (ls : Array Slot), wpX5_pass_L28  post n28 x1 x2 z0 → va_P G.1 vwCl (wsX G h z0) H → va_D A (wsX G h z0) → va_S A s.heap H locs → lv_has ls 3 [(0, .ref (h 0)), (1, .int x1), (2, .int x2)] → W p l e R s m args below meth c H locs 0 0 Q (F0 m 28 ls []) := by
    intro n28
    induction n28 with
    | zero => intro x1 x2 z0 H locs ls hw hP hD hS hl; exact False.elim hw
    | succ n28 I28 =>
      intro x1 x2 z0 H locs ls hw hP hD hS hl
      have hw : wpX5_pass_28  (wpX5_pass_L28  post n28) post x1 x2 z0 := hw
      unfold wpX5_pass_28 at hw
      refine lv_iload_n hx hb dX5_pass_28 rfl (lv_at hl 2 rfl) ?_
      refine lv_iload_n hx hb dX5_pass_29 rfl (lv_at hl 1 rfl) ?_
      refine lv_icmp_ge (tgt := 49) hx hb dX5_pass_30 (by decide) (fun hc => ?_) (fun hc => ?_)
      · have hw := And.left hw hc
        refine lv_aload_n hx hb dX5_pass_49 rfl (lv_at hl 0 rfl) ?_
        refine rg_X_X5_0_0 hC hK hP dX5_pass_50 ?_
        refine rg_X_X5_1_9 hC hK hP dX5_pass_53 ?_
        exact hret _ _ _ _ _ _ hw hP hD hS dX5_pass_56
      · have hw := And.right hw hc
        refine lv_aload_n hx hb dX5_pass_33 rfl (lv_at hl 0 rfl) ?_
        refine rg_X_X5_0_0 hC hK hP dX5_pass_34 ?_
        refine lv_bipush (v := (9 : Int32)) hx hb dX5_pass_37 (by decide) ?_
        refine xc_wi (S := wP2) (wsz := fun q => (wsX G h q)) (f := fun u => (x_sw z0 u)) (xr_VN hC hK.2 (cX4_passHour_c (h := (sh h 1)) hw) ⟨rfl, rfl⟩ bw_350 calX4_passHour ⟨Nat.le_trans (Nat.le_of_ble_eq_true rfl) hF, Nat.le_trans (Nat.le_of_ble_eq_true rfl) hL⟩ (rest := []) (xpV hK (cut_X_W1) hP hD rfl rfl) rfl hl rfl (Nat.le_of_ble_eq_true rfl) dX5_pass_39 ⟨Nat.zero_le _, Nat.zero_le _⟩) (cut_X_W1) hP hD hS hA (fun r1 u z1 H locs hz1 hw hP hD hS => ?_)
        have hw := hw z1 hz1
        refine lv_pop hx hb dX5_pass_42 rfl ?_
        refine lv_iinc (v := (x2 + (1 : Int32))) (lv' := [(2, .int (x2 + (1 : Int32))), (0, .ref (h 0)), (1, .int x1)]) hx hb dX5_pass_43 hl (k := 2) rfl rfl (by decide) rfl (fun ls hl => ?_)
        refine lv_goto (tgt := 28) hx hb dX5_pass_46 (by decide) ?_
        exact I28 x1 (x2 + (1 : Int32)) z1 _ _ _ hw hP hD hS (lv_sub hl [1, 2, 0] rfl)
  unfold wpX5_pass at hw
  refine lv_iload_n hx hb dX5_pass_0 rfl (lv_at hl 1 rfl) ?_
  refine lv_iconst (v := (1 : Int32)) hx hb dX5_pass_1 (by decide) ?_
  refine lv_bipush (v := (60 : Int32)) hx hb dX5_pass_2 (by decide) ?_
  refine vp_callSi (xro (xr_S hC (cX5_within_c hw) ⟨rfl, rfl⟩ bw_223 calX5_within ⟨Nat.le_trans (Nat.le_of_ble_eq_true rfl) hF, Nat.le_trans (Nat.le_of_ble_eq_true rfl) hL⟩ (rest := []) (xpS hK) rfl hl rfl (Nat.le_of_ble_eq_true rfl) dX5_pass_4 ⟨Nat.zero_le _, Nat.zero_le _⟩)) (fun r1 hw => ?_)
  refine lv_if_ne (tgt := 12) hx hb dX5_pass_7 (by decide) (fun hc => ?_) (fun hc => ?_)
  · have hw := And.left hw hc
    refine lv_aload_n hx hb dX5_pass_12 rfl (lv_at hl 0 rfl) ?_
    refine rg_X_X5_0_0 hC hK hP dX5_pass_13 ?_
    refine lv_iload_n hx hb dX5_pass_16 rfl (lv_at hl 1 rfl) ?_
    refine vp_callSi (xro (xr_VN hC hK.2 (cX4_hasHours_c (h := (sh h 1)) hw) ⟨rfl, rfl⟩ bw_346 calX4_hasHours ⟨Nat.le_trans (Nat.le_of_ble_eq_true rfl) hF, Nat.le_trans (Nat.le_of_ble_eq_true rfl) hL⟩ (rest := []) (xpR hK (xCut.P (cut_X_W1) hP) rfl rfl) rfl hl rfl (Nat.le_of_ble_eq_true rfl) dX5_pass_17 ⟨Nat.zero_le _, Nat.zero_le _⟩)) (fun r2 hw => ?_)
    refine lv_if_ne (tgt := 26) hx hb dX5_pass_20 (by decide) (fun hc => ?_) (fun hc => ?_)
    · have hw := And.left hw hc
      refine lv_iconst (v := (0 : Int32)) hx hb dX5_pass_26 (by decide) ?_
      refine lv_istore_n (lv' := [(2, .int (0 : Int32)), (0, .ref (h 0)), (1, .int x1)]) hx hb dX5_pass_27 rfl hl (by decide) rfl (fun ls hl => ?_)
      obtain ⟨j28, hw⟩ := hw
      exact B28 j28 x1 (0 : Int32) z0 _ _ _ hw hP hD hS (lv_sub hl [1, 2, 0] rfl)
    · have hw := And.right hw hc
      refine lv_bipush (v := (-3 : Int32)) hx hb dX5_pass_23 (by decide) ?_
      exact hret _ _ _ _ _ _ hw hP hD hS dX5_pass_25
  · have hw := And.right hw hc
    refine lv_iconst (v := (-1 : Int32)) hx hb dX5_pass_10 (by decide) ?_
    exact hret _ _ _ _ _ _ hw hP hD hS dX5_pass_11
def wpX5_run (z0 : wXS) (post : Int32 → (wXS) → Prop) : Prop := (wpX4_hasHours (w_i (w_o (x_w z0)) 3) (x_w z0) (fun r1 => ((¬ r1 = 0 → (wpX4_followPlan (x_w z0) (fun r2 u => ∀ z1 : wXS, z1 = (x_sw z0 u) → (post r2 z1)))) ∧ (r1 = 0 → (post (-3 : Int32) z0)))))
set_option maxHeartbeats 4000000 in
set_option maxRecDepth 100000 in
theorem cX5_run_c {l : Launch} {G : wG} {h : Nat → Nat} {sz : Nat}  {post : Int32 → (wXS) → Prop} {z0 : wXS}  (hw : wpX5_run z0 post) : Met l yX5_run (.code yX5_run cX5_run 1 (some .int) :: BIG) { frames := 6, cells := 0, slots := 0, locals := 133 } (xPw G [.ref (h 0)] (wsX G h z0) sz) (xQi G post (fun q => (wsX G h q)) (va_A (wsX G h z0) sz)) 0 0 (va_A (wsX G h z0) sz) := by
  refine xm_wi (by decide) (Nat.le_of_ble_eq_true rfl) (fun p e s m args below meth c A ls R Q hC hK hA hP hD hS hl hF hL hret => ?_)
  have hx := hC.1
  have hb := hC.2.1
  have hl : lv_has ls 1 [(0, .ref (h 0))] := hl
  unfold wpX5_run at hw
  refine lv_aload_n hx hb dX5_run_0 rfl (lv_at hl 0 rfl) ?_
  refine rg_X_X5_0_0 hC hK hP dX5_run_1 ?_
  refine lv_aload_n hx hb dX5_run_4 rfl (lv_at hl 0 rfl) ?_
  refine rg_X_X5_0_0 hC hK hP dX5_run_5 ?_
  refine rg_X_X5_1_3 hC hK hP dX5_run_8 ?_
  refine vp_callSi (xro (xr_VN hC hK.2 (cX4_hasHours_c (h := (sh h 1)) hw) ⟨rfl, rfl⟩ bw_346 calX4_hasHours ⟨Nat.le_trans (Nat.le_of_ble_eq_true rfl) hF, Nat.le_trans (Nat.le_of_ble_eq_true rfl) hL⟩ (rest := []) (xpR hK (xCut.P (cut_X_W1) hP) rfl rfl) rfl hl rfl (Nat.le_of_ble_eq_true rfl) dX5_run_11 ⟨Nat.zero_le _, Nat.zero_le _⟩)) (fun r1 hw => ?_)
  refine lv_if_ne (tgt := 20) hx hb dX5_run_14 (by decide) (fun hc => ?_) (fun hc => ?_)
  · have hw := And.left hw hc
    refine lv_aload_n hx hb dX5_run_20 rfl (lv_at hl 0 rfl) ?_
    refine rg_X_X5_0_0 hC hK hP dX5_run_21 ?_
    refine xc_wi (S := wP2) (wsz := fun q => (wsX G h q)) (f := fun u => (x_sw z0 u)) (xr_VN hC hK.2 (cX4_followPlan_c (h := (sh h 1)) hw) ⟨rfl, rfl⟩ bw_407 calX4_followPlan ⟨Nat.le_trans (Nat.le_of_ble_eq_true rfl) hF, Nat.le_trans (Nat.le_of_ble_eq_true rfl) hL⟩ (rest := []) (xpV hK (cut_X_W1) hP hD rfl rfl) rfl hl rfl (Nat.le_of_ble_eq_true rfl) dX5_run_24 ⟨Nat.zero_le _, Nat.zero_le _⟩) (cut_X_W1) hP hD hS hA (fun r2 u z1 H locs hz1 hw hP hD hS => ?_)
    have hw := hw z1 hz1
    exact hret _ _ _ _ _ _ hw hP hD hS dX5_run_27
  · have hw := And.right hw hc
    refine lv_bipush (v := (-3 : Int32)) hx hb dX5_run_17 (by decide) ?_
    exact hret _ _ _ _ _ _ hw hP hD hS dX5_run_19
def wpX5_mostFrom (x1 : Int32) (x2 : Int32) (z0 : wXS) (post : Int32 → (wXS) → Prop) : Prop := (wpX1_observe ((x_s z0), (x_w z0)) (fun u => ∀ z1 : wXS, z1 = (x_sw (x_ss z0 u.1) u.2) → (wpX1_mostIn x2 x1 (x_s z1) (fun r1 u => ∀ z2 : wXS, z2 = (x_ss z1 u) → (post r1 z2)))))
set_option maxHeartbeats 4000000 in
set_option maxRecDepth 100000 in
theorem cX5_mostFrom_c {l : Launch} {G : wG} {h : Nat → Nat} {sz : Nat} {x1 : Int32} {x2 : Int32} {post : Int32 → (wXS) → Prop} {z0 : wXS}  (hw : wpX5_mostFrom x1 x2 z0 post) : Met l yX5_mostFrom (.code yX5_mostFrom cX5_mostFrom 3 (some .int) :: BIG) { frames := 51, cells := 0, slots := 0, locals := 1420 } (xPw G [.ref (h 0), .int x1, .int x2] (wsX G h z0) sz) (xQi G post (fun q => (wsX G h q)) (va_A (wsX G h z0) sz)) 0 0 (va_A (wsX G h z0) sz) := by
  refine xm_wi (by decide) (Nat.le_of_ble_eq_true rfl) (fun p e s m args below meth c A ls R Q hC hK hA hP hD hS hl hF hL hret => ?_)
  have hx := hC.1
  have hb := hC.2.1
  have hl : lv_has ls 3 [(0, .ref (h 0)), (1, .int x1), (2, .int x2)] := hl
  unfold wpX5_mostFrom at hw
  refine lv_aload_n hx hb dX5_mostFrom_0 rfl (lv_at hl 0 rfl) ?_
  refine rg_X_X5_0_6 hC hK hP dX5_mostFrom_1 ?_
  refine lv_aload_n hx hb dX5_mostFrom_4 rfl (lv_at hl 0 rfl) ?_
  refine rg_X_X5_0_0 hC hK hP dX5_mostFrom_5 ?_
  refine xc_wv (S := wP2 × wP2) (wsz := fun q => (wsX G h q)) (f := fun u => (x_sw (x_ss z0 u.1) u.2)) (xr_VN hC hK.2 (cX1_observe_c (h := (sh h 25)) (g := (sh h 1)) hw) ⟨rfl, rfl⟩ bw_420 calX1_observe ⟨Nat.le_trans (Nat.le_of_ble_eq_true rfl) hF, Nat.le_trans (Nat.le_of_ble_eq_true rfl) hL⟩ (rest := []) (xpV hK (cut_X_S25_W1) hP hD rfl rfl) rfl hl rfl (Nat.le_of_ble_eq_true rfl) dX5_mostFrom_8 ⟨Nat.zero_le _, Nat.zero_le _⟩) (cut_X_S25_W1) hP hD hS hA (fun u z1 H locs hz1 hw hP hD hS => ?_)
  have hw := hw z1 hz1
  refine lv_aload_n hx hb dX5_mostFrom_11 rfl (lv_at hl 0 rfl) ?_
  refine rg_X_X5_0_6 hC hK hP dX5_mostFrom_12 ?_
  refine lv_iload_n hx hb dX5_mostFrom_15 rfl (lv_at hl 2 rfl) ?_
  refine lv_iload_n hx hb dX5_mostFrom_16 rfl (lv_at hl 1 rfl) ?_
  refine xc_wi (S := wP2) (wsz := fun q => (wsX G h q)) (f := fun u => (x_ss z1 u)) (xr_VN hC hK.2 (cX1_mostIn_c (h := (sh h 25)) hw) ⟨rfl, rfl⟩ bw_426 calX1_mostIn ⟨Nat.le_trans (Nat.le_of_ble_eq_true rfl) hF, Nat.le_trans (Nat.le_of_ble_eq_true rfl) hL⟩ (rest := []) (xpV hK (cut_X_S25) hP hD rfl rfl) rfl hl rfl (Nat.le_of_ble_eq_true rfl) dX5_mostFrom_17 ⟨Nat.zero_le _, Nat.zero_le _⟩) (cut_X_S25) hP hD hS hA (fun r1 u z2 H locs hz1 hw hP hD hS => ?_)
  have hw := hw z2 hz1
  exact hret _ _ _ _ _ _ hw hP hD hS dX5_mostFrom_20
def wpX5_most (x1 : Int32) (z0 : wXS) (post : Int32 → (wXS) → Prop) : Prop := (wpX5_within x1 (1 : Int32) (5 : Int32) (fun r1 => ((r1 = 0 → (post (-1 : Int32) z0)) ∧ (¬ r1 = 0 → (wpX5_mostFrom (w_i (w_o (x_w z0)) 4) x1 z0 (fun r2 u => ∀ z1 : wXS, z1 = u → (post r2 z1)))))))
set_option maxHeartbeats 4000000 in
set_option maxRecDepth 100000 in
theorem cX5_most_c {l : Launch} {G : wG} {h : Nat → Nat} {sz : Nat} {x1 : Int32} {post : Int32 → (wXS) → Prop} {z0 : wXS}  (hw : wpX5_most x1 z0 post) : Met l yX5_most (.code yX5_most cX5_most 2 (some .int) :: BIG) { frames := 52, cells := 0, slots := 0, locals := 1442 } (xPw G [.ref (h 0), .int x1] (wsX G h z0) sz) (xQi G post (fun q => (wsX G h q)) (va_A (wsX G h z0) sz)) 0 0 (va_A (wsX G h z0) sz) := by
  refine xm_wi (by decide) (Nat.le_of_ble_eq_true rfl) (fun p e s m args below meth c A ls R Q hC hK hA hP hD hS hl hF hL hret => ?_)
  have hx := hC.1
  have hb := hC.2.1
  have hl : lv_has ls 2 [(0, .ref (h 0)), (1, .int x1)] := hl
  unfold wpX5_most at hw
  refine lv_iload_n hx hb dX5_most_0 rfl (lv_at hl 1 rfl) ?_
  refine lv_iconst (v := (1 : Int32)) hx hb dX5_most_1 (by decide) ?_
  refine lv_iconst (v := (5 : Int32)) hx hb dX5_most_2 (by decide) ?_
  refine vp_callSi (xro (xr_S hC (cX5_within_c hw) ⟨rfl, rfl⟩ bw_223 calX5_within ⟨Nat.le_trans (Nat.le_of_ble_eq_true rfl) hF, Nat.le_trans (Nat.le_of_ble_eq_true rfl) hL⟩ (rest := []) (xpS hK) rfl hl rfl (Nat.le_of_ble_eq_true rfl) dX5_most_3 ⟨Nat.zero_le _, Nat.zero_le _⟩)) (fun r1 hw => ?_)
  refine lv_if_eq (tgt := 24) hx hb dX5_most_6 (by decide) (fun hc => ?_) (fun hc => ?_)
  · have hw := And.left hw hc
    refine lv_iconst (v := (-1 : Int32)) hx hb dX5_most_24 (by decide) ?_
    exact hret _ _ _ _ _ _ hw hP hD hS dX5_most_25
  · have hw := And.right hw hc
    refine lv_aload_n hx hb dX5_most_9 rfl (lv_at hl 0 rfl) ?_
    refine lv_aload_n hx hb dX5_most_10 rfl (lv_at hl 0 rfl) ?_
    refine rg_X_X5_0_0 hC hK hP dX5_most_11 ?_
    refine rg_X_X5_1_4 hC hK hP dX5_most_14 ?_
    refine lv_iload_n hx hb dX5_most_17 rfl (lv_at hl 1 rfl) ?_
    refine xc_wi (S := wXS) (wsz := fun q => (wsX G h q)) (f := fun u => u) (xr_V hC (cX5_mostFrom_c (h := h) hw) ⟨rfl, rfl⟩ bw_416 calX5_mostFrom ⟨Nat.le_trans (Nat.le_of_ble_eq_true rfl) hF, Nat.le_trans (Nat.le_of_ble_eq_true rfl) hL⟩ (rest := []) (xpV hK (cut_all_X) hP hD rfl rfl) rfl hl rfl (Nat.le_of_ble_eq_true rfl) dX5_most_18 ⟨Nat.zero_le _, Nat.zero_le _⟩) (cut_all_X) hP hD hS hA (fun r2 u z1 H locs hz1 hw hP hD hS => ?_)
    have hw := hw z1 hz1
    refine lv_goto (tgt := 25) hx hb dX5_most_21 (by decide) ?_
    exact hret _ _ _ _ _ _ hw hP hD hS dX5_most_25
