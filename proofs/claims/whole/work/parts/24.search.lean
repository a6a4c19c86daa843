def wpX1_observe (z0 : wP2 × wP2) (post : (wP2 × wP2) → Prop) : Prop := (wpX0_become ((w_f z0.1), (w_f z0.2)) (fun u => ∀ z1 : wP2 × wP2, z1 = (((w_sf z0.1 u.1), z0.2).1, (w_sf ((w_sf z0.1 u.1), z0.2).2 u.2)) → (¬ (0 : Int32) < 0 ∧ ¬ (0 : Int32) < 0 ∧ ¬ (6 : Int32) < 0 ∧ (0 : Int32).toNatClampNeg + (6 : Int32).toNatClampNeg ≤ 6 ∧ (0 : Int32).toNatClampNeg + (6 : Int32).toNatClampNeg ≤ 6 ∧ ∀ z2 : wP2 × wP2, z2 = ((w_so z1.1 (w_sa (w_o z1.1) 1 (va_cpy (w_a (w_o z1.2) 1) (w_a (w_o z1.1) 1) (0 : Int32).toNatClampNeg (0 : Int32).toNatClampNeg (6 : Int32).toNatClampNeg))), z1.2) → (∀ z3 : wP2 × wP2, z3 = ((w_so z2.1 (w_si (w_o z2.1) 4 (w_i (w_o z2.2) 5))), z2.2) → (∀ z4 : wP2 × wP2, z4 = ((w_so z3.1 (w_si (w_o z3.1) 5 (w_i (w_o z3.2) 6))), z3.2) → (∀ z5 : wP2 × wP2, z5 = ((w_so z4.1 (w_si (w_o z4.1) 6 (w_i (w_o z4.2) 10))), z4.2) → (post z5)))))))
set_option maxHeartbeats 4000000 in
set_option maxRecDepth 100000 in
theorem cX1_observe_c {l : Launch} {G : wG} {h g : Nat → Nat} {sz : Nat}  {post : (wP2 × wP2) → Prop} {z0 : wP2 × wP2}  (hw : wpX1_observe z0 post) : Met l yX1_observe (.code yX1_observe cX1_observe 2 none :: BIG) { frames := 1, cells := 0, slots := 0, locals := 40 } (xPw G [.ref (h 0), .ref (g 0)] (wsSearch G h z0.1 ++ wsWell G g z0.2) sz) (xQv G post (fun q => (wsSearch G h q.1 ++ wsWell G g q.2)) (va_A (wsSearch G h z0.1 ++ wsWell G g z0.2) sz)) 0 0 (va_A (wsSearch G h z0.1 ++ wsWell G g z0.2) sz) := by
  refine xm_wv (by decide) (Nat.le_of_ble_eq_true rfl) (fun p e s m args below meth c A ls R Q hC hK hA hP hD hS hl hF hL hret => ?_)
  have hx := hC.1
  have hb := hC.2.1
  have hl : lv_has ls 2 [(0, .ref (h 0)), (1, .ref (g 0))] := hl
  unfold wpX1_observe at hw
  refine lv_aload_n hx hb dX1_observe_0 rfl (lv_at hl 0 rfl) ?_
  refine rg_SW_X1_0_0 hC hK hP dX1_observe_1 ?_
  refine lv_aload_n hx hb dX1_observe_4 rfl (lv_at hl 1 rfl) ?_
  refine rg_SW_X1_9_0 hC hK hP dX1_observe_5 ?_
  refine xc_wv (S := wSt × wSt) (wsz := fun q => (wsSearch G h q.1 ++ wsWell G g q.2)) (f := fun u => (((w_sf z0.1 u.1), z0.2).1, (w_sf ((w_sf z0.1 u.1), z0.2).2 u.2))) (xr_VN hC hK.2 (cX0_become_c (h := (sh h 4)) (g := (sh g 3)) hw) ⟨rfl, rfl⟩ bw_424 calX0_become ⟨Nat.le_trans (Nat.le_of_ble_eq_true rfl) hF, Nat.le_trans (Nat.le_of_ble_eq_true rfl) hL⟩ (rest := []) (xpV hK (cut_SW_F4_F12) hP hD rfl rfl) rfl hl rfl (Nat.le_of_ble_eq_true rfl) dX1_observe_8 ⟨Nat.zero_le _, Nat.zero_le _⟩) (cut_SW_F4_F12) hP hD hS hA (fun u z1 H locs hz1 hw hP hD hS => ?_)
  have hw := hw z1 hz1
  refine lv_aload_n hx hb dX1_observe_11 rfl (lv_at hl 1 rfl) ?_
  refine rg_SW_X1_9_1 hC hK hP dX1_observe_12 ?_
  refine lv_iconst (v := (0 : Int32)) hx hb dX1_observe_15 (by decide) ?_
  refine lv_aload_n hx hb dX1_observe_16 rfl (lv_at hl 0 rfl) ?_
  refine rg_SW_X1_0_1 hC hK hP dX1_observe_17 ?_
  refine lv_iconst (v := (0 : Int32)) hx hb dX1_observe_20 (by decide) ?_
  refine lv_bipush (v := (6 : Int32)) hx hb dX1_observe_21 (by decide) ?_
  obtain ⟨h1, h2, h3, h4, h5, hw⟩ := hw
  refine rc_SW_10_1 hC hK hP hD hS hl (Nat.le_trans (Nat.le_of_ble_eq_true rfl) hF) (Nat.le_trans (Nat.le_of_ble_eq_true rfl) hL) h1 h2 h3 h4 h5 dX1_observe_23 (fun z2 H locs hz1 hP hD hS => ?_)
  have hw := hw z2 hz1
  refine lv_aload_n hx hb dX1_observe_26 rfl (lv_at hl 0 rfl) ?_
  refine lv_aload_n hx hb dX1_observe_27 rfl (lv_at hl 1 rfl) ?_
  refine rg_SW_X1_9_5 hC hK hP dX1_observe_28 ?_
  refine rp_SW_X1_0_4 hC hK hP hD hS dX1_observe_31 (fun z3 H locs hz1 hP hD hS => ?_)
  have hw := hw z3 hz1
  refine lv_aload_n hx hb dX1_observe_34 rfl (lv_at hl 0 rfl) ?_
  refine lv_aload_n hx hb dX1_observe_35 rfl (lv_at hl 1 rfl) ?_
  refine rg_SW_X1_9_6 hC hK hP dX1_observe_36 ?_
  refine rp_SW_X1_0_5 hC hK hP hD hS dX1_observe_39 (fun z4 H locs hz1 hP hD hS => ?_)
  have hw := hw z4 hz1
  refine lv_aload_n hx hb dX1_observe_42 rfl (lv_at hl 0 rfl) ?_
  refine lv_aload_n hx hb dX1_observe_43 rfl (lv_at hl 1 rfl) ?_
  refine rg_SW_X1_9_10 hC hK hP dX1_observe_44 ?_
  refine rp_SW_X1_0_6 hC hK hP hD hS dX1_observe_47 (fun z5 H locs hz1 hP hD hS => ?_)
  have hw := hw z5 hz1
  exact hret _ _ _ _ _ hw hP hD hS dX1_observe_50
def wpX1_keep (x1 : Int32) (z0 : wP2) (post : (wP2) → Prop) : Prop := ((x1 ≤ (w_i (w_o z0) 8) → (post z0)) ∧ (¬ x1 ≤ (w_i (w_o z0) 8) → (∀ z1 : wP2, z1 = (w_so z0 (w_si (w_o z0) 8 x1)) → (¬ (0 : Int32) < 0 ∧ ¬ (0 : Int32) < 0 ∧ ¬ (w_i (w_o z1) 7) < 0 ∧ (0 : Int32).toNatClampNeg + (w_i (w_o z1) 7).toNatClampNeg ≤ 5 ∧ (0 : Int32).toNatClampNeg + (w_i (w_o z1) 7).toNatClampNeg ≤ 5 ∧ ∀ z2 : wP2, z2 = (w_so z1 (w_sa (w_o z1) 3 (va_cpy (w_a (w_o z1) 2) (w_a (w_o z1) 3) (0 : Int32).toNatClampNeg (0 : Int32).toNatClampNeg (w_i (w_o z1) 7).toNatClampNeg))) → (post z2)))))
set_option maxHeartbeats 4000000 in
set_option maxRecDepth 100000 in
theorem cX1_keep_c {l : Launch} {G : wG} {h : Nat → Nat} {sz : Nat} {x1 : Int32} {post : (wP2) → Prop} {z0 : wP2}  (hw : wpX1_keep x1 z0 post) : Met l yX1_keep (.code yX1_keep cX1_keep 2 none :: BIG) { frames := 1, cells := 0, slots := 0, locals := 40 } (xPw G [.ref (h 0), .int x1] (wsSearch G h z0) sz) (xQv G post (fun q => (wsSearch G h q)) (va_A (wsSearch G h z0) sz)) 0 0 (va_A (wsSearch G h z0) sz) := by
  refine xm_wv (by decide) (Nat.le_of_ble_eq_true rfl) (fun p e s m args below meth c A ls R Q hC hK hA hP hD hS hl hF hL hret => ?_)
  have hx := hC.1
  have hb := hC.2.1
  have hl : lv_has ls 2 [(0, .ref (h 0)), (1, .int x1)] := hl
  unfold wpX1_keep at hw
  refine lv_iload_n hx hb dX1_keep_0 rfl (lv_at hl 1 rfl) ?_
  refine lv_aload_n hx hb dX1_keep_1 rfl (lv_at hl 0 rfl) ?_
  refine rg_S_X1_0_8 hC hK hP dX1_keep_2 ?_
  refine lv_icmp_le (tgt := 30) hx hb dX1_keep_5 (by decide) (fun hc => ?_) (fun hc => ?_)
  · have hw := And.left hw hc
    exact hret _ _ _ _ _ hw hP hD hS dX1_keep_30
  · have hw := And.right hw hc
    refine lv_aload_n hx hb dX1_keep_8 rfl (lv_at hl 0 rfl) ?_
    refine lv_iload_n hx hb dX1_keep_9 rfl (lv_at hl 1 rfl) ?_
    refine rp_S_X1_0_8 hC hK hP hD hS dX1_keep_10 (fun z1 H locs hz1 hP hD hS => ?_)
    have hw := hw z1 hz1
    refine lv_aload_n hx hb dX1_keep_13 rfl (lv_at hl 0 rfl) ?_
    refine rg_S_X1_0_2 hC hK hP dX1_keep_14 ?_
    refine lv_iconst (v := (0 : Int32)) hx hb dX1_keep_17 (by decide) ?_
    refine lv_aload_n hx hb dX1_keep_18 rfl (lv_at hl 0 rfl) ?_
    refine rg_S_X1_0_3 hC hK hP dX1_keep_19 ?_
    refine lv_iconst (v := (0 : Int32)) hx hb dX1_keep_22 (by decide) ?_
    refine lv_aload_n hx hb dX1_keep_23 rfl (lv_at hl 0 rfl) ?_
    refine rg_S_X1_0_7 hC hK hP dX1_keep_24 ?_
    obtain ⟨h1, h2, h3, h4, h5, hw⟩ := hw
    refine rc_S_2_3 hC hK hP hD hS hl (Nat.le_trans (Nat.le_of_ble_eq_true rfl) hF) (Nat.le_trans (Nat.le_of_ble_eq_true rfl) hL) h1 h2 h3 h4 h5 dX1_keep_27 (fun z2 H locs hz1 hP hD hS => ?_)
    have hw := hw z2 hz1
    exact hret _ _ _ _ _ hw hP hD hS dX1_keep_30
def wpX1_tryDrawing_33  (kT : Int32 → Int32 → Int32 → Int32 → Int32 → wP2 → (wP2 → Prop) → Prop) (post : (wP2) → Prop) (x1 : Int32) (x2 : Int32) (x3 : Int32) (x4 : Int32) (x6 : Int32) (x7 : Int32) (t0 : Int32) (z0 : wP2) : Prop := (vp_in x1 6 ∧ (vp_in x2 5 ∧ ∀ z1 : wP2, z1 = (w_so z0 (w_sa (w_o z0) 2 (upd (w_a (w_o z0) 2) x2.toNatClampNeg x1))) → (vp_in x1 6 ∧ (vp_in x1 6 ∧ ∀ z2 : wP2, z2 = (w_so z1 (w_sa (w_o z1) 1 (upd (w_a (w_o z1) 1) x1.toNatClampNeg (x2 + ((w_a (w_f z1) 2) x1.toNatClampNeg))))) → (wpX0_moodBehind x1 x3 (w_f z2) (fun r1 => (wpX5_waned r1 (fun r2 => (wpX5_rained (x4 - x7) (w_i (w_o z2) 5) (fun r3 => (kT (x2 + (1 : Int32)) r2 r3 x1 (x6 + t0) z2 (fun u => ∀ z3 : wP2, z3 = u → (vp_in x1 6 ∧ ∀ z4 : wP2, z4 = (w_so z3 (w_sa (w_o z3) 1 (upd (w_a (w_o z3) 1) x1.toNatClampNeg ((w_a (w_o z0) 1) x1.toNatClampNeg)))) → (post z4))))))))))))))
def wpX1_tryDrawing (kT : Int32 → Int32 → Int32 → Int32 → Int32 → wP2 → (wP2 → Prop) → Prop) (x1 : Int32) (x2 : Int32) (x3 : Int32) (x4 : Int32) (x5 : Int32) (x6 : Int32) (z0 : wP2) (post : (wP2) → Prop) : Prop := (wpX0_pailsBehind x5 x1 x3 x4 (w_f z0) (fun r1 => (wpX0_isSweet x1 x3 (w_f z0) (fun r2 => ((r2 = 0 → (wpX1_tryDrawing_33  kT post x1 x2 x3 x4 x6 r1 (0 : Int32) z0)) ∧ (¬ r2 = 0 → (wpX1_tryDrawing_33  kT post x1 x2 x3 x4 x6 r1 r1 z0)))))))
set_option maxHeartbeats 4000000 in
set_option maxRecDepth 100000 in
theorem cX1_tryDrawing_c {l : Launch} {G : wG} {h : Nat → Nat} {sz : Nat} {x1 : Int32} {x2 : Int32} {x3 : Int32} {x4 : Int32} {x5 : Int32} {x6 : Int32} {post : (wP2) → Prop} {z0 : wP2}  {kT : Int32 → Int32 → Int32 → Int32 → Int32 → wP2 → (wP2 → Prop) → Prop} {f0 l0 : Nat} (hT : ∀ {h : Nat → Nat} {sz : Nat} {x1 x2 x3 x4 x5 : Int32} {z0 : wP2} {post : wP2 → Prop}, kT x1 x2 x3 x4 x5 z0 post → Met l yX1_tryHour (.code yX1_tryHour cX1_tryHour 7 none :: BIG) { frames := f0, cells := 0, slots := 0, locals := l0 } (xPw G [.ref (h 0), .int x1, .int x2, .int x3, .int x4, .int x5] (wsSearch G h z0) sz) (xQv G post (fun q => (wsSearch G h q)) (va_A (wsSearch G h z0) sz)) 0 0 (va_A (wsSearch G h z0) sz)) (hw : wpX1_tryDrawing kT x1 x2 x3 x4 x5 x6 z0 post) : Met l yX1_tryDrawing (.code yX1_tryDrawing cX1_tryDrawing 10 none :: BIG) { frames := (f0 + 3), cells := 0, slots := 0, locals := (l0 + 68) } (xPw G [.ref (h 0), .int x1, .int x2, .int x3, .int x4, .int x5, .int x6] (wsSearch G h z0) sz) (xQv G post (fun q => (wsSearch G h q)) (va_A (wsSearch G h z0) sz)) 0 0 (va_A (wsSearch G h z0) sz) := by
  refine xm_wv (by decide) (Nat.le_of_ble_eq_true rfl) (fun p e s m args below meth c A ls R Q hC hK hA hP hD hS hl hF hL hret => ?_)
  have hx := hC.1
  have hb := hC.2.1
  have hl : lv_has ls 10 [(0, .ref (h 0)), (1, .int x1), (2, .int x2), (3, .int x3), (4, .int x4), (5, .int x5), (6, .int x6)] := hl
  have B33 : ∀ (x1 : Int32) (x2 : Int32) (x3 : Int32) (x4 : Int32) (x6 : Int32) (x7 : Int32) (t0 : Int32) (z0 : wP2) (H : Heap) (locs : List Loc) (ls : Array Slot), wpX1_tryDrawing_33  kT post x1 x2 x3 x4 x6 x7 t0 z0 → va_P G.1 vwCl (wsSearch G h z0) H → va_D A (wsSearch G h z0) → va_S A s.heap H locs → lv_has ls 10 [(0, .ref (h 0)), (1, .int x1), (2, .int x2), (3, .int x3), (4, .int x4), (6, .int x6), (7, .int x7)] → W p l e R s m args below meth c H locs 0 0 Q (F0 m 33 ls [.int t0]) := by
    intro x1 x2 x3 x4 x6 x7 t0 z0 H locs ls hw hP hD hS hl
    unfold wpX1_tryDrawing_33 at hw
    refine lv_istore (lv' := [(8, .int t0), (0, .ref (h 0)), (1, .int x1), (2, .int x2), (3, .int x3), (4, .int x4), (6, .int x6), (7, .int x7)]) hx hb dX1_tryDrawing_33 hl (by decide) rfl (fun ls hl => ?_)
    refine lv_aload_n hx hb dX1_tryDrawing_35 rfl (lv_at hl 1 rfl) ?_
    refine rg_S_X1_0_1 hC hK hP dX1_tryDrawing_36 ?_
    refine lv_iload_n hx hb dX1_tryDrawing_39 rfl (lv_at hl 2 rfl) ?_
    refine rl_S_1 hC hK hP (And.left hw) dX1_tryDrawing_40 ?_
    have hw := And.right hw
    refine lv_istore (lv' := [(9, .int ((w_a (w_o z0) 1) x1.toNatClampNeg)), (8, .int t0), (0, .ref (h 0)), (1, .int x1), (2, .int x2), (3, .int x3), (4, .int x4), (6, .int x6), (7, .int x7)]) hx hb dX1_tryDrawing_41 hl (by decide) rfl (fun ls hl => ?_)
    refine lv_aload_n hx hb dX1_tryDrawing_43 rfl (lv_at hl 2 rfl) ?_
    refine rg_S_X1_0_2 hC hK hP dX1_tryDrawing_44 ?_
    refine lv_iload_n hx hb dX1_tryDrawing_47 rfl (lv_at hl 4 rfl) ?_
    refine lv_iload_n hx hb dX1_tryDrawing_48 rfl (lv_at hl 3 rfl) ?_
    refine rs_S_2 hC hK hP hD hS (And.left hw) dX1_tryDrawing_49 (fun z1 H locs hz1 hP hD hS => ?_)
    have hw := And.right hw z1 hz1
    refine lv_aload_n hx hb dX1_tryDrawing_50 rfl (lv_at hl 2 rfl) ?_
    refine rg_S_X1_0_1 hC hK hP dX1_tryDrawing_51 ?_
    refine lv_iload_n hx hb dX1_tryDrawing_54 rfl (lv_at hl 3 rfl) ?_
    refine lv_iload_n hx hb dX1_tryDrawing_55 rfl (lv_at hl 4 rfl) ?_
    refine lv_aload_n hx hb dX1_tryDrawing_56 rfl (lv_at hl 2 rfl) ?_
    refine rg_S_X1_0_0 hC hK hP dX1_tryDrawing_57 ?_
    refine rg_S_X1_4_2 hC hK hP dX1_tryDrawing_60 ?_
    refine lv_iload_n hx hb dX1_tryDrawing_63 rfl (lv_at hl 3 rfl) ?_
    refine rl_S_7 hC hK hP (And.left hw) dX1_tryDrawing_64 ?_
    have hw := And.right hw
    refine lv_iadd hx hb dX1_tryDrawing_65 ?_
    refine rs_S_1 hC hK hP hD hS (And.left hw) dX1_tryDrawing_66 (fun z2 H locs hz1 hP hD hS => ?_)
    have hw := And.right hw z2 hz1
    refine lv_aload_n hx hb dX1_tryDrawing_67 rfl (lv_at hl 2 rfl) ?_
    refine lv_iload_n hx hb dX1_tryDrawing_68 rfl (lv_at hl 4 rfl) ?_
    refine lv_iconst (v := (1 : Int32)) hx hb dX1_tryDrawing_69 (by decide) ?_
    refine lv_iadd hx hb dX1_tryDrawing_70 ?_
    refine lv_aload_n hx hb dX1_tryDrawing_71 rfl (lv_at hl 2 rfl) ?_
    refine rg_S_X1_0_0 hC hK hP dX1_tryDrawing_72 ?_
    refine lv_iload_n hx hb dX1_tryDrawing_75 rfl (lv_at hl 3 rfl) ?_
    refine lv_iload_n hx hb dX1_tryDrawing_76 rfl (lv_at hl 5 rfl) ?_
    refine vp_callSi (xro (xr_VN hC hK.2 (cX0_moodBehind_c (h := (sh h 4)) hw) ⟨rfl, rfl⟩ bw_445 calX0_moodBehind ⟨Nat.le_trans (by show 2 + 1 ≤ _; omega) hF, Nat.le_trans (by show 8 + (3 + 11) + (41) ≤ _; omega) hL⟩ (rest := [.int (x2 + (1 : Int32)), .ref (h 0)]) (xpR hK (xCut.P (cut_S_F4) hP) rfl rfl) rfl hl rfl (Nat.le_of_ble_eq_true rfl) dX1_tryDrawing_77 ⟨Nat.zero_le _, Nat.zero_le _⟩)) (fun r1 hw => ?_)
    refine vp_callSi (xro (xr_SN hC hK.2 (cX5_waned_c hw) ⟨rfl, rfl⟩ bw_446 calX5_waned ⟨Nat.le_trans (by show 1 + 1 ≤ _; omega) hF, Nat.le_trans (by show 8 + (1 + 11) + (21) ≤ _; omega) hL⟩ (rest := [.int (x2 + (1 : Int32)), .ref (h 0)]) (xpS hK) rfl hl rfl (Nat.le_of_ble_eq_true rfl) dX1_tryDrawing_80 ⟨Nat.zero_le _, Nat.zero_le _⟩)) (fun r2 hw => ?_)
    refine lv_iload hx hb dX1_tryDrawing_83 (lv_at hl 6 rfl) ?_
    refine lv_iload hx hb dX1_tryDrawing_85 (lv_at hl 8 rfl) ?_
    refine lv_isub hx hb dX1_tryDrawing_87 ?_
    refine lv_aload_n hx hb dX1_tryDrawing_88 rfl (lv_at hl 2 rfl) ?_
    refine rg_S_X1_0_5 hC hK hP dX1_tryDrawing_89 ?_
    refine vp_callSi (xro (xr_SN hC hK.2 (cX5_rained_c hw) ⟨rfl, rfl⟩ bw_447 calX5_rained ⟨Nat.le_trans (by show 1 + 1 ≤ _; omega) hF, Nat.le_trans (by show 8 + (2 + 11) + (21) ≤ _; omega) hL⟩ (rest := [.int r2, .int (x2 + (1 : Int32)), .ref (h 0)]) (xpS hK) rfl hl rfl (Nat.le_of_ble_eq_true rfl) dX1_tryDrawing_92 ⟨Nat.zero_le _, Nat.zero_le _⟩)) (fun r3 hw => ?_)
    refine lv_iload_n hx hb dX1_tryDrawing_95 rfl (lv_at hl 3 rfl) ?_
    refine lv_iload hx hb dX1_tryDrawing_96 (lv_at hl 7 rfl) ?_
    refine lv_iload hx hb dX1_tryDrawing_98 (lv_at hl 1 rfl) ?_
    refine lv_iadd hx hb dX1_tryDrawing_100 ?_
    refine xc_wv (S := wP2) (wsz := fun q => (wsSearch G h q)) (f := fun u => u) (xr_V hC (hT (h := h) hw) ⟨rfl, rfl⟩ bw_431 calX1_tryHour ⟨Nat.le_trans (by show f0 + 1 ≤ _; omega) hF, Nat.le_trans (by show 8 + (7 + 11) + (l0) ≤ _; omega) hL⟩ (rest := []) (xpV hK (cut_all_S) hP hD rfl rfl) rfl hl rfl (Nat.le_of_ble_eq_true rfl) dX1_tryDrawing_101 ⟨Nat.zero_le _, Nat.zero_le _⟩) (cut_all_S) hP hD hS hA (fun u z3 H locs hz1 hw hP hD hS => ?_)
    have hw := hw z3 hz1
    refine lv_aload_n hx hb dX1_tryDrawing_104 rfl (lv_at hl 2 rfl) ?_
    refine rg_S_X1_0_1 hC hK hP dX1_tryDrawing_105 ?_
    refine lv_iload_n hx hb dX1_tryDrawing_108 rfl (lv_at hl 3 rfl) ?_
    refine lv_iload hx hb dX1_tryDrawing_109 (lv_at hl 0 rfl) ?_
    refine rs_S_1 hC hK hP hD hS (And.left hw) dX1_tryDrawing_111 (fun z4 H locs hz1 hP hD hS => ?_)
    have hw := And.right hw z4 hz1
    exact hret _ _ _ _ _ hw hP hD hS dX1_tryDrawing_112
  unfold wpX1_tryDrawing at hw
  refine lv_aload_n hx hb dX1_tryDrawing_0 rfl (lv_at hl 0 rfl) ?_
  refine rg_S_X1_0_0 hC hK hP dX1_tryDrawing_1 ?_
  refine lv_iload hx hb dX1_tryDrawing_4 (lv_at hl 5 rfl) ?_
  refine lv_iload_n hx hb dX1_tryDrawing_6 rfl (lv_at hl 1 rfl) ?_
  refine lv_iload_n hx hb dX1_tryDrawing_7 rfl (lv_at hl 3 rfl) ?_
  refine lv_iload hx hb dX1_tryDrawing_8 (lv_at hl 4 rfl) ?_
  refine vp_callSi (xro (xr_VN hC hK.2 (cX0_pailsBehind_c (h := (sh h 4)) hw) ⟨rfl, rfl⟩ bw_443 calX0_pailsBehind ⟨Nat.le_trans (by show 2 + 1 ≤ _; omega) hF, Nat.le_trans (by show 8 + (5 + 11) + (44) ≤ _; omega) hL⟩ (rest := []) (xpR hK (xCut.P (cut_S_F4) hP) rfl rfl) rfl hl rfl (Nat.le_of_ble_eq_true rfl) dX1_tryDrawing_10 ⟨Nat.zero_le _, Nat.zero_le _⟩)) (fun r1 hw => ?_)
  refine lv_istore (lv' := [(7, .int r1), (0, .ref (h 0)), (1, .int x1), (2, .int x2), (3, .int x3), (4, .int x4), (5, .int x5), (6, .int x6)]) hx hb dX1_tryDrawing_13 hl (by decide) rfl (fun ls hl => ?_)
  refine lv_aload_n hx hb dX1_tryDrawing_15 rfl (lv_at hl 1 rfl) ?_
  refine rg_S_X1_0_0 hC hK hP dX1_tryDrawing_16 ?_
  refine lv_iload_n hx hb dX1_tryDrawing_19 rfl (lv_at hl 2 rfl) ?_
  refine lv_iload_n hx hb dX1_tryDrawing_20 rfl (lv_at hl 4 rfl) ?_
  refine vp_callSi (xro (xr_VN hC hK.2 (cX0_isSweet_c (h := (sh h 4)) hw) ⟨rfl, rfl⟩ bw_444 calX0_isSweet ⟨Nat.le_trans (by show 0 + 1 ≤ _; omega) hF, Nat.le_trans (by show 8 + (3 + 11) + (0) ≤ _; omega) hL⟩ (rest := []) (xpR hK (xCut.P (cut_S_F4) hP) rfl rfl) rfl hl rfl (Nat.le_of_ble_eq_true rfl) dX1_tryDrawing_21 ⟨Nat.zero_le _, Nat.zero_le _⟩)) (fun r2 hw => ?_)
  refine lv_if_eq (tgt := 32) hx hb dX1_tryDrawing_24 (by decide) (fun hc => ?_) (fun hc => ?_)
  · have hw := And.left hw hc
    refine lv_iconst (v := (0 : Int32)) hx hb dX1_tryDrawing_32 (by decide) ?_
    exact B33 x1 x2 x3 x4 x6 r1 (0 : Int32) z0 _ _ _ hw hP hD hS (lv_sub hl [1, 2, 3, 4, 5, 7, 0] rfl)
  · have hw := And.right hw hc
    refine lv_iload hx hb dX1_tryDrawing_27 (lv_at hl 0 rfl) ?_
    refine lv_goto (tgt := 33) hx hb dX1_tryDrawing_29 (by decide) ?_
    exact B33 x1 x2 x3 x4 x6 r1 r1 z0 _ _ _ hw hP hD hS (lv_sub hl [1, 2, 3, 4, 5, 7, 0] rfl)
def wpX1_tryHour_74 (k38 : Int32 → Int32 → Int32 → Int32 → Int32 → Int32 → (wP2) → Prop) (kT : Int32 → Int32 → Int32 → Int32 → Int32 → wP2 → (wP2 → Prop) → Prop) (post : (wP2) → Prop) (x1 : Int32) (x2 : Int32) (x3 : Int32) (x4 : Int32) (x5 : Int32) (x6 : Int32) (z0 : wP2) : Prop := (k38 x1 x2 x3 x4 x5 (x6 + (1 : Int32)) z0)
def wpX1_tryHour_38 (k38 : Int32 → Int32 → Int32 → Int32 → Int32 → Int32 → (wP2) → Prop) (kT : Int32 → Int32 → Int32 → Int32 → Int32 → wP2 → (wP2 → Prop) → Prop) (post : (wP2) → Prop) (x1 : Int32) (x2 : Int32) (x3 : Int32) (x4 : Int32) (x5 : Int32) (x6 : Int32) (z0 : wP2) : Prop := (((w_i (w_f z0) 4) ≤ x6 → (vp_in x1 5 ∧ ∀ z1 : wP2, z1 = (w_so z0 (w_sa (w_o z0) 2 (upd (w_a (w_o z0) 2) x1.toNatClampNeg (9 : Int32)))) → (wpX5_waned x2 (fun r1 => (wpX5_rained x3 (w_i (w_o z1) 5) (fun r2 => (kT (x1 + (1 : Int32)) r1 r2 (9 : Int32) x5 z1 (fun u => ∀ z2 : wP2, z2 = u → (post z2))))))))) ∧ (¬ (w_i (w_f z0) 4) ≤ x6 → (vp_in x6 6 ∧ ((x1 < ((w_a (w_o z0) 1) x6.toNatClampNeg) → (wpX1_tryHour_74 k38 kT post x1 x2 x3 x4 x5 x6 z0)) ∧ (¬ x1 < ((w_a (w_o z0) 1) x6.toNatClampNeg) → (wpX1_tryDrawing kT x6 x1 x2 x3 x4 x5 z0 (fun u => ∀ z3 : wP2, z3 = u → (wpX1_tryHour_74 k38 kT post x1 x2 x3 x4 x5 x6 z3))))))))
def wpX1_tryHour_L38  (kT : Int32 → Int32 → Int32 → Int32 → Int32 → wP2 → (wP2 → Prop) → Prop) (post : (wP2) → Prop) : Nat → Int32 → Int32 → Int32 → Int32 → Int32 → Int32 → (wP2) → Prop
  | 0 => fun _ _ _ _ _ _ _ => False
  | n + 1 => fun x1 x2 x3 x4 x5 x6 z0 => wpX1_tryHour_38  (wpX1_tryHour_L38  kT post n) kT post x1 x2 x3 x4 x5 x6 z0
def wpX1_tryHour_b (kT : Int32 → Int32 → Int32 → Int32 → Int32 → wP2 → (wP2 → Prop) → Prop) (x1 : Int32) (x2 : Int32) (x3 : Int32) (x4 : Int32) (x5 : Int32) (z0 : wP2) (post : (wP2) → Prop) : Prop := ((x1 < (w_i (w_o z0) 7) → (((w_i (w_o z0) 8) < (x5 + (((w_i (w_o z0) 7) - x1) * (9 : Int32))) → (∃ n, wpX1_tryHour_L38  kT post n x1 x2 x3 x4 x5 (0 : Int32) z0)) ∧ (¬ (w_i (w_o z0) 8) < (x5 + (((w_i (w_o z0) 7) - x1) * (9 : Int32))) → (post z0)))) ∧ (¬ x1 < (w_i (w_o z0) 7) → (wpX1_keep x5 z0 (fun u => ∀ z1 : wP2, z1 = u → (post z1)))))
set_option maxHeartbeats 4000000 in
set_option maxRecDepth 100000 in
theorem cX1_tryHour_b_c {l : Launch} {G : wG} {h : Nat → Nat} {sz : Nat} {x1 : Int32} {x2 : Int32} {x3 : Int32} {x4 : Int32} {x5 : Int32} {post : (wP2) → Prop} {z0 : wP2}  {kT : Int32 → Int32 → Int32 → Int32 → Int32 → wP2 → (wP2 → Prop) → Prop} {f0 l0 : Nat} (hT : ∀ {h : Nat → Nat} {sz : Nat} {x1 x2 x3 x4 x5 : Int32} {z0 : wP2} {post : wP2 → Prop}, kT x1 x2 x3 x4 x5 z0 post → Met l yX1_tryHour (.code yX1_tryHour cX1_tryHour 7 none :: BIG) { frames := f0, cells := 0, slots := 0, locals := l0 } (xPw G [.ref (h 0), .int x1, .int x2, .int x3, .int x4, .int x5] (wsSearch G h z0) sz) (xQv G post (fun q => (wsSearch G h q)) (va_A (wsSearch G h z0) sz)) 0 0 (va_A (wsSearch G h z0) sz)) (hw : wpX1_tryHour_b kT x1 x2 x3 x4 x5 z0 post) : Met l yX1_tryHour (.code yX1_tryHour cX1_tryHour 7 none :: BIG) { frames := (f0 + 7), cells := 0, slots := 0, locals := (l0 + 196) } (xPw G [.ref (h 0), .int x1, .int x2, .int x3, .int x4, .int x5] (wsSearch G h z0) sz) (xQv G post (fun q => (wsSearch G h q)) (va_A (wsSearch G h z0) sz)) 0 0 (va_A (wsSearch G h z0) sz) := by
  refine xm_wv (by decide) (Nat.le_of_ble_eq_true rfl) (fun p e s m args below meth c A ls R Q hC hK hA hP hD hS hl hF hL hret => ?_)
  have hx := hC.1
  have hb := hC.2.1
  have hl : lv_has ls 7 [(0, .ref (h 0)), (1, .int x1), (2, .int x2), (3, .int x3), (4, .int x4), (5, .int x5)] := hl
  have B38 : ∀ n38 : Nat, ∀ (x1 : Int32) (x2 : Int32) (x3 : Int32) (x4 : Int32) (x5 : Int32) (x6 : Int32) (z0 : wP2) (H : Heap) (locs : List Loc) (ls : Array Slot), wpX1_tryHour_L38  kT post n38 x1 x2 x3 x4 x5 x6 z0 → va_P G.1 vwCl (wsSearch G h z0) H → va_D A (wsSearch G h z0) → va_S A s.heap H locs → lv_has ls 7 [(0, .ref (h 0)), (1, .int x1), (2, .int x2), (3, .int x3), (4, .int x4), (5, .int x5), (6, .int x6)] → W p l e R s m args below meth c H locs 0 0 Q (F0 m 38 ls []) := by
    intro n38
    induction n38 with
    | zero => intro x1 x2 x3 x4 x5 x6 z0 H locs ls hw hP hD hS hl; exact False.elim hw
    | succ n38 I38 =>
      have B74 : ∀ (x1 : Int32) (x2 : Int32) (x3 : Int32) (x4 : Int32) (x5 : Int32) (x6 : Int32) (z0 : wP2) (H : Heap) (locs : List Loc) (ls : Array Slot), wpX1_tryHour_74 (wpX1_tryHour_L38  kT post n38) kT post x1 x2 x3 x4 x5 x6 z0 → va_P G.1 vwCl (wsSearch G h z0) H → va_D A (wsSearch G h z0) → va_S A s.heap H locs → lv_has ls 7 [(0, .ref (h 0)), (1, .int x1), (2, .int x2), (3, .int x3), (4, .int x4), (5, .int x5), (6, .int x6)] → W p l e R s m args below meth c H locs 0 0 Q (F0 m 74 ls []) := by
        intro x1 x2 x3 x4 x5 x6 z0 H locs ls hw hP hD hS hl
        unfold wpX1_tryHour_74 at hw
        refine lv_iinc (v := (x6 + (1 : Int32))) (lv' := [(6, .int (x6 + (1 : Int32))), (0, .ref (h 0)), (1, .int x1), (2, .int x2), (3, .int x3), (4, .int x4), (5, .int x5)]) hx hb dX1_tryHour_74 hl (k := 6) rfl rfl (by decide) rfl (fun ls hl => ?_)
        refine lv_goto (tgt := 38) hx hb dX1_tryHour_77 (by decide) ?_
        exact I38 x1 x2 x3 x4 x5 (x6 + (1 : Int32)) z0 _ _ _ hw hP hD hS (lv_sub hl [1, 2, 3, 4, 5, 6, 0] rfl)
      intro x1 x2 x3 x4 x5 x6 z0 H locs ls hw hP hD hS hl
      have hw : wpX1_tryHour_38  (wpX1_tryHour_L38  kT post n38) kT post x1 x2 x3 x4 x5 x6 z0 := hw
      unfold wpX1_tryHour_38 at hw
      refine lv_iload hx hb dX1_tryHour_38 (lv_at hl 6 rfl) ?_
      refine lv_aload_n hx hb dX1_tryHour_40 rfl (lv_at hl 0 rfl) ?_
      refine rg_S_X1_0_0 hC hK hP dX1_tryHour_41 ?_
      refine rg_S_X1_4_4 hC hK hP dX1_tryHour_44 ?_
      refine lv_icmp_ge (tgt := 80) hx hb dX1_tryHour_47 (by decide) (fun hc => ?_) (fun hc => ?_)
      · have hw := And.left hw hc
        refine lv_aload_n hx hb dX1_tryHour_80 rfl (lv_at hl 0 rfl) ?_
        refine rg_S_X1_0_2 hC hK hP dX1_tryHour_81 ?_
        refine lv_iload_n hx hb dX1_tryHour_84 rfl (lv_at hl 1 rfl) ?_
        refine lv_bipush (v := (9 : Int32)) hx hb dX1_tryHour_85 (by decide) ?_
        refine rs_S_2 hC hK hP hD hS (And.left hw) dX1_tryHour_87 (fun z1 H locs hz1 hP hD hS => ?_)
        have hw := And.right hw z1 hz1
        refine lv_aload_n hx hb dX1_tryHour_88 rfl (lv_at hl 0 rfl) ?_
        refine lv_iload_n hx hb dX1_tryHour_89 rfl (lv_at hl 1 rfl) ?_
        refine lv_iconst (v := (1 : Int32)) hx hb dX1_tryHour_90 (by decide) ?_
        refine lv_iadd hx hb dX1_tryHour_91 ?_
        refine lv_iload_n hx hb dX1_tryHour_92 rfl (lv_at hl 2 rfl) ?_
        refine vp_callSi (xro (xr_SN hC hK.2 (cX5_waned_c hw) ⟨rfl, rfl⟩ bw_446 calX5_waned ⟨Nat.le_trans (by show 1 + 1 ≤ _; omega) hF, Nat.le_trans (by show 8 + (1 + 11) + (21) ≤ _; omega) hL⟩ (rest := [.int (x1 + (1 : Int32)), .ref (h 0)]) (xpS hK) rfl hl rfl (Nat.le_of_ble_eq_true rfl) dX1_tryHour_93 ⟨Nat.zero_le _, Nat.zero_le _⟩)) (fun r1 hw => ?_)
        refine lv_iload_n hx hb dX1_tryHour_96 rfl (lv_at hl 3 rfl) ?_
        refine lv_aload_n hx hb dX1_tryHour_97 rfl (lv_at hl 0 rfl) ?_
        refine rg_S_X1_0_5 hC hK hP dX1_tryHour_98 ?_
        refine vp_callSi (xro (xr_SN hC hK.2 (cX5_rained_c hw) ⟨rfl, rfl⟩ bw_447 calX5_rained ⟨Nat.le_trans (by show 1 + 1 ≤ _; omega) hF, Nat.le_trans (by show 8 + (2 + 11) + (21) ≤ _; omega) hL⟩ (rest := [.int r1, .int (x1 + (1 : Int32)), .ref (h 0)]) (xpS hK) rfl hl rfl (Nat.le_of_ble_eq_true rfl) dX1_tryHour_101 ⟨Nat.zero_le _, Nat.zero_le _⟩)) (fun r2 hw => ?_)
        refine lv_bipush (v := (9 : Int32)) hx hb dX1_tryHour_104 (by decide) ?_
        refine lv_iload hx hb dX1_tryHour_106 (lv_at hl 5 rfl) ?_
        refine xc_wv (S := wP2) (wsz := fun q => (wsSearch G h q)) (f := fun u => u) (xr_V hC (hT (h := h) hw) ⟨rfl, rfl⟩ bw_431 calX1_tryHour ⟨Nat.le_trans (by show f0 + 1 ≤ _; omega) hF, Nat.le_trans (by show 8 + (7 + 11) + (l0) ≤ _; omega) hL⟩ (rest := []) (xpV hK (cut_all_S) hP hD rfl rfl) rfl hl rfl (Nat.le_of_ble_eq_true rfl) dX1_tryHour_108 ⟨Nat.zero_le _, Nat.zero_le _⟩) (cut_all_S) hP hD hS hA (fun u z2 H locs hz1 hw hP hD hS => ?_)
        have hw := hw z2 hz1
        exact hret _ _ _ _ _ hw hP hD hS dX1_tryHour_111
      · have hw := And.right hw hc
        refine lv_aload_n hx hb dX1_tryHour_50 rfl (lv_at hl 0 rfl) ?_
        refine rg_S_X1_0_1 hC hK hP dX1_tryHour_51 ?_
        refine lv_iload hx hb dX1_tryHour_54 (lv_at hl 6 rfl) ?_
        refine rl_S_1 hC hK hP (And.left hw) dX1_tryHour_56 ?_
        have hw := And.right hw
        refine lv_iload_n hx hb dX1_tryHour_57 rfl (lv_at hl 1 rfl) ?_
        refine lv_icmp_gt (tgt := 74) hx hb dX1_tryHour_58 (by decide) (fun hc => ?_) (fun hc => ?_)
        · have hw := And.left hw hc
          exact B74 x1 x2 x3 x4 x5 x6 z0 _ _ _ hw hP hD hS (lv_sub hl [0, 1, 2, 3, 4, 5, 6] rfl)
        · have hw := And.right hw hc
          refine lv_aload_n hx hb dX1_tryHour_61 rfl (lv_at hl 0 rfl) ?_
          refine lv_iload hx hb dX1_tryHour_62 (lv_at hl 6 rfl) ?_
          refine lv_iload_n hx hb dX1_tryHour_64 rfl (lv_at hl 1 rfl) ?_
          refine lv_iload_n hx hb dX1_tryHour_65 rfl (lv_at hl 2 rfl) ?_
          refine lv_iload_n hx hb dX1_tryHour_66 rfl (lv_at hl 3 rfl) ?_
          refine lv_iload hx hb dX1_tryHour_67 (lv_at hl 4 rfl) ?_
          refine lv_iload hx hb dX1_tryHour_69 (lv_at hl 5 rfl) ?_
          refine xc_wv (S := wP2) (wsz := fun q => (wsSearch G h q)) (f := fun u => u) (xr_V hC (cX1_tryDrawing_c (h := h) hT hw) ⟨rfl, rfl⟩ bw_439 calX1_tryDrawing ⟨Nat.le_trans (by show f0 + 3 + 1 ≤ _; omega) hF, Nat.le_trans (by show 8 + (10 + 11) + (l0 + 68) ≤ _; omega) hL⟩ (rest := []) (xpV hK (cut_all_S) hP hD rfl rfl) rfl hl rfl (Nat.le_of_ble_eq_true rfl) dX1_tryHour_71 ⟨Nat.zero_le _, Nat.zero_le _⟩) (cut_all_S) hP hD hS hA (fun u z3 H locs hz1 hw hP hD hS => ?_)
          have hw := hw z3 hz1
          exact B74 x1 x2 x3 x4 x5 x6 z3 _ _ _ hw hP hD hS (lv_sub hl [0, 1, 2, 3, 4, 5, 6] rfl)
  unfold wpX1_tryHour_b at hw
  refine lv_iload_n hx hb dX1_tryHour_0 rfl (lv_at hl 1 rfl) ?_
  refine lv_aload_n hx hb dX1_tryHour_1 rfl (lv_at hl 0 rfl) ?_
  refine rg_S_X1_0_7 hC hK hP dX1_tryHour_2 ?_
  refine lv_icmp_lt (tgt := 15) hx hb dX1_tryHour_5 (by decide) (fun hc => ?_) (fun hc => ?_)
  · have hw := And.left hw hc
    refine lv_iload hx hb dX1_tryHour_15 (lv_at hl 5 rfl) ?_
    refine lv_aload_n hx hb dX1_tryHour_17 rfl (lv_at hl 0 rfl) ?_
    refine rg_S_X1_0_7 hC hK hP dX1_tryHour_18 ?_
    refine lv_iload_n hx hb dX1_tryHour_21 rfl (lv_at hl 1 rfl) ?_
    refine lv_isub hx hb dX1_tryHour_22 ?_
    refine lv_bipush (v := (9 : Int32)) hx hb dX1_tryHour_23 (by decide) ?_
    refine lv_imul hx hb dX1_tryHour_25 ?_
    refine lv_iadd hx hb dX1_tryHour_26 ?_
    refine lv_aload_n hx hb dX1_tryHour_27 rfl (lv_at hl 0 rfl) ?_
    refine rg_S_X1_0_8 hC hK hP dX1_tryHour_28 ?_
    refine lv_icmp_gt (tgt := 35) hx hb dX1_tryHour_31 (by decide) (fun hc => ?_) (fun hc => ?_)
    · have hw := And.left hw hc
      refine lv_iconst (v := (0 : Int32)) hx hb dX1_tryHour_35 (by decide) ?_
      refine lv_istore (lv' := [(6, .int (0 : Int32)), (0, .ref (h 0)), (1, .int x1), (2, .int x2), (3, .int x3), (4, .int x4), (5, .int x5)]) hx hb dX1_tryHour_36 hl (by decide) rfl (fun ls hl => ?_)
      obtain ⟨j38, hw⟩ := hw
      exact B38 j38 x1 x2 x3 x4 x5 (0 : Int32) z0 _ _ _ hw hP hD hS (lv_sub hl [1, 2, 3, 4, 5, 6, 0] rfl)
    · have hw := And.right hw hc
      exact hret _ _ _ _ _ hw hP hD hS dX1_tryHour_34
  · have hw := And.right hw hc
    refine lv_aload_n hx hb dX1_tryHour_8 rfl (lv_at hl 0 rfl) ?_
    refine lv_iload hx hb dX1_tryHour_9 (lv_at hl 5 rfl) ?_
    refine xc_wv (S := wP2) (wsz := fun q => (wsSearch G h q)) (f := fun u => u) (xr_V hC (cX1_keep_c (h := h) hw) ⟨rfl, rfl⟩ bw_435 calX1_keep ⟨Nat.le_trans (by show 1 + 1 ≤ _; omega) hF, Nat.le_trans (by show 8 + (2 + 11) + (40) ≤ _; omega) hL⟩ (rest := []) (xpV hK (cut_all_S) hP hD rfl rfl) rfl hl rfl (Nat.le_of_ble_eq_true rfl) dX1_tryHour_11 ⟨Nat.zero_le _, Nat.zero_le _⟩) (cut_all_S) hP hD hS hA (fun u z1 H locs hz1 hw hP hD hS => ?_)
    have hw := hw z1 hz1
    exact hret _ _ _ _ _ hw hP hD hS dX1_tryHour_14
def wpX1_tryHour_d : Nat → Int32 → Int32 → Int32 → Int32 → Int32 → wP2 → (wP2 → Prop) → Prop
  | 0 => fun _ _ _ _ _ _ _ => False
  | d + 1 => fun x1 x2 x3 x4 x5 z0 post => wpX1_tryHour_b (wpX1_tryHour_d d) x1 x2 x3 x4 x5 z0 post
def wpX1_tryHour (x1 x2 x3 x4 x5 : Int32) (z0 : wP2) (post : wP2 → Prop) : Prop := wpX1_tryHour_d 7 x1 x2 x3 x4 x5 z0 post
theorem cX1_tryHour_d {l : Launch} {G : wG} : ∀ (d : Nat) {h : Nat → Nat} {sz : Nat} {x1 x2 x3 x4 x5 : Int32} {z0 : wP2} {post : wP2 → Prop}, wpX1_tryHour_d d x1 x2 x3 x4 x5 z0 post → Met l yX1_tryHour (.code yX1_tryHour cX1_tryHour 7 none :: BIG) { frames := 7 * d, cells := 0, slots := 0, locals := 196 * d } (xPw G [.ref (h 0), .int x1, .int x2, .int x3, .int x4, .int x5] (wsSearch G h z0) sz) (xQv G post (fun q => (wsSearch G h q)) (va_A (wsSearch G h z0) sz)) 0 0 (va_A (wsSearch G h z0) sz) := by
  intro d
  induction d with
  | zero => intro h sz x1 x2 x3 x4 x5 z0 post hw; exact False.elim hw
  | succ d ih => intro h sz x1 x2 x3 x4 x5 z0 post hw; exact cX1_tryHour_b_c (kT := wpX1_tryHour_d d) (f0 := 7 * d) (l0 := 196 * d) (fun hw => ih hw) hw
theorem cX1_tryHour_c {l : Launch} {G : wG} {h : Nat → Nat} {sz : Nat} {x1 x2 x3 x4 x5 : Int32} {z0 : wP2} {post : wP2 → Prop} (hw : wpX1_tryHour x1 x2 x3 x4 x5 z0 post) : Met l yX1_tryHour (.code yX1_tryHour cX1_tryHour 7 none :: BIG) { frames := 49, cells := 0, slots := 0, locals := 1372 } (xPw G [.ref (h 0), .int x1, .int x2, .int x3, .int x4, .int x5] (wsSearch G h z0) sz) (xQv G post (fun q => (wsSearch G h q)) (va_A (wsSearch G h z0) sz)) 0 0 (va_A (wsSearch G h z0) sz) := cX1_tryHour_d 7 hw
def wpX1_mostIn (x1 : Int32) (x2 : Int32) (z0 : wP2) (post : Int32 → (wP2) → Prop) : Prop := (∀ z1 : wP2, z1 = (w_so z0 (w_si (w_o z0) 7 (if (5 : Int32) < x1 then (5 : Int32) else x1))) → (∀ z2 : wP2, z2 = (w_so z1 (w_si (w_o z1) 8 (-1 : Int32))) → (wpX1_tryHour (0 : Int32) x2 (w_i (w_o z2) 4) (w_i (w_o z2) 6) (0 : Int32) z2 (fun u => ∀ z3 : wP2, z3 = u → (post (w_i (w_o z3) 8) z3)))))
set_option maxHeartbeats 4000000 in
set_option maxRecDepth 100000 in
theorem cX1_mostIn_c {l : Launch} {G : wG} {h : Nat → Nat} {sz : Nat} {x1 : Int32} {x2 : Int32} {post : Int32 → (wP2) → Prop} {z0 : wP2}  (hw : wpX1_mostIn x1 x2 z0 post) : Met l yX1_mostIn (.code yX1_mostIn cX1_mostIn 3 (some .int) :: BIG) { frames := 50, cells := 0, slots := 0, locals := 1398 } (xPw G [.ref (h 0), .int x1, .int x2] (wsSearch G h z0) sz) (xQi G post (fun q => (wsSearch G h q)) (va_A (wsSearch G h z0) sz)) 0 0 (va_A (wsSearch G h z0) sz) := by
  refine xm_wi (by decide) (Nat.le_of_ble_eq_true rfl) (fun p e s m args below meth c A ls R Q hC hK hA hP hD hS hl hF hL hret => ?_)
  have hx := hC.1
  have hb := hC.2.1
  have hl : lv_has ls 3 [(0, .ref (h 0)), (1, .int x1), (2, .int x2)] := hl
  unfold wpX1_mostIn at hw
  refine lv_aload_n hx hb dX1_mostIn_0 rfl (lv_at hl 0 rfl) ?_
  refine lv_iload_n hx hb dX1_mostIn_1 rfl (lv_at hl 1 rfl) ?_
  refine lv_iconst (v := (5 : Int32)) hx hb dX1_mostIn_2 (by decide) ?_
  refine va_mmin hx hb (hC.2.2.1.trans hl.1.symm) hC.2.2.2.1 (hC.2.2.2.2 _ bw_430) (hC.2.2.2.2 _ bw_328) (hC.2.2.2.2 _ bw_8) (hC.2.2.2.2 _ bw_code_min) (Nat.le_trans (Nat.le_of_ble_eq_true rfl) hF) (Nat.le_trans (Nat.le_of_ble_eq_true rfl) hL) (Nat.zero_le _) (Nat.zero_le _) dX1_mostIn_3 ?_
  refine rp_S_X1_0_7 hC hK hP hD hS dX1_mostIn_6 (fun z1 H locs hz1 hP hD hS => ?_)
  have hw := hw z1 hz1
  refine lv_aload_n hx hb dX1_mostIn_9 rfl (lv_at hl 0 rfl) ?_
  refine lv_iconst (v := (-1 : Int32)) hx hb dX1_mostIn_10 (by decide) ?_
  refine rp_S_X1_0_8 hC hK hP hD hS dX1_mostIn_11 (fun z2 H locs hz1 hP hD hS => ?_)
  have hw := hw z2 hz1
  refine lv_aload_n hx hb dX1_mostIn_14 rfl (lv_at hl 0 rfl) ?_
  refine lv_iconst (v := (0 : Int32)) hx hb dX1_mostIn_15 (by decide) ?_
  refine lv_iload_n hx hb dX1_mostIn_16 rfl (lv_at hl 2 rfl) ?_
  refine lv_aload_n hx hb dX1_mostIn_17 rfl (lv_at hl 0 rfl) ?_
  refine rg_S_X1_0_4 hC hK hP dX1_mostIn_18 ?_
  refine lv_aload_n hx hb dX1_mostIn_21 rfl (lv_at hl 0 rfl) ?_
  refine rg_S_X1_0_6 hC hK hP dX1_mostIn_22 ?_
  refine lv_iconst (v := (0 : Int32)) hx hb dX1_mostIn_25 (by decide) ?_
  refine xc_wv (S := wP2) (wsz := fun q => (wsSearch G h q)) (f := fun u => u) (xr_V hC (cX1_tryHour_c (h := h) hw) ⟨rfl, rfl⟩ bw_431 calX1_tryHour ⟨Nat.le_trans (Nat.le_of_ble_eq_true rfl) hF, Nat.le_trans (Nat.le_of_ble_eq_true rfl) hL⟩ (rest := []) (xpV hK (cut_all_S) hP hD rfl rfl) rfl hl rfl (Nat.le_of_ble_eq_true rfl) dX1_mostIn_26 ⟨Nat.zero_le _, Nat.zero_le _⟩) (cut_all_S) hP hD hS hA (fun u z3 H locs hz1 hw hP hD hS => ?_)
  have hw := hw z3 hz1
  refine lv_aload_n hx hb dX1_mostIn_29 rfl (lv_at hl 0 rfl) ?_
  refine rg_S_X1_0_8 hC hK hP dX1_mostIn_30 ?_
  exact hret _ _ _ _ _ _ hw hP hD hS dX1_mostIn_33
