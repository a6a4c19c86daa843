def wpX4_become (z0 : wP2 × wP2) (post : (wP2 × wP2) → Prop) : Prop := (wpX0_become ((w_f z0.1), (w_f z0.2)) (fun u => ∀ z1 : wP2 × wP2, z1 = (((w_sf z0.1 u.1), z0.2).1, (w_sf ((w_sf z0.1 u.1), z0.2).2 u.2)) → (¬ (0 : Int32) < 0 ∧ ¬ (0 : Int32) < 0 ∧ ¬ (6 : Int32) < 0 ∧ (0 : Int32).toNatClampNeg + (6 : Int32).toNatClampNeg ≤ 6 ∧ (0 : Int32).toNatClampNeg + (6 : Int32).toNatClampNeg ≤ 6 ∧ ∀ z2 : wP2 × wP2, z2 = ((w_so z1.1 (w_sa (w_o z1.1) 1 (va_cpy (w_a (w_o z1.2) 1) (w_a (w_o z1.1) 1) (0 : Int32).toNatClampNeg (0 : Int32).toNatClampNeg (6 : Int32).toNatClampNeg))), z1.2) → (¬ (0 : Int32) < 0 ∧ ¬ (0 : Int32) < 0 ∧ ¬ (24 : Int32) < 0 ∧ (0 : Int32).toNatClampNeg + (24 : Int32).toNatClampNeg ≤ 24 ∧ (0 : Int32).toNatClampNeg + (24 : Int32).toNatClampNeg ≤ 24 ∧ ∀ z3 : wP2 × wP2, z3 = ((w_so z2.1 (w_sa (w_o z2.1) 2 (va_cpy (w_a (w_o z2.2) 2) (w_a (w_o z2.1) 2) (0 : Int32).toNatClampNeg (0 : Int32).toNatClampNeg (24 : Int32).toNatClampNeg))), z2.2) → (∀ z4 : wP2 × wP2, z4 = ((w_so z3.1 (w_si (w_o z3.1) 3 (w_i (w_o z3.2) 3))), z3.2) → (∀ z5 : wP2 × wP2, z5 = ((w_so z4.1 (w_si (w_o z4.1) 4 (w_i (w_o z4.2) 4))), z4.2) → (∀ z6 : wP2 × wP2, z6 = ((w_so z5.1 (w_si (w_o z5.1) 5 (w_i (w_o z5.2) 5))), z5.2) → (∀ z7 : wP2 × wP2, z7 = ((w_so z6.1 (w_si (w_o z6.1) 6 (w_i (w_o z6.2) 6))), z6.2) → (∀ z8 : wP2 × wP2, z8 = ((w_so z7.1 (w_si (w_o z7.1) 7 (w_i (w_o z7.2) 7))), z7.2) → (∀ z9 : wP2 × wP2, z9 = ((w_so z8.1 (w_si (w_o z8.1) 8 (w_i (w_o z8.2) 8))), z8.2) → (∀ z10 : wP2 × wP2, z10 = ((w_so z9.1 (w_si (w_o z9.1) 9 (w_i (w_o z9.2) 9))), z9.2) → (∀ z11 : wP2 × wP2, z11 = ((w_so z10.1 (w_si (w_o z10.1) 10 (w_i (w_o z10.2) 10))), z10.2) → (∀ z12 : wP2 × wP2, z12 = ((w_so z11.1 (w_si (w_o z11.1) 11 (w_i (w_o z11.2) 11))), z11.2) → (post z12))))))))))))))
set_option maxHeartbeats 4000000 in
set_option maxRecDepth 100000 in
theorem cX4_become_c {l : Launch} {G : wG} {h g : Nat → Nat} {sz : Nat}  {post : (wP2 × wP2) → Prop} {z0 : wP2 × wP2}  (hw : wpX4_become z0 post) : Met l yX4_become (.code yX4_become cX4_become 2 none :: BIG) { frames := 1, cells := 0, slots := 0, locals := 40 } (xPw G [.ref (h 0), .ref (g 0)] (wsWell G h z0.1 ++ wsWell G g z0.2) sz) (xQv G post (fun q => (wsWell G h q.1 ++ wsWell G g q.2)) (va_A (wsWell G h z0.1 ++ wsWell G g z0.2) sz)) 0 0 (va_A (wsWell G h z0.1 ++ wsWell G g z0.2) sz) := by
  refine xm_wv (by decide) (Nat.le_of_ble_eq_true rfl) (fun p e s m args below meth c A ls R Q hC hK hA hP hD hS hl hF hL hret => ?_)
  have hx := hC.1
  have hb := hC.2.1
  have hl : lv_has ls 2 [(0, .ref (h 0)), (1, .ref (g 0))] := hl
  unfold wpX4_become at hw
  refine lv_aload_n hx hb dX4_become_0 rfl (lv_at hl 0 rfl) ?_
  refine rg_WW_X4_0_0 hC hK hP dX4_become_1 ?_
  refine lv_aload_n hx hb dX4_become_4 rfl (lv_at hl 1 rfl) ?_
  refine rg_WW_X4_8_0 hC hK hP dX4_become_5 ?_
  refine xc_wv (S := wSt × wSt) (wsz := fun q => (wsWell G h q.1 ++ wsWell G g q.2)) (f := fun u => (((w_sf z0.1 u.1), z0.2).1, (w_sf ((w_sf z0.1 u.1), z0.2).2 u.2))) (xr_VN hC hK.2 (cX0_become_c (h := (sh h 3)) (g := (sh g 3)) hw) ⟨rfl, rfl⟩ bw_310 calX0_become ⟨Nat.le_trans (Nat.le_of_ble_eq_true rfl) hF, Nat.le_trans (Nat.le_of_ble_eq_true rfl) hL⟩ (rest := []) (xpV hK (cut_WW_F3_F11) hP hD rfl rfl) rfl hl rfl (Nat.le_of_ble_eq_true rfl) dX4_become_8 ⟨Nat.zero_le _, Nat.zero_le _⟩) (cut_WW_F3_F11) hP hD hS hA (fun u z1 H locs hz1 hw hP hD hS => ?_)
  have hw := hw z1 hz1
  refine lv_aload_n hx hb dX4_become_11 rfl (lv_at hl 1 rfl) ?_
  refine rg_WW_X4_8_1 hC hK hP dX4_become_12 ?_
  refine lv_iconst (v := (0 : Int32)) hx hb dX4_become_15 (by decide) ?_
  refine lv_aload_n hx hb dX4_become_16 rfl (lv_at hl 0 rfl) ?_
  refine rg_WW_X4_0_1 hC hK hP dX4_become_17 ?_
  refine lv_iconst (v := (0 : Int32)) hx hb dX4_become_20 (by decide) ?_
  refine lv_bipush (v := (6 : Int32)) hx hb dX4_become_21 (by decide) ?_
  obtain ⟨h1, h2, h3, h4, h5, hw⟩ := hw
  refine rc_WW_9_1 hC hK hP hD hS hl (Nat.le_trans (Nat.le_of_ble_eq_true rfl) hF) (Nat.le_trans (Nat.le_of_ble_eq_true rfl) hL) h1 h2 h3 h4 h5 dX4_become_23 (fun z2 H locs hz1 hP hD hS => ?_)
  have hw := hw z2 hz1
  refine lv_aload_n hx hb dX4_become_26 rfl (lv_at hl 1 rfl) ?_
  refine rg_WW_X4_8_2 hC hK hP dX4_become_27 ?_
  refine lv_iconst (v := (0 : Int32)) hx hb dX4_become_30 (by decide) ?_
  refine lv_aload_n hx hb dX4_become_31 rfl (lv_at hl 0 rfl) ?_
  refine rg_WW_X4_0_2 hC hK hP dX4_become_32 ?_
  refine lv_iconst (v := (0 : Int32)) hx hb dX4_become_35 (by decide) ?_
  refine lv_bipush (v := (24 : Int32)) hx hb dX4_become_36 (by decide) ?_
  obtain ⟨h1, h2, h3, h4, h5, hw⟩ := hw
  refine rc_WW_10_2 hC hK hP hD hS hl (Nat.le_trans (Nat.le_of_ble_eq_true rfl) hF) (Nat.le_trans (Nat.le_of_ble_eq_true rfl) hL) h1 h2 h3 h4 h5 dX4_become_38 (fun z3 H locs hz1 hP hD hS => ?_)
  have hw := hw z3 hz1
  refine lv_aload_n hx hb dX4_become_41 rfl (lv_at hl 0 rfl) ?_
  refine lv_aload_n hx hb dX4_become_42 rfl (lv_at hl 1 rfl) ?_
  refine rg_WW_X4_8_3 hC hK hP dX4_become_43 ?_
  refine rp_WW_X4_0_3 hC hK hP hD hS dX4_become_46 (fun z4 H locs hz1 hP hD hS => ?_)
  have hw := hw z4 hz1
  refine lv_aload_n hx hb dX4_become_49 rfl (lv_at hl 0 rfl) ?_
  refine lv_aload_n hx hb dX4_become_50 rfl (lv_at hl 1 rfl) ?_
  refine rg_WW_X4_8_4 hC hK hP dX4_become_51 ?_
  refine rp_WW_X4_0_4 hC hK hP hD hS dX4_become_54 (fun z5 H locs hz1 hP hD hS => ?_)
  have hw := hw z5 hz1
  refine lv_aload_n hx hb dX4_become_57 rfl (lv_at hl 0 rfl) ?_
  refine lv_aload_n hx hb dX4_become_58 rfl (lv_at hl 1 rfl) ?_
  refine rg_WW_X4_8_5 hC hK hP dX4_become_59 ?_
  refine rp_WW_X4_0_5 hC hK hP hD hS dX4_become_62 (fun z6 H locs hz1 hP hD hS => ?_)
  have hw := hw z6 hz1
  refine lv_aload_n hx hb dX4_become_65 rfl (lv_at hl 0 rfl) ?_
  refine lv_aload_n hx hb dX4_become_66 rfl (lv_at hl 1 rfl) ?_
  refine rg_WW_X4_8_6 hC hK hP dX4_become_67 ?_
  refine rp_WW_X4_0_6 hC hK hP hD hS dX4_become_70 (fun z7 H locs hz1 hP hD hS => ?_)
  have hw := hw z7 hz1
  refine lv_aload_n hx hb dX4_become_73 rfl (lv_at hl 0 rfl) ?_
  refine lv_aload_n hx hb dX4_become_74 rfl (lv_at hl 1 rfl) ?_
  refine rg_WW_X4_8_7 hC hK hP dX4_become_75 ?_
  refine rp_WW_X4_0_7 hC hK hP hD hS dX4_become_78 (fun z8 H locs hz1 hP hD hS => ?_)
  have hw := hw z8 hz1
  refine lv_aload_n hx hb dX4_become_81 rfl (lv_at hl 0 rfl) ?_
  refine lv_aload_n hx hb dX4_become_82 rfl (lv_at hl 1 rfl) ?_
  refine rg_WW_X4_8_8 hC hK hP dX4_become_83 ?_
  refine rp_WW_X4_0_8 hC hK hP hD hS dX4_become_86 (fun z9 H locs hz1 hP hD hS => ?_)
  have hw := hw z9 hz1
  refine lv_aload_n hx hb dX4_become_89 rfl (lv_at hl 0 rfl) ?_
  refine lv_aload_n hx hb dX4_become_90 rfl (lv_at hl 1 rfl) ?_
  refine rg_WW_X4_8_9 hC hK hP dX4_become_91 ?_
  refine rp_WW_X4_0_9 hC hK hP hD hS dX4_become_94 (fun z10 H locs hz1 hP hD hS => ?_)
  have hw := hw z10 hz1
  refine lv_aload_n hx hb dX4_become_97 rfl (lv_at hl 0 rfl) ?_
  refine lv_aload_n hx hb dX4_become_98 rfl (lv_at hl 1 rfl) ?_
  refine rg_WW_X4_8_10 hC hK hP dX4_become_99 ?_
  refine rp_WW_X4_0_10 hC hK hP hD hS dX4_become_102 (fun z11 H locs hz1 hP hD hS => ?_)
  have hw := hw z11 hz1
  refine lv_aload_n hx hb dX4_become_105 rfl (lv_at hl 0 rfl) ?_
  refine lv_aload_n hx hb dX4_become_106 rfl (lv_at hl 1 rfl) ?_
  refine rg_WW_X4_8_11 hC hK hP dX4_become_107 ?_
  refine rp_WW_X4_0_11 hC hK hP hD hS dX4_become_110 (fun z12 H locs hz1 hP hD hS => ?_)
  have hw := hw z12 hz1
  exact hret _ _ _ _ _ hw hP hD hS dX4_become_113
def wpX4_settle_10 (k10 : Int32 → (wP2 × wSt) → Prop) (post : (wP2 × wSt) → Prop) (x2 : Int32) (z0 : wP2 × wSt) : Prop := (((6 : Int32) ≤ x2 → (∀ z1 : wP2 × wSt, z1 = ((w_so z0.1 (w_si (w_o z0.1) 10 (9 : Int32))), z0.2) → (∀ z2 : wP2 × wSt, z2 = ((w_so z1.1 (w_si (w_o z1.1) 3 (0 : Int32))), z1.2) → (post z2)))) ∧ (¬ (6 : Int32) ≤ x2 → (vp_in x2 6 ∧ ∀ z3 : wP2 × wSt, z3 = ((w_so z0.1 (w_sa (w_o z0.1) 1 (upd (w_a (w_o z0.1) 1) x2.toNatClampNeg (0 : Int32)))), z0.2) → (k10 (x2 + (1 : Int32)) z3))))
def wpX4_settle_L10  (post : (wP2 × wSt) → Prop) : Nat → Int32 → (wP2 × wSt) → Prop
  | 0 => fun _ _ => False
  | n + 1 => fun x2 z0 => wpX4_settle_10  (wpX4_settle_L10  post n) post x2 z0
def wpX4_settle (z0 : wP2 × wSt) (post : (wP2 × wSt) → Prop) : Prop := (wpX0_become ((w_f z0.1), z0.2) (fun u => ∀ z1 : wP2 × wSt, z1 = (((w_sf z0.1 u.1), z0.2).1, u.2) → (∃ n, wpX4_settle_L10  post n (0 : Int32) z1)))
set_option maxHeartbeats 4000000 in
set_option maxRecDepth 100000 in
theorem cX4_settle_c {l : Launch} {G : wG} {h g : Nat → Nat} {sz : Nat}  {post : (wP2 × wSt) → Prop} {z0 : wP2 × wSt}  (hw : wpX4_settle z0 post) : Met l yX4_settle (.code yX4_settle cX4_settle 3 none :: BIG) { frames := 1, cells := 0, slots := 0, locals := 22 } (xPw G [.ref (h 0), .ref (g 0)] (wsWell G h z0.1 ++ wsFolk G g z0.2) sz) (xQv G post (fun q => (wsWell G h q.1 ++ wsFolk G g q.2)) (va_A (wsWell G h z0.1 ++ wsFolk G g z0.2) sz)) 0 0 (va_A (wsWell G h z0.1 ++ wsFolk G g z0.2) sz) := by
  refine xm_wv (by decide) (Nat.le_of_ble_eq_true rfl) (fun p e s m args below meth c A ls R Q hC hK hA hP hD hS hl hF hL hret => ?_)
  have hx := hC.1
  have hb := hC.2.1
  have hl : lv_has ls 3 [(0, .ref (h 0)), (1, .ref (g 0))] := hl
  have B10 : ∀ n10 : Nat, ∀ (x2 : Int32) (z0 : wP2 × wSt) (H : Heap) (locs : List Loc) (ls : Array Slot), wpX4_settle_L10  post n10 x2 z0 → va_P G.1 vwCl (wsWell G h z0.1 ++ wsFolk G g z0.2) H → va_D A (wsWell G h z0.1 ++ wsFolk G g z0.2) → va_S A s.heap H locs → lv_has ls 3 [(0, .ref (h 0)), (2, .int x2)] → W p l e R s m args below meth c H locs 0 0 Q (F0 m 10 ls []) := by
    intro n10
    induction n10 with
    | zero => intro x2 z0 H locs ls hw hP hD hS hl; exact False.elim hw
    | succ n10 I10 =>
      intro x2 z0 H locs ls hw hP hD hS hl
      have hw : wpX4_settle_10  (wpX4_settle_L10  post n10) post x2 z0 := hw
      unfold wpX4_settle_10 at hw
      refine lv_iload_n hx hb dX4_settle_10 rfl (lv_at hl 1 rfl) ?_
      refine lv_bipush (v := (6 : Int32)) hx hb dX4_settle_11 (by decide) ?_
      refine lv_icmp_ge (tgt := 29) hx hb dX4_settle_13 (by decide) (fun hc => ?_) (fun hc => ?_)
      · have hw := And.left hw hc
        refine lv_aload_n hx hb dX4_settle_29 rfl (lv_at hl 0 rfl) ?_
        refine lv_bipush (v := (9 : Int32)) hx hb dX4_settle_30 (by decide) ?_
        refine rp_WF_X4_0_10 hC hK hP hD hS dX4_settle_32 (fun z1 H locs hz1 hP hD hS => ?_)
        have hw := hw z1 hz1
        refine lv_aload_n hx hb dX4_settle_35 rfl (lv_at hl 0 rfl) ?_
        refine lv_iconst (v := (0 : Int32)) hx hb dX4_settle_36 (by decide) ?_
        refine rp_WF_X4_0_3 hC hK hP hD hS dX4_settle_37 (fun z2 H locs hz1 hP hD hS => ?_)
        have hw := hw z2 hz1
        exact hret _ _ _ _ _ hw hP hD hS dX4_settle_40
      · have hw := And.right hw hc
        refine lv_aload_n hx hb dX4_settle_16 rfl (lv_at hl 0 rfl) ?_
        refine rg_WF_X4_0_1 hC hK hP dX4_settle_17 ?_
        refine lv_iload_n hx hb dX4_settle_20 rfl (lv_at hl 1 rfl) ?_
        refine lv_iconst (v := (0 : Int32)) hx hb dX4_settle_21 (by decide) ?_
        refine rs_WF_1 hC hK hP hD hS (And.left hw) dX4_settle_22 (fun z3 H locs hz1 hP hD hS => ?_)
        have hw := And.right hw z3 hz1
        refine lv_iinc (v := (x2 + (1 : Int32))) (lv' := [(2, .int (x2 + (1 : Int32))), (0, .ref (h 0))]) hx hb dX4_settle_23 hl (k := 1) rfl rfl (by decide) rfl (fun ls hl => ?_)
        refine lv_goto (tgt := 10) hx hb dX4_settle_26 (by decide) ?_
        exact I10 (x2 + (1 : Int32)) z3 _ _ _ hw hP hD hS (lv_sub hl [1, 0] rfl)
  unfold wpX4_settle at hw
  refine lv_aload_n hx hb dX4_settle_0 rfl (lv_at hl 0 rfl) ?_
  refine rg_WF_X4_0_0 hC hK hP dX4_settle_1 ?_
  refine lv_aload_n hx hb dX4_settle_4 rfl (lv_at hl 1 rfl) ?_
  refine xc_wv (S := wSt × wSt) (wsz := fun q => (wsWell G h q.1 ++ wsFolk G g q.2)) (f := fun u => (((w_sf z0.1 u.1), z0.2).1, u.2)) (xr_VN hC hK.2 (cX0_become_c (h := (sh h 3)) (g := g) hw) ⟨rfl, rfl⟩ bw_310 calX0_become ⟨Nat.le_trans (Nat.le_of_ble_eq_true rfl) hF, Nat.le_trans (Nat.le_of_ble_eq_true rfl) hL⟩ (rest := []) (xpV hK (cut_WF_F3_F8) hP hD rfl rfl) rfl hl rfl (Nat.le_of_ble_eq_true rfl) dX4_settle_5 ⟨Nat.zero_le _, Nat.zero_le _⟩) (cut_WF_F3_F8) hP hD hS hA (fun u z1 H locs hz1 hw hP hD hS => ?_)
  have hw := hw z1 hz1
  refine lv_iconst (v := (0 : Int32)) hx hb dX4_settle_8 (by decide) ?_
  refine lv_istore_n (lv' := [(2, .int (0 : Int32)), (0, .ref (h 0)), (1, .ref (g 0))]) hx hb dX4_settle_9 rfl hl (by decide) rfl (fun ls hl => ?_)
  obtain ⟨j10, hw⟩ := hw
  exact B10 j10 (0 : Int32) z1 _ _ _ hw hP hD hS (lv_sub hl [1, 0] rfl)
def wpX4_adopt (x2 : Int32) (z0 : wP2 × (Nat → Int32)) (post : (wP2 × (Nat → Int32)) → Prop) : Prop := (∀ z1 : wP2 × (Nat → Int32), z1 = ((w_so z0.1 (w_si (w_o z0.1) 3 (if (24 : Int32) < x2 then (24 : Int32) else x2))), z0.2) → (¬ (0 : Int32) < 0 ∧ ¬ (0 : Int32) < 0 ∧ ¬ (w_i (w_o z1.1) 3) < 0 ∧ (0 : Int32).toNatClampNeg + (w_i (w_o z1.1) 3).toNatClampNeg ≤ 24 ∧ (0 : Int32).toNatClampNeg + (w_i (w_o z1.1) 3).toNatClampNeg ≤ 24 ∧ ∀ z2 : wP2 × (Nat → Int32), z2 = ((w_so z1.1 (w_sa (w_o z1.1) 2 (va_cpy z1.2 (w_a (w_o z1.1) 2) (0 : Int32).toNatClampNeg (0 : Int32).toNatClampNeg (w_i (w_o z1.1) 3).toNatClampNeg))), z1.2) → (post z2)))
set_option maxHeartbeats 4000000 in
set_option maxRecDepth 100000 in
theorem cX4_adopt_c {l : Launch} {G : wG} {h g : Nat → Nat} {sz : Nat} {x2 : Int32} {post : (wP2 × (Nat → Int32)) → Prop} {z0 : wP2 × (Nat → Int32)}  (hw : wpX4_adopt x2 z0 post) : Met l yX4_adopt (.code yX4_adopt cX4_adopt 3 none :: BIG) { frames := 1, cells := 0, slots := 0, locals := 40 } (xPw G [.ref (h 0), .ref (g 0), .int x2] (wsWell G h z0.1 ++ wsArr G g 24 z0.2) sz) (xQv G post (fun q => (wsWell G h q.1 ++ wsArr G g 24 q.2)) (va_A (wsWell G h z0.1 ++ wsArr G g 24 z0.2) sz)) 0 0 (va_A (wsWell G h z0.1 ++ wsArr G g 24 z0.2) sz) := by
  refine xm_wv (by decide) (Nat.le_of_ble_eq_true rfl) (fun p e s m args below meth c A ls R Q hC hK hA hP hD hS hl hF hL hret => ?_)
  have hx := hC.1
  have hb := hC.2.1
  have hl : lv_has ls 3 [(0, .ref (h 0)), (1, .ref (g 0)), (2, .int x2)] := hl
  unfold wpX4_adopt at hw
  refine lv_aload_n hx hb dX4_adopt_0 rfl (lv_at hl 0 rfl) ?_
  refine lv_iload_n hx hb dX4_adopt_1 rfl (lv_at hl 2 rfl) ?_
  refine lv_bipush (v := (24 : Int32)) hx hb dX4_adopt_2 (by decide) ?_
  refine va_mmin hx hb (hC.2.2.1.trans hl.1.symm) hC.2.2.2.1 (hC.2.2.2.2 _ bw_327) (hC.2.2.2.2 _ bw_328) (hC.2.2.2.2 _ bw_8) (hC.2.2.2.2 _ bw_code_min) (Nat.le_trans (Nat.le_of_ble_eq_true rfl) hF) (Nat.le_trans (Nat.le_of_ble_eq_true rfl) hL) (Nat.zero_le _) (Nat.zero_le _) dX4_adopt_4 ?_
  refine rp_WA_X4_0_3 hC hK hP hD hS dX4_adopt_7 (fun z1 H locs hz1 hP hD hS => ?_)
  have hw := hw z1 hz1
  refine lv_aload_n hx hb dX4_adopt_10 rfl (lv_at hl 1 rfl) ?_
  refine lv_iconst (v := (0 : Int32)) hx hb dX4_adopt_11 (by decide) ?_
  refine lv_aload_n hx hb dX4_adopt_12 rfl (lv_at hl 0 rfl) ?_
  refine rg_WA_X4_0_2 hC hK hP dX4_adopt_13 ?_
  refine lv_iconst (v := (0 : Int32)) hx hb dX4_adopt_16 (by decide) ?_
  refine lv_aload_n hx hb dX4_adopt_17 rfl (lv_at hl 0 rfl) ?_
  refine rg_WA_X4_0_3 hC hK hP dX4_adopt_18 ?_
  obtain ⟨h1, h2, h3, h4, h5, hw⟩ := hw
  refine rc_WA_8_2 hC hK hP hD hS hl (Nat.le_trans (Nat.le_of_ble_eq_true rfl) hF) (Nat.le_trans (Nat.le_of_ble_eq_true rfl) hL) h1 h2 h3 h4 h5 dX4_adopt_21 (fun z2 H locs hz1 hP hD hS => ?_)
  have hw := hw z2 hz1
  exact hret _ _ _ _ _ hw hP hD hS dX4_adopt_24
def wpX4_mayDraw (x1 : Int32) (z0 : wP2) (post : Int32 → Prop) : Prop := (wpX0_has x1 (w_f z0) (fun r1 => ((r1 = 0 → (post (0 : Int32))) ∧ (¬ r1 = 0 → (vp_in x1 6 ∧ ((¬ ((w_a (w_o z0) 1) x1.toNatClampNeg) = 0 → (post (0 : Int32))) ∧ (((w_a (w_o z0) 1) x1.toNatClampNeg) = 0 → (post (1 : Int32)))))))))
set_option maxHeartbeats 4000000 in
set_option maxRecDepth 100000 in
theorem cX4_mayDraw_c {l : Launch} {G : wG} {h : Nat → Nat} {x1 : Int32} {post : Int32 → Prop} {z0 : wP2}  (hw : wpX4_mayDraw x1 z0 post) : Met l yX4_mayDraw (.code yX4_mayDraw cX4_mayDraw 2 (some .boolean) :: BIG) { frames := 1, cells := 0, slots := 0, locals := 21 } (xPr G [.ref (h 0), .int x1] (wsWell G h z0)) (vp_Si post) 0 0 (fun _ => False) := by
  refine xm_rz (by decide) (Nat.le_of_ble_eq_true rfl) (fun p e s m args below meth c ls R Q hC hK hP hl hF hL hret => ?_)
  have hx := hC.1
  have hb := hC.2.1
  have hl : lv_has ls 2 [(0, .ref (h 0)), (1, .int x1)] := hl
  unfold wpX4_mayDraw at hw
  refine lv_aload_n hx hb dX4_mayDraw_0 rfl (lv_at hl 0 rfl) ?_
  refine rg_W_X4_0_0 hC hK hP dX4_mayDraw_1 ?_
  refine lv_iload_n hx hb dX4_mayDraw_4 rfl (lv_at hl 1 rfl) ?_
  refine vp_callSi (xro (xr_VN hC hK.2 (cX0_has_c (h := (sh h 3)) hw) ⟨rfl, rfl⟩ bw_341 calX0_has ⟨Nat.le_trans (Nat.le_of_ble_eq_true rfl) hF, Nat.le_trans (Nat.le_of_ble_eq_true rfl) hL⟩ (rest := []) (xpR hK (xCut.P (cut_W_F3) hP) rfl rfl) rfl hl rfl (Nat.le_of_ble_eq_true rfl) dX4_mayDraw_5 ⟨Nat.zero_le _, Nat.zero_le _⟩)) (fun r1 hw => ?_)
  refine lv_if_eq (tgt := 24) hx hb dX4_mayDraw_8 (by decide) (fun hc => ?_) (fun hc => ?_)
  · have hw := And.left hw hc
    refine lv_iconst (v := (0 : Int32)) hx hb dX4_mayDraw_24 (by decide) ?_
    exact hret _ _ _ rfl hw dX4_mayDraw_25
  · have hw := And.right hw hc
    refine lv_aload_n hx hb dX4_mayDraw_11 rfl (lv_at hl 0 rfl) ?_
    refine rg_W_X4_0_1 hC hK hP dX4_mayDraw_12 ?_
    refine lv_iload_n hx hb dX4_mayDraw_15 rfl (lv_at hl 1 rfl) ?_
    refine rl_W_1 hC hK hP (And.left hw) dX4_mayDraw_16 ?_
    have hw := And.right hw
    refine lv_if_ne (tgt := 24) hx hb dX4_mayDraw_17 (by decide) (fun hc => ?_) (fun hc => ?_)
    · have hw := And.left hw hc
      refine lv_iconst (v := (0 : Int32)) hx hb dX4_mayDraw_24 (by decide) ?_
      exact hret _ _ _ rfl hw dX4_mayDraw_25
    · have hw := And.right hw hc
      refine lv_iconst (v := (1 : Int32)) hx hb dX4_mayDraw_20 (by decide) ?_
      refine lv_goto (tgt := 25) hx hb dX4_mayDraw_21 (by decide) ?_
      exact hret _ _ _ rfl hw dX4_mayDraw_25
def wpX4_hasHours (x1 : Int32) (z0 : wP2) (post : Int32 → Prop) : Prop := (((9999 : Int32) < ((w_i (w_o z0) 9) + x1) → (post (0 : Int32))) ∧ (¬ (9999 : Int32) < ((w_i (w_o z0) 9) + x1) → (post (1 : Int32))))
set_option maxHeartbeats 4000000 in
set_option maxRecDepth 100000 in
theorem cX4_hasHours_c {l : Launch} {G : wG} {h : Nat → Nat} {x1 : Int32} {post : Int32 → Prop} {z0 : wP2}  (hw : wpX4_hasHours x1 z0 post) : Met l yX4_hasHours (.code yX4_hasHours cX4_hasHours 2 (some .boolean) :: BIG) { frames := 0, cells := 0, slots := 0, locals := 0 } (xPr G [.ref (h 0), .int x1] (wsWell G h z0)) (vp_Si post) 0 0 (fun _ => False) := by
  refine xm_rz (by decide) (Nat.le_of_ble_eq_true rfl) (fun p e s m args below meth c ls R Q hC hK hP hl hF hL hret => ?_)
  have hx := hC.1
  have hb := hC.2.1
  have hl : lv_has ls 2 [(0, .ref (h 0)), (1, .int x1)] := hl
  unfold wpX4_hasHours at hw
  refine lv_aload_n hx hb dX4_hasHours_0 rfl (lv_at hl 0 rfl) ?_
  refine rg_W_X4_0_9 hC hK hP dX4_hasHours_1 ?_
  refine lv_iload_n hx hb dX4_hasHours_4 rfl (lv_at hl 1 rfl) ?_
  refine lv_iadd hx hb dX4_hasHours_5 ?_
  refine lv_sipush (v := (9999 : Int32)) hx hb dX4_hasHours_6 (by decide) ?_
  refine lv_icmp_gt (tgt := 16) hx hb dX4_hasHours_9 (by decide) (fun hc => ?_) (fun hc => ?_)
  · have hw := And.left hw hc
    refine lv_iconst (v := (0 : Int32)) hx hb dX4_hasHours_16 (by decide) ?_
    exact hret _ _ _ rfl hw dX4_hasHours_17
  · have hw := And.right hw hc
    refine lv_iconst (v := (1 : Int32)) hx hb dX4_hasHours_12 (by decide) ?_
    refine lv_goto (tgt := 17) hx hb dX4_hasHours_13 (by decide) ?_
    exact hret _ _ _ rfl hw dX4_hasHours_17
def wpX4_givesAt (x1 : Int32) (x2 : Int32) (z0 : wP2) (post : Int32 → Prop) : Prop := (wpX0_pailsAt x1 x2 (w_f z0) (fun r1 => (wpX0_isSweet x1 x2 (w_f z0) (fun r2 => ((r2 = 0 → (post ((if r1 < (w_i (w_o z0) 5) then r1 else (w_i (w_o z0) 5)) + (10 : Int32)))) ∧ (¬ r2 = 0 → (post (if r1 < (w_i (w_o z0) 5) then r1 else (w_i (w_o z0) 5)))))))))
set_option maxHeartbeats 4000000 in
set_option maxRecDepth 100000 in
theorem cX4_givesAt_c {l : Launch} {G : wG} {h : Nat → Nat} {x1 : Int32} {x2 : Int32} {post : Int32 → Prop} {z0 : wP2}  (hw : wpX4_givesAt x1 x2 z0 post) : Met l yX4_givesAt (.code yX4_givesAt cX4_givesAt 4 (some .int) :: BIG) { frames := 2, cells := 0, slots := 0, locals := 44 } (xPr G [.ref (h 0), .int x1, .int x2] (wsWell G h z0)) (vp_Si post) 0 0 (fun _ => False) := by
  refine xm_ri (by decide) (Nat.le_of_ble_eq_true rfl) (fun p e s m args below meth c ls R Q hC hK hP hl hF hL hret => ?_)
  have hx := hC.1
  have hb := hC.2.1
  have hl : lv_has ls 4 [(0, .ref (h 0)), (1, .int x1), (2, .int x2)] := hl
  unfold wpX4_givesAt at hw
  refine lv_aload_n hx hb dX4_givesAt_0 rfl (lv_at hl 0 rfl) ?_
  refine rg_W_X4_0_5 hC hK hP dX4_givesAt_1 ?_
  refine lv_aload_n hx hb dX4_givesAt_4 rfl (lv_at hl 0 rfl) ?_
  refine rg_W_X4_0_0 hC hK hP dX4_givesAt_5 ?_
  refine lv_iload_n hx hb dX4_givesAt_8 rfl (lv_at hl 1 rfl) ?_
  refine lv_iload_n hx hb dX4_givesAt_9 rfl (lv_at hl 2 rfl) ?_
  refine vp_callSi (xro (xr_VN hC hK.2 (cX0_pailsAt_c (h := (sh h 3)) hw) ⟨rfl, rfl⟩ bw_472 calX0_pailsAt ⟨Nat.le_trans (Nat.le_of_ble_eq_true rfl) hF, Nat.le_trans (Nat.le_of_ble_eq_true rfl) hL⟩ (rest := [.int (w_i (w_o z0) 5)]) (xpR hK (xCut.P (cut_W_F3) hP) rfl rfl) rfl hl rfl (Nat.le_of_ble_eq_true rfl) dX4_givesAt_10 ⟨Nat.zero_le _, Nat.zero_le _⟩)) (fun r1 hw => ?_)
  refine va_mmin hx hb (hC.2.2.1.trans hl.1.symm) hC.2.2.2.1 (hC.2.2.2.2 _ bw_327) (hC.2.2.2.2 _ bw_328) (hC.2.2.2.2 _ bw_8) (hC.2.2.2.2 _ bw_code_min) (Nat.le_trans (Nat.le_of_ble_eq_true rfl) hF) (Nat.le_trans (Nat.le_of_ble_eq_true rfl) hL) (Nat.zero_le _) (Nat.zero_le _) dX4_givesAt_13 ?_
  refine lv_istore_n (lv' := [(3, .int (if r1 < (w_i (w_o z0) 5) then r1 else (w_i (w_o z0) 5))), (0, .ref (h 0)), (1, .int x1), (2, .int x2)]) hx hb dX4_givesAt_16 rfl hl (by decide) rfl (fun ls hl => ?_)
  refine lv_aload_n hx hb dX4_givesAt_17 rfl (lv_at hl 1 rfl) ?_
  refine rg_W_X4_0_0 hC hK hP dX4_givesAt_18 ?_
  refine lv_iload_n hx hb dX4_givesAt_21 rfl (lv_at hl 2 rfl) ?_
  refine lv_iload_n hx hb dX4_givesAt_22 rfl (lv_at hl 3 rfl) ?_
  refine vp_callSi (xro (xr_VN hC hK.2 (cX0_isSweet_c (h := (sh h 3)) hw) ⟨rfl, rfl⟩ bw_372 calX0_isSweet ⟨Nat.le_trans (Nat.le_of_ble_eq_true rfl) hF, Nat.le_trans (Nat.le_of_ble_eq_true rfl) hL⟩ (rest := []) (xpR hK (xCut.P (cut_W_F3) hP) rfl rfl) rfl hl rfl (Nat.le_of_ble_eq_true rfl) dX4_givesAt_23 ⟨Nat.zero_le _, Nat.zero_le _⟩)) (fun r2 hw => ?_)
  refine lv_if_eq (tgt := 33) hx hb dX4_givesAt_26 (by decide) (fun hc => ?_) (fun hc => ?_)
  · have hw := And.left hw hc
    refine lv_iload_n hx hb dX4_givesAt_33 rfl (lv_at hl 0 rfl) ?_
    refine lv_bipush (v := (10 : Int32)) hx hb dX4_givesAt_34 (by decide) ?_
    refine lv_iadd hx hb dX4_givesAt_36 ?_
    exact hret _ _ _ hw dX4_givesAt_37
  · have hw := And.right hw hc
    refine lv_iload_n hx hb dX4_givesAt_29 rfl (lv_at hl 0 rfl) ?_
    refine lv_goto (tgt := 37) hx hb dX4_givesAt_30 (by decide) ?_
    exact hret _ _ _ hw dX4_givesAt_37
def wpX4_drawBy_59  (post : Int32 → (wP2) → Prop) (x1 : Int32) (x2 : Int32) (z0 : wP2) : Prop := (∀ z1 : wP2, z1 = (w_so z0 (w_si (w_o z0) 5 ((w_i (w_o z0) 5) - x2))) → (wpX0_moodBehind x1 (w_i (w_o z1) 4) (w_f z1) (fun r1 => (∀ z2 : wP2, z2 = (w_so z1 (w_si (w_o z1) 4 r1)) → (vp_in x1 6 ∧ (vp_in x1 6 ∧ ∀ z3 : wP2, z3 = (w_so z2 (w_sa (w_o z2) 1 (upd (w_a (w_o z2) 1) x1.toNatClampNeg ((w_a (w_f z2) 2) x1.toNatClampNeg)))) → (post x2 z3)))))))
def wpX4_drawBy (x1 : Int32) (z0 : wP2) (post : Int32 → (wP2) → Prop) : Prop := (wpX0_pailsBehind (w_i (w_o z0) 10) x1 (w_i (w_o z0) 4) (w_i (w_o z0) 5) (w_f z0) (fun r1 => (wpX0_isSweet x1 (w_i (w_o z0) 4) (w_f z0) (fun r2 => ((r2 = 0 → (∀ z1 : wP2, z1 = (w_so z0 (w_si (w_o z0) 8 ((w_i (w_o z0) 8) + r1))) → (wpX4_drawBy_59  post x1 r1 z1))) ∧ (¬ r2 = 0 → (∀ z2 : wP2, z2 = (w_so z0 (w_si (w_o z0) 7 ((w_i (w_o z0) 7) + r1))) → (wpX4_drawBy_59  post x1 r1 z2))))))))
set_option maxHeartbeats 4000000 in
set_option maxRecDepth 100000 in
theorem cX4_drawBy_c {l : Launch} {G : wG} {h : Nat → Nat} {sz : Nat} {x1 : Int32} {post : Int32 → (wP2) → Prop} {z0 : wP2}  (hw : wpX4_drawBy x1 z0 post) : Met l yX4_drawBy (.code yX4_drawBy cX4_drawBy 3 (some .int) :: BIG) { frames := 3, cells := 0, slots := 0, locals := 68 } (xPw G [.ref (h 0), .int x1] (wsWell G h z0) sz) (xQi G post (fun q => (wsWell G h q)) (va_A (wsWell G h z0) sz)) 0 0 (va_A (wsWell G h z0) sz) := by
  refine xm_wi (by decide) (Nat.le_of_ble_eq_true rfl) (fun p e s m args below meth c A ls R Q hC hK hA hP hD hS hl hF hL hret => ?_)
  have hx := hC.1
  have hb := hC.2.1
  have hl : lv_has ls 3 [(0, .ref (h 0)), (1, .int x1)] := hl
  have B59 : ∀ (x1 : Int32) (x2 : Int32) (z0 : wP2) (H : Heap) (locs : List Loc) (ls : Array Slot), wpX4_drawBy_59  post x1 x2 z0 → va_P G.1 vwCl (wsWell G h z0) H → va_D A (wsWell G h z0) → va_S A s.heap H locs → lv_has ls 3 [(0, .ref (h 0)), (1, .int x1), (2, .int x2)] → W p l e R s m args below meth c H locs 0 0 Q (F0 m 59 ls []) := by
    intro x1 x2 z0 H locs ls hw hP hD hS hl
    unfold wpX4_drawBy_59 at hw
    refine lv_aload_n hx hb dX4_drawBy_59 rfl (lv_at hl 0 rfl) ?_
    refine lv_dup hx hb dX4_drawBy_60 rfl ?_
    refine rg_W_X4_0_5 hC hK hP dX4_drawBy_61 ?_
    refine lv_iload_n hx hb dX4_drawBy_64 rfl (lv_at hl 2 rfl) ?_
    refine lv_isub hx hb dX4_drawBy_65 ?_
    refine rp_W_X4_0_5 hC hK hP hD hS dX4_drawBy_66 (fun z1 H locs hz1 hP hD hS => ?_)
    have hw := hw z1 hz1
    refine lv_aload_n hx hb dX4_drawBy_69 rfl (lv_at hl 0 rfl) ?_
    refine lv_aload_n hx hb dX4_drawBy_70 rfl (lv_at hl 0 rfl) ?_
    refine rg_W_X4_0_0 hC hK hP dX4_drawBy_71 ?_
    refine lv_iload_n hx hb dX4_drawBy_74 rfl (lv_at hl 1 rfl) ?_
    refine lv_aload_n hx hb dX4_drawBy_75 rfl (lv_at hl 0 rfl) ?_
    refine rg_W_X4_0_4 hC hK hP dX4_drawBy_76 ?_
    refine vp_callSi (xro (xr_VN hC hK.2 (cX0_moodBehind_c (h := (sh h 3)) hw) ⟨rfl, rfl⟩ bw_376 calX0_moodBehind ⟨Nat.le_trans (Nat.le_of_ble_eq_true rfl) hF, Nat.le_trans (Nat.le_of_ble_eq_true rfl) hL⟩ (rest := [.ref (h 0)]) (xpR hK (xCut.P (cut_W_F3) hP) rfl rfl) rfl hl rfl (Nat.le_of_ble_eq_true rfl) dX4_drawBy_79 ⟨Nat.zero_le _, Nat.zero_le _⟩)) (fun r1 hw => ?_)
    refine rp_W_X4_0_4 hC hK hP hD hS dX4_drawBy_82 (fun z2 H locs hz1 hP hD hS => ?_)
    have hw := hw z2 hz1
    refine lv_aload_n hx hb dX4_drawBy_85 rfl (lv_at hl 0 rfl) ?_
    refine rg_W_X4_0_1 hC hK hP dX4_drawBy_86 ?_
    refine lv_iload_n hx hb dX4_drawBy_89 rfl (lv_at hl 1 rfl) ?_
    refine lv_aload_n hx hb dX4_drawBy_90 rfl (lv_at hl 0 rfl) ?_
    refine rg_W_X4_0_0 hC hK hP dX4_drawBy_91 ?_
    refine rg_W_X4_3_2 hC hK hP dX4_drawBy_94 ?_
    refine lv_iload_n hx hb dX4_drawBy_97 rfl (lv_at hl 1 rfl) ?_
    refine rl_W_6 hC hK hP (And.left hw) dX4_drawBy_98 ?_
    have hw := And.right hw
    refine rs_W_1 hC hK hP hD hS (And.left hw) dX4_drawBy_99 (fun z3 H locs hz1 hP hD hS => ?_)
    have hw := And.right hw z3 hz1
    refine lv_iload_n hx hb dX4_drawBy_100 rfl (lv_at hl 2 rfl) ?_
    exact hret _ _ _ _ _ _ hw hP hD hS dX4_drawBy_101
  unfold wpX4_drawBy at hw
  refine lv_aload_n hx hb dX4_drawBy_0 rfl (lv_at hl 0 rfl) ?_
  refine rg_W_X4_0_0 hC hK hP dX4_drawBy_1 ?_
  refine lv_aload_n hx hb dX4_drawBy_4 rfl (lv_at hl 0 rfl) ?_
  refine rg_W_X4_0_10 hC hK hP dX4_drawBy_5 ?_
  refine lv_iload_n hx hb dX4_drawBy_8 rfl (lv_at hl 1 rfl) ?_
  refine lv_aload_n hx hb dX4_drawBy_9 rfl (lv_at hl 0 rfl) ?_
  refine rg_W_X4_0_4 hC hK hP dX4_drawBy_10 ?_
  refine lv_aload_n hx hb dX4_drawBy_13 rfl (lv_at hl 0 rfl) ?_
  refine rg_W_X4_0_5 hC hK hP dX4_drawBy_14 ?_
  refine vp_callSi (xro (xr_VN hC hK.2 (cX0_pailsBehind_c (h := (sh h 3)) hw) ⟨rfl, rfl⟩ bw_359 calX0_pailsBehind ⟨Nat.le_trans (Nat.le_of_ble_eq_true rfl) hF, Nat.le_trans (Nat.le_of_ble_eq_true rfl) hL⟩ (rest := []) (xpR hK (xCut.P (cut_W_F3) hP) rfl rfl) rfl hl rfl (Nat.le_of_ble_eq_true rfl) dX4_drawBy_17 ⟨Nat.zero_le _, Nat.zero_le _⟩)) (fun r1 hw => ?_)
  refine lv_istore_n (lv' := [(2, .int r1), (0, .ref (h 0)), (1, .int x1)]) hx hb dX4_drawBy_20 rfl hl (by decide) rfl (fun ls hl => ?_)
  refine lv_aload_n hx hb dX4_drawBy_21 rfl (lv_at hl 1 rfl) ?_
  refine rg_W_X4_0_0 hC hK hP dX4_drawBy_22 ?_
  refine lv_iload_n hx hb dX4_drawBy_25 rfl (lv_at hl 2 rfl) ?_
  refine lv_aload_n hx hb dX4_drawBy_26 rfl (lv_at hl 1 rfl) ?_
  refine rg_W_X4_0_4 hC hK hP dX4_drawBy_27 ?_
  refine vp_callSi (xro (xr_VN hC hK.2 (cX0_isSweet_c (h := (sh h 3)) hw) ⟨rfl, rfl⟩ bw_372 calX0_isSweet ⟨Nat.le_trans (Nat.le_of_ble_eq_true rfl) hF, Nat.le_trans (Nat.le_of_ble_eq_true rfl) hL⟩ (rest := []) (xpR hK (xCut.P (cut_W_F3) hP) rfl rfl) rfl hl rfl (Nat.le_of_ble_eq_true rfl) dX4_drawBy_30 ⟨Nat.zero_le _, Nat.zero_le _⟩)) (fun r2 hw => ?_)
  refine lv_if_eq (tgt := 49) hx hb dX4_drawBy_33 (by decide) (fun hc => ?_) (fun hc => ?_)
  · have hw := And.left hw hc
    refine lv_aload_n hx hb dX4_drawBy_49 rfl (lv_at hl 1 rfl) ?_
    refine lv_dup hx hb dX4_drawBy_50 rfl ?_
    refine rg_W_X4_0_8 hC hK hP dX4_drawBy_51 ?_
    refine lv_iload_n hx hb dX4_drawBy_54 rfl (lv_at hl 0 rfl) ?_
    refine lv_iadd hx hb dX4_drawBy_55 ?_
    refine rp_W_X4_0_8 hC hK hP hD hS dX4_drawBy_56 (fun z1 H locs hz1 hP hD hS => ?_)
    have hw := hw z1 hz1
    exact B59 x1 r1 z1 _ _ _ hw hP hD hS (lv_sub hl [1, 2, 0] rfl)
  · have hw := And.right hw hc
    refine lv_aload_n hx hb dX4_drawBy_36 rfl (lv_at hl 1 rfl) ?_
    refine lv_dup hx hb dX4_drawBy_37 rfl ?_
    refine rg_W_X4_0_7 hC hK hP dX4_drawBy_38 ?_
    refine lv_iload_n hx hb dX4_drawBy_41 rfl (lv_at hl 0 rfl) ?_
    refine lv_iadd hx hb dX4_drawBy_42 ?_
    refine rp_W_X4_0_7 hC hK hP hD hS dX4_drawBy_43 (fun z2 H locs hz1 hP hD hS => ?_)
    have hw := hw z2 hz1
    refine lv_goto (tgt := 59) hx hb dX4_drawBy_46 (by decide) ?_
    exact B59 x1 r1 z2 _ _ _ hw hP hD hS (lv_sub hl [1, 2, 0] rfl)
def wpX4_endHour_38 (k38 : Int32 → (wP2) → Prop) (post : (wP2) → Prop) (x1 : Int32) (z0 : wP2) : Prop := (((w_i (w_f z0) 4) ≤ x1 → (post z0)) ∧ (¬ (w_i (w_f z0) 4) ≤ x1 → (vp_in x1 6 ∧ (vp_in x1 6 ∧ ∀ z1 : wP2, z1 = (w_so z0 (w_sa (w_o z0) 1 (upd (w_a (w_o z0) 1) x1.toNatClampNeg (if (0 : Int32) < (((w_a (w_o z0) 1) x1.toNatClampNeg) - (1 : Int32)) then (((w_a (w_o z0) 1) x1.toNatClampNeg) - (1 : Int32)) else (0 : Int32))))) → (k38 (x1 + (1 : Int32)) z1)))))
def wpX4_endHour_L38  (post : (wP2) → Prop) : Nat → Int32 → (wP2) → Prop
  | 0 => fun _ _ => False
  | n + 1 => fun x1 z0 => wpX4_endHour_38  (wpX4_endHour_L38  post n) post x1 z0
def wpX4_endHour (z0 : wP2) (post : (wP2) → Prop) : Prop := (wpX5_waned (w_i (w_o z0) 4) (fun r1 => (∀ z1 : wP2, z1 = (w_so z0 (w_si (w_o z0) 4 r1)) → (wpX5_rained (w_i (w_o z1) 5) (w_i (w_o z1) 6) (fun r2 => (∀ z2 : wP2, z2 = (w_so z1 (w_si (w_o z1) 5 r2)) → (∀ z3 : wP2, z3 = (w_so z2 (w_si (w_o z2) 9 ((w_i (w_o z2) 9) + (1 : Int32)))) → (∃ n, wpX4_endHour_L38  post n (0 : Int32) z3))))))))
set_option maxHeartbeats 4000000 in
set_option maxRecDepth 100000 in
theorem cX4_endHour_c {l : Launch} {G : wG} {h : Nat → Nat} {sz : Nat}  {post : (wP2) → Prop} {z0 : wP2}  (hw : wpX4_endHour z0 post) : Met l yX4_endHour (.code yX4_endHour cX4_endHour 2 none :: BIG) { frames := 2, cells := 0, slots := 0, locals := 42 } (xPw G [.ref (h 0)] (wsWell G h z0) sz) (xQv G post (fun q => (wsWell G h q)) (va_A (wsWell G h z0) sz)) 0 0 (va_A (wsWell G h z0) sz) := by
  refine xm_wv (by decide) (Nat.le_of_ble_eq_true rfl) (fun p e s m args below meth c A ls R Q hC hK hA hP hD hS hl hF hL hret => ?_)
  have hx := hC.1
  have hb := hC.2.1
  have hl : lv_has ls 2 [(0, .ref (h 0))] := hl
  have B38 : ∀ n38 : Nat, ∀ (x1 : Int32) (z0 : wP2) (H : Heap) (locs : List Loc) (ls : Array Slot), wpX4_endHour_L38  post n38 x1 z0 → va_P G.1 vwCl (wsWell G h z0) H → va_D A (wsWell G h z0) → va_S A s.heap H locs → lv_has ls 2 [(0, .ref (h 0)), (1, .int x1)] → W p l e R s m args below meth c H locs 0 0 Q (F0 m 38 ls []) := by
    intro n38
    induction n38 with
    | zero => intro x1 z0 H locs ls hw hP hD hS hl; exact False.elim hw
    | succ n38 I38 =>
      intro x1 z0 H locs ls hw hP hD hS hl
      have hw : wpX4_endHour_38  (wpX4_endHour_L38  post n38) post x1 z0 := hw
      unfold wpX4_endHour_38 at hw
      refine lv_iload_n hx hb dX4_endHour_38 rfl (lv_at hl 1 rfl) ?_
      refine lv_aload_n hx hb dX4_endHour_39 rfl (lv_at hl 0 rfl) ?_
      refine rg_W_X4_0_0 hC hK hP dX4_endHour_40 ?_
      refine rg_W_X4_3_4 hC hK hP dX4_endHour_43 ?_
      refine lv_icmp_ge (tgt := 73) hx hb dX4_endHour_46 (by decide) (fun hc => ?_) (fun hc => ?_)
      · have hw := And.left hw hc
        exact hret _ _ _ _ _ hw hP hD hS dX4_endHour_73
      · have hw := And.right hw hc
        refine lv_aload_n hx hb dX4_endHour_49 rfl (lv_at hl 0 rfl) ?_
        refine rg_W_X4_0_1 hC hK hP dX4_endHour_50 ?_
        refine lv_iload_n hx hb dX4_endHour_53 rfl (lv_at hl 1 rfl) ?_
        refine lv_iconst (v := (0 : Int32)) hx hb dX4_endHour_54 (by decide) ?_
        refine lv_aload_n hx hb dX4_endHour_55 rfl (lv_at hl 0 rfl) ?_
        refine rg_W_X4_0_1 hC hK hP dX4_endHour_56 ?_
        refine lv_iload_n hx hb dX4_endHour_59 rfl (lv_at hl 1 rfl) ?_
        refine rl_W_1 hC hK hP (And.left hw) dX4_endHour_60 ?_
        have hw := And.right hw
        refine lv_iconst (v := (1 : Int32)) hx hb dX4_endHour_61 (by decide) ?_
        refine lv_isub hx hb dX4_endHour_62 ?_
        refine va_mmax hx hb (hC.2.2.1.trans hl.1.symm) hC.2.2.2.1 (hC.2.2.2.2 _ bw_398) (hC.2.2.2.2 _ bw_370) (hC.2.2.2.2 _ bw_8) (hC.2.2.2.2 _ bw_code_max) (Nat.le_trans (Nat.le_of_ble_eq_true rfl) hF) (Nat.le_trans (Nat.le_of_ble_eq_true rfl) hL) (Nat.zero_le _) (Nat.zero_le _) dX4_endHour_63 ?_
        refine rs_W_1 hC hK hP hD hS (And.left hw) dX4_endHour_66 (fun z1 H locs hz1 hP hD hS => ?_)
        have hw := And.right hw z1 hz1
        refine lv_iinc (v := (x1 + (1 : Int32))) (lv' := [(1, .int (x1 + (1 : Int32))), (0, .ref (h 0))]) hx hb dX4_endHour_67 hl (k := 1) rfl rfl (by decide) rfl (fun ls hl => ?_)
        refine lv_goto (tgt := 38) hx hb dX4_endHour_70 (by decide) ?_
        exact I38 (x1 + (1 : Int32)) z1 _ _ _ hw hP hD hS (lv_sub hl [1, 0] rfl)
  unfold wpX4_endHour at hw
  refine lv_aload_n hx hb dX4_endHour_0 rfl (lv_at hl 0 rfl) ?_
  refine lv_aload_n hx hb dX4_endHour_1 rfl (lv_at hl 0 rfl) ?_
  refine rg_W_X4_0_4 hC hK hP dX4_endHour_2 ?_
  refine vp_callSi (xro (xr_SN hC hK.2 (cX5_waned_c hw) ⟨rfl, rfl⟩ bw_389 calX5_waned ⟨Nat.le_trans (Nat.le_of_ble_eq_true rfl) hF, Nat.le_trans (Nat.le_of_ble_eq_true rfl) hL⟩ (rest := [.ref (h 0)]) (xpS hK) rfl hl rfl (Nat.le_of_ble_eq_true rfl) dX4_endHour_5 ⟨Nat.zero_le _, Nat.zero_le _⟩)) (fun r1 hw => ?_)
  refine rp_W_X4_0_4 hC hK hP hD hS dX4_endHour_8 (fun z1 H locs hz1 hP hD hS => ?_)
  have hw := hw z1 hz1
  refine lv_aload_n hx hb dX4_endHour_11 rfl (lv_at hl 0 rfl) ?_
  refine lv_aload_n hx hb dX4_endHour_12 rfl (lv_at hl 0 rfl) ?_
  refine rg_W_X4_0_5 hC hK hP dX4_endHour_13 ?_
  refine lv_aload_n hx hb dX4_endHour_16 rfl (lv_at hl 0 rfl) ?_
  refine rg_W_X4_0_6 hC hK hP dX4_endHour_17 ?_
  refine vp_callSi (xro (xr_SN hC hK.2 (cX5_rained_c hw) ⟨rfl, rfl⟩ bw_395 calX5_rained ⟨Nat.le_trans (Nat.le_of_ble_eq_true rfl) hF, Nat.le_trans (Nat.le_of_ble_eq_true rfl) hL⟩ (rest := [.ref (h 0)]) (xpS hK) rfl hl rfl (Nat.le_of_ble_eq_true rfl) dX4_endHour_20 ⟨Nat.zero_le _, Nat.zero_le _⟩)) (fun r2 hw => ?_)
  refine rp_W_X4_0_5 hC hK hP hD hS dX4_endHour_23 (fun z2 H locs hz1 hP hD hS => ?_)
  have hw := hw z2 hz1
  refine lv_aload_n hx hb dX4_endHour_26 rfl (lv_at hl 0 rfl) ?_
  refine lv_dup hx hb dX4_endHour_27 rfl ?_
  refine rg_W_X4_0_9 hC hK hP dX4_endHour_28 ?_
  refine lv_iconst (v := (1 : Int32)) hx hb dX4_endHour_31 (by decide) ?_
  refine lv_iadd hx hb dX4_endHour_32 ?_
  refine rp_W_X4_0_9 hC hK hP hD hS dX4_endHour_33 (fun z3 H locs hz1 hP hD hS => ?_)
  have hw := hw z3 hz1
  refine lv_iconst (v := (0 : Int32)) hx hb dX4_endHour_36 (by decide) ?_
  refine lv_istore_n (lv' := [(1, .int (0 : Int32)), (0, .ref (h 0))]) hx hb dX4_endHour_37 rfl hl (by decide) rfl (fun ls hl => ?_)
  obtain ⟨j38, hw⟩ := hw
  exact B38 j38 (0 : Int32) z3 _ _ _ hw hP hD hS (lv_sub hl [1, 0] rfl)
def wpX4_passHour_30  (post : Int32 → (wP2) → Prop) (x2 : Int32) (z0 : wP2) : Prop := (wpX4_endHour z0 (fun u => ∀ z1 : wP2, z1 = u → (post x2 z1)))
def wpX4_passHour (x1 : Int32) (z0 : wP2) (post : Int32 → (wP2) → Prop) : Prop := (wpX4_mayDraw x1 z0 (fun r1 => ((r1 = 0 → (∀ z1 : wP2, z1 = (w_so z0 (w_si (w_o z0) 10 (9 : Int32))) → (wpX4_passHour_30  post (0 : Int32) z1))) ∧ (¬ r1 = 0 → (wpX4_drawBy x1 z0 (fun r2 u => ∀ z2 : wP2, z2 = u → (∀ z3 : wP2, z3 = (w_so z2 (w_si (w_o z2) 10 x1)) → (wpX4_passHour_30  post r2 z3))))))))
set_option maxHeartbeats 4000000 in
set_option maxRecDepth 100000 in
theorem cX4_passHour_c {l : Launch} {G : wG} {h : Nat → Nat} {sz : Nat} {x1 : Int32} {post : Int32 → (wP2) → Prop} {z0 : wP2}  (hw : wpX4_passHour x1 z0 post) : Met l yX4_passHour (.code yX4_passHour cX4_passHour 3 (some .int) :: BIG) { frames := 4, cells := 0, slots := 0, locals := 90 } (xPw G [.ref (h 0), .int x1] (wsWell G h z0) sz) (xQi G post (fun q => (wsWell G h q)) (va_A (wsWell G h z0) sz)) 0 0 (va_A (wsWell G h z0) sz) := by
  refine xm_wi (by decide) (Nat.le_of_ble_eq_true rfl) (fun p e s m args below meth c A ls R Q hC hK hA hP hD hS hl hF hL hret => ?_)
  have hx := hC.1
  have hb := hC.2.1
  have hl : lv_has ls 3 [(0, .ref (h 0)), (1, .int x1)] := hl
  have B30 : ∀ (x2 : Int32) (z0 : wP2) (H : Heap) (locs : List Loc) (ls : Array Slot), wpX4_passHour_30  post x2 z0 → va_P G.1 vwCl (wsWell G h z0) H → va_D A (wsWell G h z0) → va_S A s.heap H locs → lv_has ls 3 [(0, .ref (h 0)), (2, .int x2)] → W p l e R s m args below meth c H locs 0 0 Q (F0 m 30 ls []) := by
    intro x2 z0 H locs ls hw hP hD hS hl
    unfold wpX4_passHour_30 at hw
    refine lv_aload_n hx hb dX4_passHour_30 rfl (lv_at hl 0 rfl) ?_
    refine xc_wv (S := wP2) (wsz := fun q => (wsWell G h q)) (f := fun u => u) (xr_V hC (cX4_endHour_c (h := h) hw) ⟨rfl, rfl⟩ bw_385 calX4_endHour ⟨Nat.le_trans (Nat.le_of_ble_eq_true rfl) hF, Nat.le_trans (Nat.le_of_ble_eq_true rfl) hL⟩ (rest := []) (xpV hK (cut_all_W) hP hD rfl rfl) rfl hl rfl (Nat.le_of_ble_eq_true rfl) dX4_passHour_31 ⟨Nat.zero_le _, Nat.zero_le _⟩) (cut_all_W) hP hD hS hA (fun u z1 H locs hz1 hw hP hD hS => ?_)
    have hw := hw z1 hz1
    refine lv_iload_n hx hb dX4_passHour_34 rfl (lv_at hl 1 rfl) ?_
    exact hret _ _ _ _ _ _ hw hP hD hS dX4_passHour_35
  unfold wpX4_passHour at hw
  refine lv_iconst (v := (0 : Int32)) hx hb dX4_passHour_0 (by decide) ?_
  refine lv_istore_n (lv' := [(2, .int (0 : Int32)), (0, .ref (h 0)), (1, .int x1)]) hx hb dX4_passHour_1 rfl hl (by decide) rfl (fun ls hl => ?_)
  refine lv_aload_n hx hb dX4_passHour_2 rfl (lv_at hl 1 rfl) ?_
  refine lv_iload_n hx hb dX4_passHour_3 rfl (lv_at hl 2 rfl) ?_
  refine vp_callSi (xro (xr_V hC (cX4_mayDraw_c (h := h) hw) ⟨rfl, rfl⟩ bw_354 calX4_mayDraw ⟨Nat.le_trans (Nat.le_of_ble_eq_true rfl) hF, Nat.le_trans (Nat.le_of_ble_eq_true rfl) hL⟩ (rest := []) (xpR hK hP rfl rfl) rfl hl rfl (Nat.le_of_ble_eq_true rfl) dX4_passHour_4 ⟨Nat.zero_le _, Nat.zero_le _⟩)) (fun r1 hw => ?_)
  refine lv_if_eq (tgt := 24) hx hb dX4_passHour_7 (by decide) (fun hc => ?_) (fun hc => ?_)
  · have hw := And.left hw hc
    refine lv_aload_n hx hb dX4_passHour_24 rfl (lv_at hl 1 rfl) ?_
    refine lv_bipush (v := (9 : Int32)) hx hb dX4_passHour_25 (by decide) ?_
    refine rp_W_X4_0_10 hC hK hP hD hS dX4_passHour_27 (fun z1 H locs hz1 hP hD hS => ?_)
    have hw := hw z1 hz1
    exact B30 (0 : Int32) z1 _ _ _ hw hP hD hS (lv_sub hl [1, 0] rfl)
  · have hw := And.right hw hc
    refine lv_aload_n hx hb dX4_passHour_10 rfl (lv_at hl 1 rfl) ?_
    refine lv_iload_n hx hb dX4_passHour_11 rfl (lv_at hl 2 rfl) ?_
    refine xc_wi (S := wP2) (wsz := fun q => (wsWell G h q)) (f := fun u => u) (xr_V hC (cX4_drawBy_c (h := h) hw) ⟨rfl, rfl⟩ bw_355 calX4_drawBy ⟨Nat.le_trans (Nat.le_of_ble_eq_true rfl) hF, Nat.le_trans (Nat.le_of_ble_eq_true rfl) hL⟩ (rest := []) (xpV hK (cut_all_W) hP hD rfl rfl) rfl hl rfl (Nat.le_of_ble_eq_true rfl) dX4_passHour_12 ⟨Nat.zero_le _, Nat.zero_le _⟩) (cut_all_W) hP hD hS hA (fun r2 u z2 H locs hz1 hw hP hD hS => ?_)
    have hw := hw z2 hz1
    refine lv_istore_n (lv' := [(2, .int r2), (0, .ref (h 0)), (1, .int x1)]) hx hb dX4_passHour_15 rfl hl (by decide) rfl (fun ls hl => ?_)
    refine lv_aload_n hx hb dX4_passHour_16 rfl (lv_at hl 1 rfl) ?_
    refine lv_iload_n hx hb dX4_passHour_17 rfl (lv_at hl 2 rfl) ?_
    refine rp_W_X4_0_10 hC hK hP hD hS dX4_passHour_18 (fun z3 H locs hz1 hP hD hS => ?_)
    have hw := hw z3 hz1
    refine lv_goto (tgt := 30) hx hb dX4_passHour_21 (by decide) ?_
    exact B30 r2 z3 _ _ _ hw hP hD hS (lv_sub hl [1, 0] rfl)
def wpX4_followPlan_36 (k2 : Int32 → (wP2) → Prop) (post : Int32 → (wP2) → Prop) (x1 : Int32) (z0 : wP2) : Prop := (vp_in x1 24 ∧ (wpX4_passHour ((w_a (w_o z0) 2) x1.toNatClampNeg) z0 (fun r1 u => ∀ z1 : wP2, z1 = u → (k2 (x1 + (1 : Int32)) z1))))
def wpX4_followPlan_2 (k2 : Int32 → (wP2) → Prop) (post : Int32 → (wP2) → Prop) (x1 : Int32) (z0 : wP2) : Prop := (((w_i (w_o z0) 3) ≤ x1 → (post (w_i (w_o z0) 3) z0)) ∧ (¬ (w_i (w_o z0) 3) ≤ x1 → (vp_in x1 24 ∧ ((((w_a (w_o z0) 2) x1.toNatClampNeg) = (9 : Int32) → (wpX4_followPlan_36 k2 post x1 z0)) ∧ (¬ ((w_a (w_o z0) 2) x1.toNatClampNeg) = (9 : Int32) → (vp_in x1 24 ∧ (wpX4_mayDraw ((w_a (w_o z0) 2) x1.toNatClampNeg) z0 (fun r1 => ((¬ r1 = 0 → (wpX4_followPlan_36 k2 post x1 z0)) ∧ (r1 = 0 → (post x1 z0)))))))))))
def wpX4_followPlan_L2  (post : Int32 → (wP2) → Prop) : Nat → Int32 → (wP2) → Prop
  | 0 => fun _ _ => False
  | n + 1 => fun x1 z0 => wpX4_followPlan_2  (wpX4_followPlan_L2  post n) post x1 z0
def wpX4_followPlan (z0 : wP2) (post : Int32 → (wP2) → Prop) : Prop := (∃ n, wpX4_followPlan_L2  post n (0 : Int32) z0)
set_option maxHeartbeats 4000000 in
set_option maxRecDepth 100000 in
theorem cX4_followPlan_c {l : Launch} {G : wG} {h : Nat → Nat} {sz : Nat}  {post : Int32 → (wP2) → Prop} {z0 : wP2}  (hw : wpX4_followPlan z0 post) : Met l yX4_followPlan (.code yX4_followPlan cX4_followPlan 2 (some .int) :: BIG) { frames := 5, cells := 0, slots := 0, locals := 112 } (xPw G [.ref (h 0)] (wsWell G h z0) sz) (xQi G post (fun q => (wsWell G h q)) (va_A (wsWell G h z0) sz)) 0 0 (va_A (wsWell G h z0) sz) := by
  refine xm_wi (by decide) (Nat.le_of_ble_eq_true rfl) (fun p e s m args below meth c A ls R Q hC hK hA hP hD hS hl hF hL hret => ?_)
  have hx := hC.1
  have hb := hC.2.1
  have hl : lv_has ls 2 [(0, .ref (h 0))] := hl
  have B2 : ∀ n2 : Nat, ∀ (x1 : Int32) (z0 : wP2) (H : Heap) (locs : List Loc) (ls : Array Slot), wpX4_followPlan_L2  post n2 x1 z0 → va_P G.1 vwCl (wsWell G h z0) H → va_D A (wsWell G h z0) → va_S A s.heap H locs → lv_has ls 2 [(0, .ref (h 0)), (1, .int x1)] → W p l e R s m args below meth c H locs 0 0 Q (F0 m 2 ls []) := by
    intro n2
    induction n2 with
    | zero => intro x1 z0 H locs ls hw hP hD hS hl; exact False.elim hw
    | succ n2 I2 =>
      have B36 : ∀ (x1 : Int32) (z0 : wP2) (H : Heap) (locs : List Loc) (ls : Array Slot), wpX4_followPlan_36 (wpX4_followPlan_L2  post n2) post x1 z0 → va_P G.1 vwCl (wsWell G h z0) H → va_D A (wsWell G h z0) → va_S A s.heap H locs → lv_has ls 2 [(0, .ref (h 0)), (1, .int x1)] → W p l e R s m args below meth c H locs 0 0 Q (F0 m 36 ls []) := by
        intro x1 z0 H locs ls hw hP hD hS hl
        unfold wpX4_followPlan_36 at hw
        refine lv_aload_n hx hb dX4_followPlan_36 rfl (lv_at hl 0 rfl) ?_
        refine lv_aload_n hx hb dX4_followPlan_37 rfl (lv_at hl 0 rfl) ?_
        refine rg_W_X4_0_2 hC hK hP dX4_followPlan_38 ?_
        refine lv_iload_n hx hb dX4_followPlan_41 rfl (lv_at hl 1 rfl) ?_
        refine rl_W_2 hC hK hP (And.left hw) dX4_followPlan_42 ?_
        have hw := And.right hw
        refine xc_wi (S := wP2) (wsz := fun q => (wsWell G h q)) (f := fun u => u) (xr_V hC (cX4_passHour_c (h := h) hw) ⟨rfl, rfl⟩ bw_411 calX4_passHour ⟨Nat.le_trans (Nat.le_of_ble_eq_true rfl) hF, Nat.le_trans (Nat.le_of_ble_eq_true rfl) hL⟩ (rest := []) (xpV hK (cut_all_W) hP hD rfl rfl) rfl hl rfl (Nat.le_of_ble_eq_true rfl) dX4_followPlan_43 ⟨Nat.zero_le _, Nat.zero_le _⟩) (cut_all_W) hP hD hS hA (fun r1 u z1 H locs hz1 hw hP hD hS => ?_)
        have hw := hw z1 hz1
        refine lv_pop hx hb dX4_followPlan_46 rfl ?_
        refine lv_iinc (v := (x1 + (1 : Int32))) (lv' := [(1, .int (x1 + (1 : Int32))), (0, .ref (h 0))]) hx hb dX4_followPlan_47 hl (k := 1) rfl rfl (by decide) rfl (fun ls hl => ?_)
        refine lv_goto (tgt := 2) hx hb dX4_followPlan_50 (by decide) ?_
        exact I2 (x1 + (1 : Int32)) z1 _ _ _ hw hP hD hS (lv_sub hl [1, 0] rfl)
      intro x1 z0 H locs ls hw hP hD hS hl
      have hw : wpX4_followPlan_2  (wpX4_followPlan_L2  post n2) post x1 z0 := hw
      unfold wpX4_followPlan_2 at hw
      refine lv_iload_n hx hb dX4_followPlan_2 rfl (lv_at hl 1 rfl) ?_
      refine lv_aload_n hx hb dX4_followPlan_3 rfl (lv_at hl 0 rfl) ?_
      refine rg_W_X4_0_3 hC hK hP dX4_followPlan_4 ?_
      refine lv_icmp_ge (tgt := 53) hx hb dX4_followPlan_7 (by decide) (fun hc => ?_) (fun hc => ?_)
      · have hw := And.left hw hc
        refine lv_aload_n hx hb dX4_followPlan_53 rfl (lv_at hl 0 rfl) ?_
        refine rg_W_X4_0_3 hC hK hP dX4_followPlan_54 ?_
        exact hret _ _ _ _ _ _ hw hP hD hS dX4_followPlan_57
      · have hw := And.right hw hc
        refine lv_aload_n hx hb dX4_followPlan_10 rfl (lv_at hl 0 rfl) ?_
        refine rg_W_X4_0_2 hC hK hP dX4_followPlan_11 ?_
        refine lv_iload_n hx hb dX4_followPlan_14 rfl (lv_at hl 1 rfl) ?_
        refine rl_W_2 hC hK hP (And.left hw) dX4_followPlan_15 ?_
        have hw := And.right hw
        refine lv_bipush (v := (9 : Int32)) hx hb dX4_followPlan_16 (by decide) ?_
        refine lv_icmp_eq (tgt := 36) hx hb dX4_followPlan_18 (by decide) (fun hc => ?_) (fun hc => ?_)
        · have hw := And.left hw hc
          exact B36 x1 z0 _ _ _ hw hP hD hS (lv_sub hl [0, 1] rfl)
        · have hw := And.right hw hc
          refine lv_aload_n hx hb dX4_followPlan_21 rfl (lv_at hl 0 rfl) ?_
          refine lv_aload_n hx hb dX4_followPlan_22 rfl (lv_at hl 0 rfl) ?_
          refine rg_W_X4_0_2 hC hK hP dX4_followPlan_23 ?_
          refine lv_iload_n hx hb dX4_followPlan_26 rfl (lv_at hl 1 rfl) ?_
          refine rl_W_2 hC hK hP (And.left hw) dX4_followPlan_27 ?_
          have hw := And.right hw
          refine vp_callSi (xro (xr_V hC (cX4_mayDraw_c (h := h) hw) ⟨rfl, rfl⟩ bw_354 calX4_mayDraw ⟨Nat.le_trans (Nat.le_of_ble_eq_true rfl) hF, Nat.le_trans (Nat.le_of_ble_eq_true rfl) hL⟩ (rest := []) (xpR hK hP rfl rfl) rfl hl rfl (Nat.le_of_ble_eq_true rfl) dX4_followPlan_28 ⟨Nat.zero_le _, Nat.zero_le _⟩)) (fun r1 hw => ?_)
          refine lv_if_ne (tgt := 36) hx hb dX4_followPlan_31 (by decide) (fun hc => ?_) (fun hc => ?_)
          · have hw := And.left hw hc
            exact B36 x1 z0 _ _ _ hw hP hD hS (lv_sub hl [0, 1] rfl)
          · have hw := And.right hw hc
            refine lv_iload_n hx hb dX4_followPlan_34 rfl (lv_at hl 1 rfl) ?_
            exact hret _ _ _ _ _ _ hw hP hD hS dX4_followPlan_35
  unfold wpX4_followPlan at hw
  refine lv_iconst (v := (0 : Int32)) hx hb dX4_followPlan_0 (by decide) ?_
  refine lv_istore_n (lv' := [(1, .int (0 : Int32)), (0, .ref (h 0))]) hx hb dX4_followPlan_1 rfl hl (by decide) rfl (fun ls hl => ?_)
  obtain ⟨j2, hw⟩ := hw
  exact B2 j2 (0 : Int32) z0 _ _ _ hw hP hD hS (lv_sub hl [1, 0] rfl)
def wpX4_lot (z0 : wP2) (post : Int32 → (wP2) → Prop) : Prop := (∀ z1 : wP2, z1 = (w_so z0 (w_si (w_o z0) 11 ((((((w_i (w_o z0) 11).toInt64) * (1103515245 : Int64)) + (12345 : Int64)) &&& (2147483647 : Int64)).toInt32))) → (¬ (65536 : Int32) = 0 ∧ (¬ ((w_i (w_f z1) 4) + (1 : Int32)) = 0 ∧ (wpX4_mayDraw (((w_i (w_o z1) 11) / (65536 : Int32)) - ((w_i (w_o z1) 11) / (65536 : Int32)) / ((w_i (w_f z1) 4) + (1 : Int32)) * ((w_i (w_f z1) 4) + (1 : Int32))) z1 (fun r1 => ((r1 = 0 → (post (9 : Int32) z1)) ∧ (¬ r1 = 0 → (post (((w_i (w_o z1) 11) / (65536 : Int32)) - ((w_i (w_o z1) 11) / (65536 : Int32)) / ((w_i (w_f z1) 4) + (1 : Int32)) * ((w_i (w_f z1) 4) + (1 : Int32))) z1))))))))
set_option maxHeartbeats 4000000 in
set_option maxRecDepth 100000 in
theorem cX4_lot_c {l : Launch} {G : wG} {h : Nat → Nat} {sz : Nat}  {post : Int32 → (wP2) → Prop} {z0 : wP2}  (hw : wpX4_lot z0 post) : Met l yX4_lot (.code yX4_lot cX4_lot 2 (some .int) :: BIG) { frames := 2, cells := 0, slots := 0, locals := 42 } (xPw G [.ref (h 0)] (wsWell G h z0) sz) (xQi G post (fun q => (wsWell G h q)) (va_A (wsWell G h z0) sz)) 0 0 (va_A (wsWell G h z0) sz) := by
  refine xm_wi (by decide) (Nat.le_of_ble_eq_true rfl) (fun p e s m args below meth c A ls R Q hC hK hA hP hD hS hl hF hL hret => ?_)
  have hx := hC.1
  have hb := hC.2.1
  have hl : lv_has ls 2 [(0, .ref (h 0))] := hl
  unfold wpX4_lot at hw
  refine lv_aload_n hx hb dX4_lot_0 rfl (lv_at hl 0 rfl) ?_
  refine lv_aload_n hx hb dX4_lot_1 rfl (lv_at hl 0 rfl) ?_
  refine rg_W_X4_0_11 hC hK hP dX4_lot_2 ?_
  refine lv_i2l (v := ((w_i (w_o z0) 11).toInt64)) hx hb dX4_lot_5 rfl ?_
  refine lv_ldc2 (v := (1103515245 : Int64)) hx hb hC.2.2.2.1 (hC.2.2.2.2 _ bw_504) dX4_lot_6 ?_
  refine lv_lmul hx hb dX4_lot_9 ?_
  refine lv_ldc2 (v := (12345 : Int64)) hx hb hC.2.2.2.1 (hC.2.2.2.2 _ bw_505) dX4_lot_10 ?_
  refine lv_ladd hx hb dX4_lot_13 ?_
  refine lv_ldc2 (v := (2147483647 : Int64)) hx hb hC.2.2.2.1 (hC.2.2.2.2 _ bw_506) dX4_lot_14 ?_
  refine lv_land hx hb dX4_lot_17 ?_
  refine lv_l2i (v := ((((((w_i (w_o z0) 11).toInt64) * (1103515245 : Int64)) + (12345 : Int64)) &&& (2147483647 : Int64)).toInt32)) hx hb dX4_lot_18 rfl ?_
  refine rp_W_X4_0_11 hC hK hP hD hS dX4_lot_19 (fun z1 H locs hz1 hP hD hS => ?_)
  have hw := hw z1 hz1
  refine lv_aload_n hx hb dX4_lot_22 rfl (lv_at hl 0 rfl) ?_
  refine rg_W_X4_0_11 hC hK hP dX4_lot_23 ?_
  refine lv_ldc (v := (65536 : Int32)) hx hb hC.2.2.2.1 (hC.2.2.2.2 _ bw_507) dX4_lot_26 ?_
  refine lv_idiv hx hb dX4_lot_28 (And.left hw) ?_
  have hw := And.right hw
  refine lv_aload_n hx hb dX4_lot_29 rfl (lv_at hl 0 rfl) ?_
  refine rg_W_X4_0_0 hC hK hP dX4_lot_30 ?_
  refine rg_W_X4_3_4 hC hK hP dX4_lot_33 ?_
  refine lv_iconst (v := (1 : Int32)) hx hb dX4_lot_36 (by decide) ?_
  refine lv_iadd hx hb dX4_lot_37 ?_
  refine lv_irem hx hb dX4_lot_38 (And.left hw) ?_
  have hw := And.right hw
  refine lv_istore_n (lv' := [(1, .int (((w_i (w_o z1) 11) / (65536 : Int32)) - ((w_i (w_o z1) 11) / (65536 : Int32)) / ((w_i (w_f z1) 4) + (1 : Int32)) * ((w_i (w_f z1) 4) + (1 : Int32)))), (0, .ref (h 0))]) hx hb dX4_lot_39 rfl hl (by decide) rfl (fun ls hl => ?_)
  refine lv_aload_n hx hb dX4_lot_40 rfl (lv_at hl 1 rfl) ?_
  refine lv_iload_n hx hb dX4_lot_41 rfl (lv_at hl 0 rfl) ?_
  refine vp_callSi (xro (xr_V hC (cX4_mayDraw_c (h := h) hw) ⟨rfl, rfl⟩ bw_354 calX4_mayDraw ⟨Nat.le_trans (Nat.le_of_ble_eq_true rfl) hF, Nat.le_trans (Nat.le_of_ble_eq_true rfl) hL⟩ (rest := []) (xpR hK hP rfl rfl) rfl hl rfl (Nat.le_of_ble_eq_true rfl) dX4_lot_42 ⟨Nat.zero_le _, Nat.zero_le _⟩)) (fun r1 hw => ?_)
  refine lv_if_eq (tgt := 52) hx hb dX4_lot_45 (by decide) (fun hc => ?_) (fun hc => ?_)
  · have hw := And.left hw hc
    refine lv_bipush (v := (9 : Int32)) hx hb dX4_lot_52 (by decide) ?_
    exact hret _ _ _ _ _ _ hw hP hD hS dX4_lot_54
  · have hw := And.right hw hc
    refine lv_iload_n hx hb dX4_lot_48 rfl (lv_at hl 0 rfl) ?_
    refine lv_goto (tgt := 54) hx hb dX4_lot_49 (by decide) ?_
    exact hret _ _ _ _ _ _ hw hP hD hS dX4_lot_54
