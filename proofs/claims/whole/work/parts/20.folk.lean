def wpX0_has (x1 : Int32) (z0 : wSt) (post : Int32 → Prop) : Prop := ((x1 < 0 → (post (0 : Int32))) ∧ (¬ x1 < 0 → (((w_i z0 4) ≤ x1 → (post (0 : Int32))) ∧ (¬ (w_i z0 4) ≤ x1 → (post (1 : Int32))))))
set_option maxHeartbeats 4000000 in
set_option maxRecDepth 100000 in
theorem cX0_has_c {l : Launch} {G : wG} {h : Nat → Nat} {x1 : Int32} {post : Int32 → Prop} {z0 : wSt}  (hw : wpX0_has x1 z0 post) : Met l yX0_has (.code yX0_has cX0_has 2 (some .boolean) :: BIG) { frames := 0, cells := 0, slots := 0, locals := 0 } (xPr G [.ref (h 0), .int x1] (wsFolk G h z0)) (vp_Si post) 0 0 (fun _ => False) := by
  refine xm_rz (by decide) (Nat.le_of_ble_eq_true rfl) (fun p e s m args below meth c ls R Q hC hK hP hl hF hL hret => ?_)
  have hx := hC.1
  have hb := hC.2.1
  have hl : lv_has ls 2 [(0, .ref (h 0)), (1, .int x1)] := hl
  unfold wpX0_has at hw
  refine lv_iload_n hx hb dX0_has_0 rfl (lv_at hl 1 rfl) ?_
  refine lv_if_lt (tgt := 16) hx hb dX0_has_1 (by decide) (fun hc => ?_) (fun hc => ?_)
  · have hw := And.left hw hc
    refine lv_iconst (v := (0 : Int32)) hx hb dX0_has_16 (by decide) ?_
    exact hret _ _ _ rfl hw dX0_has_17
  · have hw := And.right hw hc
    refine lv_iload_n hx hb dX0_has_4 rfl (lv_at hl 1 rfl) ?_
    refine lv_aload_n hx hb dX0_has_5 rfl (lv_at hl 0 rfl) ?_
    refine rg_F_X0_0_4 hC hK hP dX0_has_6 ?_
    refine lv_icmp_ge (tgt := 16) hx hb dX0_has_9 (by decide) (fun hc => ?_) (fun hc => ?_)
    · have hw := And.left hw hc
      refine lv_iconst (v := (0 : Int32)) hx hb dX0_has_16 (by decide) ?_
      exact hret _ _ _ rfl hw dX0_has_17
    · have hw := And.right hw hc
      refine lv_iconst (v := (1 : Int32)) hx hb dX0_has_12 (by decide) ?_
      refine lv_goto (tgt := 17) hx hb dX0_has_13 (by decide) ?_
      exact hret _ _ _ rfl hw dX0_has_17
def wpX0_add (x1 : Int32) (x2 : Int32) (x3 : Int32) (z0 : wSt) (post : Int32 → (wSt) → Prop) : Prop := (((w_i z0 4) < (6 : Int32) → (vp_in (w_i z0 4) 6 ∧ ∀ z1 : wSt, z1 = (w_sa z0 0 (upd (w_a z0 0) (w_i z0 4).toNatClampNeg x1)) → (vp_in (w_i z0 4) 6 ∧ ∀ z2 : wSt, z2 = (w_sa z1 1 (upd (w_a z1 1) (w_i z0 4).toNatClampNeg x2)) → (vp_in (w_i z0 4) 6 ∧ ∀ z3 : wSt, z3 = (w_sa z2 2 (upd (w_a z2 2) (w_i z0 4).toNatClampNeg x3)) → (vp_in (w_i z0 4) 6 ∧ ∀ z4 : wSt, z4 = (w_sa z3 3 (upd (w_a z3 3) (w_i z0 4).toNatClampNeg (0 : Int32))) → (∀ z5 : wSt, z5 = (w_si z4 4 ((w_i z0 4) + (1 : Int32))) → (post (w_i z0 4) z5))))))) ∧ (¬ (w_i z0 4) < (6 : Int32) → (post (-3 : Int32) z0)))
set_option maxHeartbeats 4000000 in
set_option maxRecDepth 100000 in
theorem cX0_add_c {l : Launch} {G : wG} {h : Nat → Nat} {sz : Nat} {x1 : Int32} {x2 : Int32} {x3 : Int32} {post : Int32 → (wSt) → Prop} {z0 : wSt}  (hw : wpX0_add x1 x2 x3 z0 post) : Met l yX0_add (.code yX0_add cX0_add 5 (some .int) :: BIG) { frames := 0, cells := 0, slots := 0, locals := 0 } (xPw G [.ref (h 0), .int x1, .int x2, .int x3] (wsFolk G h z0) sz) (xQi G post (fun q => (wsFolk G h q)) (va_A (wsFolk G h z0) sz)) 0 0 (va_A (wsFolk G h z0) sz) := by
  refine xm_wi (by decide) (Nat.le_of_ble_eq_true rfl) (fun p e s m args below meth c A ls R Q hC hK hA hP hD hS hl hF hL hret => ?_)
  have hx := hC.1
  have hb := hC.2.1
  have hl : lv_has ls 5 [(0, .ref (h 0)), (1, .int x1), (2, .int x2), (3, .int x3)] := hl
  unfold wpX0_add at hw
  refine lv_aload_n hx hb dX0_add_0 rfl (lv_at hl 0 rfl) ?_
  refine rg_F_X0_0_4 hC hK hP dX0_add_1 ?_
  refine lv_istore (lv' := [(4, .int (w_i z0 4)), (0, .ref (h 0)), (1, .int x1), (2, .int x2), (3, .int x3)]) hx hb dX0_add_4 hl (by decide) rfl (fun ls hl => ?_)
  refine lv_iload hx hb dX0_add_6 (lv_at hl 0 rfl) ?_
  refine lv_bipush (v := (6 : Int32)) hx hb dX0_add_8 (by decide) ?_
  refine lv_icmp_lt (tgt := 16) hx hb dX0_add_10 (by decide) (fun hc => ?_) (fun hc => ?_)
  · have hw := And.left hw hc
    refine lv_aload_n hx hb dX0_add_16 rfl (lv_at hl 1 rfl) ?_
    refine rg_F_X0_0_0 hC hK hP dX0_add_17 ?_
    refine lv_iload hx hb dX0_add_20 (lv_at hl 0 rfl) ?_
    refine lv_iload_n hx hb dX0_add_22 rfl (lv_at hl 2 rfl) ?_
    refine rs_F_1 hC hK hP hD hS (And.left hw) dX0_add_23 (fun z1 H locs hz1 hP hD hS => ?_)
    have hw := And.right hw z1 hz1
    refine lv_aload_n hx hb dX0_add_24 rfl (lv_at hl 1 rfl) ?_
    refine rg_F_X0_0_1 hC hK hP dX0_add_25 ?_
    refine lv_iload hx hb dX0_add_28 (lv_at hl 0 rfl) ?_
    refine lv_iload_n hx hb dX0_add_30 rfl (lv_at hl 3 rfl) ?_
    refine rs_F_2 hC hK hP hD hS (And.left hw) dX0_add_31 (fun z2 H locs hz1 hP hD hS => ?_)
    have hw := And.right hw z2 hz1
    refine lv_aload_n hx hb dX0_add_32 rfl (lv_at hl 1 rfl) ?_
    refine rg_F_X0_0_2 hC hK hP dX0_add_33 ?_
    refine lv_iload hx hb dX0_add_36 (lv_at hl 0 rfl) ?_
    refine lv_iload_n hx hb dX0_add_38 rfl (lv_at hl 4 rfl) ?_
    refine rs_F_3 hC hK hP hD hS (And.left hw) dX0_add_39 (fun z3 H locs hz1 hP hD hS => ?_)
    have hw := And.right hw z3 hz1
    refine lv_aload_n hx hb dX0_add_40 rfl (lv_at hl 1 rfl) ?_
    refine rg_F_X0_0_3 hC hK hP dX0_add_41 ?_
    refine lv_iload hx hb dX0_add_44 (lv_at hl 0 rfl) ?_
    refine lv_iconst (v := (0 : Int32)) hx hb dX0_add_46 (by decide) ?_
    refine rs_F_4 hC hK hP hD hS (And.left hw) dX0_add_47 (fun z4 H locs hz1 hP hD hS => ?_)
    have hw := And.right hw z4 hz1
    refine lv_aload_n hx hb dX0_add_48 rfl (lv_at hl 1 rfl) ?_
    refine lv_iload hx hb dX0_add_49 (lv_at hl 0 rfl) ?_
    refine lv_iconst (v := (1 : Int32)) hx hb dX0_add_51 (by decide) ?_
    refine lv_iadd hx hb dX0_add_52 ?_
    refine rp_F_X0_0_4 hC hK hP hD hS dX0_add_53 (fun z5 H locs hz1 hP hD hS => ?_)
    have hw := hw z5 hz1
    refine lv_iload hx hb dX0_add_56 (lv_at hl 0 rfl) ?_
    exact hret _ _ _ _ _ _ hw hP hD hS dX0_add_58
  · have hw := And.right hw hc
    refine lv_bipush (v := (-3 : Int32)) hx hb dX0_add_13 (by decide) ?_
    exact hret _ _ _ _ _ _ hw hP hD hS dX0_add_15
def wpX0_become_2 (k2 : Int32 → (wSt × wSt) → Prop) (post : (wSt × wSt) → Prop) (x2 : Int32) (z0 : wSt × wSt) : Prop := (((6 : Int32) ≤ x2 → (∀ z1 : wSt × wSt, z1 = ((w_si z0.1 4 (w_i z0.2 4)), z0.2) → (post z1))) ∧ (¬ (6 : Int32) ≤ x2 → (vp_in x2 6 ∧ (vp_in x2 6 ∧ ∀ z2 : wSt × wSt, z2 = ((w_sa z0.1 0 (upd (w_a z0.1 0) x2.toNatClampNeg ((w_a z0.2 0) x2.toNatClampNeg))), z0.2) → (vp_in x2 6 ∧ (vp_in x2 6 ∧ ∀ z3 : wSt × wSt, z3 = ((w_sa z2.1 1 (upd (w_a z2.1 1) x2.toNatClampNeg ((w_a z2.2 1) x2.toNatClampNeg))), z2.2) → (vp_in x2 6 ∧ (vp_in x2 6 ∧ ∀ z4 : wSt × wSt, z4 = ((w_sa z3.1 2 (upd (w_a z3.1 2) x2.toNatClampNeg ((w_a z3.2 2) x2.toNatClampNeg))), z3.2) → (vp_in x2 6 ∧ (vp_in x2 6 ∧ ∀ z5 : wSt × wSt, z5 = ((w_sa z4.1 3 (upd (w_a z4.1 3) x2.toNatClampNeg ((w_a z4.2 3) x2.toNatClampNeg))), z4.2) → (k2 (x2 + (1 : Int32)) z5)))))))))))
def wpX0_become_L2  (post : (wSt × wSt) → Prop) : Nat → Int32 → (wSt × wSt) → Prop
  | 0 => fun _ _ => False
  | n + 1 => fun x2 z0 => wpX0_become_2  (wpX0_become_L2  post n) post x2 z0
def wpX0_become (z0 : wSt × wSt) (post : (wSt × wSt) → Prop) : Prop := (∃ n, wpX0_become_L2  post n (0 : Int32) z0)
set_option maxHeartbeats 4000000 in
set_option maxRecDepth 100000 in
theorem cX0_become_c {l : Launch} {G : wG} {h g : Nat → Nat} {sz : Nat}  {post : (wSt × wSt) → Prop} {z0 : wSt × wSt}  (hw : wpX0_become z0 post) : Met l yX0_become (.code yX0_become cX0_become 3 none :: BIG) { frames := 0, cells := 0, slots := 0, locals := 0 } (xPw G [.ref (h 0), .ref (g 0)] (wsFolk G h z0.1 ++ wsFolk G g z0.2) sz) (xQv G post (fun q => (wsFolk G h q.1 ++ wsFolk G g q.2)) (va_A (wsFolk G h z0.1 ++ wsFolk G g z0.2) sz)) 0 0 (va_A (wsFolk G h z0.1 ++ wsFolk G g z0.2) sz) := by
  refine xm_wv (by decide) (Nat.le_of_ble_eq_true rfl) (fun p e s m args below meth c A ls R Q hC hK hA hP hD hS hl hF hL hret => ?_)
  have hx := hC.1
  have hb := hC.2.1
  have hl : lv_has ls 3 [(0, .ref (h 0)), (1, .ref (g 0))] := hl
  have B2 : ∀ n2 : Nat, ∀ (x2 : Int32) (z0 : wSt × wSt) (H : Heap) (locs : List Loc) (ls : Array Slot), wpX0_become_L2  post n2 x2 z0 → va_P G.1 vwCl (wsFolk G h z0.1 ++ wsFolk G g z0.2) H → va_D A (wsFolk G h z0.1 ++ wsFolk G g z0.2) → va_S A s.heap H locs → lv_has ls 3 [(0, .ref (h 0)), (1, .ref (g 0)), (2, .int x2)] → W p l e R s m args below meth c H locs 0 0 Q (F0 m 2 ls []) := by
    intro n2
    induction n2 with
    | zero => intro x2 z0 H locs ls hw hP hD hS hl; exact False.elim hw
    | succ n2 I2 =>
      intro x2 z0 H locs ls hw hP hD hS hl
      have hw : wpX0_become_2  (wpX0_become_L2  post n2) post x2 z0 := hw
      unfold wpX0_become_2 at hw
      refine lv_iload_n hx hb dX0_become_2 rfl (lv_at hl 2 rfl) ?_
      refine lv_bipush (v := (6 : Int32)) hx hb dX0_become_3 (by decide) ?_
      refine lv_icmp_ge (tgt := 62) hx hb dX0_become_5 (by decide) (fun hc => ?_) (fun hc => ?_)
      · have hw := And.left hw hc
        refine lv_aload_n hx hb dX0_become_62 rfl (lv_at hl 0 rfl) ?_
        refine lv_aload_n hx hb dX0_become_63 rfl (lv_at hl 1 rfl) ?_
        refine rg_FF_X0_5_4 hC hK hP dX0_become_64 ?_
        refine rp_FF_X0_0_4 hC hK hP hD hS dX0_become_67 (fun z1 H locs hz1 hP hD hS => ?_)
        have hw := hw z1 hz1
        exact hret _ _ _ _ _ hw hP hD hS dX0_become_70
      · have hw := And.right hw hc
        refine lv_aload_n hx hb dX0_become_8 rfl (lv_at hl 0 rfl) ?_
        refine rg_FF_X0_0_0 hC hK hP dX0_become_9 ?_
        refine lv_iload_n hx hb dX0_become_12 rfl (lv_at hl 2 rfl) ?_
        refine lv_aload_n hx hb dX0_become_13 rfl (lv_at hl 1 rfl) ?_
        refine rg_FF_X0_5_0 hC hK hP dX0_become_14 ?_
        refine lv_iload_n hx hb dX0_become_17 rfl (lv_at hl 2 rfl) ?_
        refine rl_FF_6 hC hK hP (And.left hw) dX0_become_18 ?_
        have hw := And.right hw
        refine rs_FF_1 hC hK hP hD hS (And.left hw) dX0_become_19 (fun z2 H locs hz1 hP hD hS => ?_)
        have hw := And.right hw z2 hz1
        refine lv_aload_n hx hb dX0_become_20 rfl (lv_at hl 0 rfl) ?_
        refine rg_FF_X0_0_1 hC hK hP dX0_become_21 ?_
        refine lv_iload_n hx hb dX0_become_24 rfl (lv_at hl 2 rfl) ?_
        refine lv_aload_n hx hb dX0_become_25 rfl (lv_at hl 1 rfl) ?_
        refine rg_FF_X0_5_1 hC hK hP dX0_become_26 ?_
        refine lv_iload_n hx hb dX0_become_29 rfl (lv_at hl 2 rfl) ?_
        refine rl_FF_7 hC hK hP (And.left hw) dX0_become_30 ?_
        have hw := And.right hw
        refine rs_FF_2 hC hK hP hD hS (And.left hw) dX0_become_31 (fun z3 H locs hz1 hP hD hS => ?_)
        have hw := And.right hw z3 hz1
        refine lv_aload_n hx hb dX0_become_32 rfl (lv_at hl 0 rfl) ?_
        refine rg_FF_X0_0_2 hC hK hP dX0_become_33 ?_
        refine lv_iload_n hx hb dX0_become_36 rfl (lv_at hl 2 rfl) ?_
        refine lv_aload_n hx hb dX0_become_37 rfl (lv_at hl 1 rfl) ?_
        refine rg_FF_X0_5_2 hC hK hP dX0_become_38 ?_
        refine lv_iload_n hx hb dX0_become_41 rfl (lv_at hl 2 rfl) ?_
        refine rl_FF_8 hC hK hP (And.left hw) dX0_become_42 ?_
        have hw := And.right hw
        refine rs_FF_3 hC hK hP hD hS (And.left hw) dX0_become_43 (fun z4 H locs hz1 hP hD hS => ?_)
        have hw := And.right hw z4 hz1
        refine lv_aload_n hx hb dX0_become_44 rfl (lv_at hl 0 rfl) ?_
        refine rg_FF_X0_0_3 hC hK hP dX0_become_45 ?_
        refine lv_iload_n hx hb dX0_become_48 rfl (lv_at hl 2 rfl) ?_
        refine lv_aload_n hx hb dX0_become_49 rfl (lv_at hl 1 rfl) ?_
        refine rg_FF_X0_5_3 hC hK hP dX0_become_50 ?_
        refine lv_iload_n hx hb dX0_become_53 rfl (lv_at hl 2 rfl) ?_
        refine rl_FF_9 hC hK hP (And.left hw) dX0_become_54 ?_
        have hw := And.right hw
        refine rs_FF_4 hC hK hP hD hS (And.left hw) dX0_become_55 (fun z5 H locs hz1 hP hD hS => ?_)
        have hw := And.right hw z5 hz1
        refine lv_iinc (v := (x2 + (1 : Int32))) (lv' := [(2, .int (x2 + (1 : Int32))), (0, .ref (h 0)), (1, .ref (g 0))]) hx hb dX0_become_56 hl (k := 2) rfl rfl (by decide) rfl (fun ls hl => ?_)
        refine lv_goto (tgt := 2) hx hb dX0_become_59 (by decide) ?_
        exact I2 (x2 + (1 : Int32)) z5 _ _ _ hw hP hD hS (lv_sub hl [1, 2, 0] rfl)
  unfold wpX0_become at hw
  refine lv_iconst (v := (0 : Int32)) hx hb dX0_become_0 (by decide) ?_
  refine lv_istore_n (lv' := [(2, .int (0 : Int32)), (0, .ref (h 0)), (1, .ref (g 0))]) hx hb dX0_become_1 rfl hl (by decide) rfl (fun ls hl => ?_)
  obtain ⟨j2, hw⟩ := hw
  exact B2 j2 (0 : Int32) z0 _ _ _ hw hP hD hS (lv_sub hl [1, 2, 0] rfl)
def wpX0_areFoes (x1 : Int32) (x2 : Int32) (z0 : wSt) (post : Int32 → Prop) : Prop := (wpX0_has x1 z0 (fun r1 => ((r1 = 0 → (post (0 : Int32))) ∧ (¬ r1 = 0 → (wpX0_has x2 z0 (fun r2 => ((r2 = 0 → (post (0 : Int32))) ∧ (¬ r2 = 0 → (vp_in x1 6 ∧ ((¬ ((((w_a z0 3) x1.toNatClampNeg) >>> (x2 &&& 31)) &&& (1 : Int32)) = (1 : Int32) → (post (0 : Int32))) ∧ (((((w_a z0 3) x1.toNatClampNeg) >>> (x2 &&& 31)) &&& (1 : Int32)) = (1 : Int32) → (post (1 : Int32)))))))))))))
set_option maxHeartbeats 4000000 in
set_option maxRecDepth 100000 in
theorem cX0_areFoes_c {l : Launch} {G : wG} {h : Nat → Nat} {x1 : Int32} {x2 : Int32} {post : Int32 → Prop} {z0 : wSt}  (hw : wpX0_areFoes x1 x2 z0 post) : Met l yX0_areFoes (.code yX0_areFoes cX0_areFoes 3 (some .boolean) :: BIG) { frames := 1, cells := 0, slots := 0, locals := 21 } (xPr G [.ref (h 0), .int x1, .int x2] (wsFolk G h z0)) (vp_Si post) 0 0 (fun _ => False) := by
  refine xm_rz (by decide) (Nat.le_of_ble_eq_true rfl) (fun p e s m args below meth c ls R Q hC hK hP hl hF hL hret => ?_)
  have hx := hC.1
  have hb := hC.2.1
  have hl : lv_has ls 3 [(0, .ref (h 0)), (1, .int x1), (2, .int x2)] := hl
  unfold wpX0_areFoes at hw
  refine lv_aload_n hx hb dX0_areFoes_0 rfl (lv_at hl 0 rfl) ?_
  refine lv_iload_n hx hb dX0_areFoes_1 rfl (lv_at hl 1 rfl) ?_
  refine vp_callSi (xro (xr_V hC (cX0_has_c (h := h) hw) ⟨rfl, rfl⟩ bw_247 calX0_has ⟨Nat.le_trans (Nat.le_of_ble_eq_true rfl) hF, Nat.le_trans (Nat.le_of_ble_eq_true rfl) hL⟩ (rest := []) (xpR hK hP rfl rfl) rfl hl rfl (Nat.le_of_ble_eq_true rfl) dX0_areFoes_2 ⟨Nat.zero_le _, Nat.zero_le _⟩)) (fun r1 hw => ?_)
  refine lv_if_eq (tgt := 34) hx hb dX0_areFoes_5 (by decide) (fun hc => ?_) (fun hc => ?_)
  · have hw := And.left hw hc
    refine lv_iconst (v := (0 : Int32)) hx hb dX0_areFoes_34 (by decide) ?_
    exact hret _ _ _ rfl hw dX0_areFoes_35
  · have hw := And.right hw hc
    refine lv_aload_n hx hb dX0_areFoes_8 rfl (lv_at hl 0 rfl) ?_
    refine lv_iload_n hx hb dX0_areFoes_9 rfl (lv_at hl 2 rfl) ?_
    refine vp_callSi (xro (xr_V hC (cX0_has_c (h := h) hw) ⟨rfl, rfl⟩ bw_247 calX0_has ⟨Nat.le_trans (Nat.le_of_ble_eq_true rfl) hF, Nat.le_trans (Nat.le_of_ble_eq_true rfl) hL⟩ (rest := []) (xpR hK hP rfl rfl) rfl hl rfl (Nat.le_of_ble_eq_true rfl) dX0_areFoes_10 ⟨Nat.zero_le _, Nat.zero_le _⟩)) (fun r2 hw => ?_)
    refine lv_if_eq (tgt := 34) hx hb dX0_areFoes_13 (by decide) (fun hc => ?_) (fun hc => ?_)
    · have hw := And.left hw hc
      refine lv_iconst (v := (0 : Int32)) hx hb dX0_areFoes_34 (by decide) ?_
      exact hret _ _ _ rfl hw dX0_areFoes_35
    · have hw := And.right hw hc
      refine lv_aload_n hx hb dX0_areFoes_16 rfl (lv_at hl 0 rfl) ?_
      refine rg_F_X0_0_3 hC hK hP dX0_areFoes_17 ?_
      refine lv_iload_n hx hb dX0_areFoes_20 rfl (lv_at hl 1 rfl) ?_
      refine rl_F_4 hC hK hP (And.left hw) dX0_areFoes_21 ?_
      have hw := And.right hw
      refine lv_iload_n hx hb dX0_areFoes_22 rfl (lv_at hl 2 rfl) ?_
      refine lv_ishr hx hb dX0_areFoes_23 ?_
      refine lv_iconst (v := (1 : Int32)) hx hb dX0_areFoes_24 (by decide) ?_
      refine lv_iand hx hb dX0_areFoes_25 ?_
      refine lv_iconst (v := (1 : Int32)) hx hb dX0_areFoes_26 (by decide) ?_
      refine lv_icmp_ne (tgt := 34) hx hb dX0_areFoes_27 (by decide) (fun hc => ?_) (fun hc => ?_)
      · have hw := And.left hw hc
        refine lv_iconst (v := (0 : Int32)) hx hb dX0_areFoes_34 (by decide) ?_
        exact hret _ _ _ rfl hw dX0_areFoes_35
      · have hw := And.right hw hc
        refine lv_iconst (v := (1 : Int32)) hx hb dX0_areFoes_30 (by decide) ?_
        refine lv_goto (tgt := 35) hx hb dX0_areFoes_31 (by decide) ?_
        exact hret _ _ _ rfl hw dX0_areFoes_35
def wpX0_makeFoes_86  (post : (wSt) → Prop) (t0 : Int32) (t1 : Int32) (z0 : wSt) : Prop := (vp_in t1 6 ∧ ∀ z1 : wSt, z1 = (w_sa z0 3 (upd (w_a z0 3) t1.toNatClampNeg t0)) → (post z1))
def wpX0_makeFoes_51  (post : (wSt) → Prop) (x1 : Int32) (x2 : Int32) (x3 : Int32) (t0 : Int32) (t1 : Int32) (z0 : wSt) : Prop := (vp_in t1 6 ∧ ∀ z1 : wSt, z1 = (w_sa z0 3 (upd (w_a z0 3) t1.toNatClampNeg t0)) → ((x3 = 0 → (vp_in x2 6 ∧ (wpX0_makeFoes_86  post (((w_a z1 3) x2.toNatClampNeg) &&& (((1 : Int32) <<< (x1 &&& 31)) ^^^ (-1 : Int32))) x2 z1))) ∧ (¬ x3 = 0 → (vp_in x2 6 ∧ (wpX0_makeFoes_86  post (((w_a z1 3) x2.toNatClampNeg) ||| ((1 : Int32) <<< (x1 &&& 31))) x2 z1)))))
def wpX0_makeFoes (x1 : Int32) (x2 : Int32) (x3 : Int32) (z0 : wSt) (post : (wSt) → Prop) : Prop := (wpX0_has x1 z0 (fun r1 => ((r1 = 0 → (post z0)) ∧ (¬ r1 = 0 → (wpX0_has x2 z0 (fun r2 => ((¬ r2 = 0 → ((x3 = 0 → (vp_in x1 6 ∧ (wpX0_makeFoes_51  post x1 x2 x3 (((w_a z0 3) x1.toNatClampNeg) &&& (((1 : Int32) <<< (x2 &&& 31)) ^^^ (-1 : Int32))) x1 z0))) ∧ (¬ x3 = 0 → (vp_in x1 6 ∧ (wpX0_makeFoes_51  post x1 x2 x3 (((w_a z0 3) x1.toNatClampNeg) ||| ((1 : Int32) <<< (x2 &&& 31))) x1 z0))))) ∧ (r2 = 0 → (post z0)))))))))
set_option maxHeartbeats 4000000 in
set_option maxRecDepth 100000 in
theorem cX0_makeFoes_c {l : Launch} {G : wG} {h : Nat → Nat} {sz : Nat} {x1 : Int32} {x2 : Int32} {x3 : Int32} {post : (wSt) → Prop} {z0 : wSt}  (hw : wpX0_makeFoes x1 x2 x3 z0 post) : Met l yX0_makeFoes (.code yX0_makeFoes cX0_makeFoes 4 none :: BIG) { frames := 1, cells := 0, slots := 0, locals := 21 } (xPw G [.ref (h 0), .int x1, .int x2, .int x3] (wsFolk G h z0) sz) (xQv G post (fun q => (wsFolk G h q)) (va_A (wsFolk G h z0) sz)) 0 0 (va_A (wsFolk G h z0) sz) := by
  refine xm_wv (by decide) (Nat.le_of_ble_eq_true rfl) (fun p e s m args below meth c A ls R Q hC hK hA hP hD hS hl hF hL hret => ?_)
  have hx := hC.1
  have hb := hC.2.1
  have hl : lv_has ls 4 [(0, .ref (h 0)), (1, .int x1), (2, .int x2), (3, .int x3)] := hl
  have B86 : ∀ (t0 : Int32) (t1 : Int32) (z0 : wSt) (H : Heap) (locs : List Loc) (ls : Array Slot), wpX0_makeFoes_86  post t0 t1 z0 → va_P G.1 vwCl (wsFolk G h z0) H → va_D A (wsFolk G h z0) → va_S A s.heap H locs → lv_has ls 4 [] → W p l e R s m args below meth c H locs 0 0 Q (F0 m 86 ls [.int t0, .int t1, .ref (h 4)]) := by
    intro t0 t1 z0 H locs ls hw hP hD hS hl
    unfold wpX0_makeFoes_86 at hw
    refine rs_F_4 hC hK hP hD hS (And.left hw) dX0_makeFoes_86 (fun z1 H locs hz1 hP hD hS => ?_)
    have hw := And.right hw z1 hz1
    exact hret _ _ _ _ _ hw hP hD hS dX0_makeFoes_87
  have B51 : ∀ (x1 : Int32) (x2 : Int32) (x3 : Int32) (t0 : Int32) (t1 : Int32) (z0 : wSt) (H : Heap) (locs : List Loc) (ls : Array Slot), wpX0_makeFoes_51  post x1 x2 x3 t0 t1 z0 → va_P G.1 vwCl (wsFolk G h z0) H → va_D A (wsFolk G h z0) → va_S A s.heap H locs → lv_has ls 4 [(0, .ref (h 0)), (1, .int x1), (2, .int x2), (3, .int x3)] → W p l e R s m args below meth c H locs 0 0 Q (F0 m 51 ls [.int t0, .int t1, .ref (h 4)]) := by
    intro x1 x2 x3 t0 t1 z0 H locs ls hw hP hD hS hl
    unfold wpX0_makeFoes_51 at hw
    refine rs_F_4 hC hK hP hD hS (And.left hw) dX0_makeFoes_51 (fun z1 H locs hz1 hP hD hS => ?_)
    have hw := And.right hw z1 hz1
    refine lv_aload_n hx hb dX0_makeFoes_52 rfl (lv_at hl 0 rfl) ?_
    refine rg_F_X0_0_3 hC hK hP dX0_makeFoes_53 ?_
    refine lv_iload_n hx hb dX0_makeFoes_56 rfl (lv_at hl 2 rfl) ?_
    refine lv_iload_n hx hb dX0_makeFoes_57 rfl (lv_at hl 3 rfl) ?_
    refine lv_if_eq (tgt := 74) hx hb dX0_makeFoes_58 (by decide) (fun hc => ?_) (fun hc => ?_)
    · have hw := And.left hw hc
      refine lv_aload_n hx hb dX0_makeFoes_74 rfl (lv_at hl 0 rfl) ?_
      refine rg_F_X0_0_3 hC hK hP dX0_makeFoes_75 ?_
      refine lv_iload_n hx hb dX0_makeFoes_78 rfl (lv_at hl 2 rfl) ?_
      refine rl_F_4 hC hK hP (And.left hw) dX0_makeFoes_79 ?_
      have hw := And.right hw
      refine lv_iconst (v := (1 : Int32)) hx hb dX0_makeFoes_80 (by decide) ?_
      refine lv_iload_n hx hb dX0_makeFoes_81 rfl (lv_at hl 1 rfl) ?_
      refine lv_ishl hx hb dX0_makeFoes_82 ?_
      refine lv_iconst (v := (-1 : Int32)) hx hb dX0_makeFoes_83 (by decide) ?_
      refine lv_ixor hx hb dX0_makeFoes_84 ?_
      refine lv_iand hx hb dX0_makeFoes_85 ?_
      exact B86 (((w_a z1 3) x2.toNatClampNeg) &&& (((1 : Int32) <<< (x1 &&& 31)) ^^^ (-1 : Int32))) x2 z1 _ _ _ hw hP hD hS (lv_sub hl [] rfl)
    · have hw := And.right hw hc
      refine lv_aload_n hx hb dX0_makeFoes_61 rfl (lv_at hl 0 rfl) ?_
      refine rg_F_X0_0_3 hC hK hP dX0_makeFoes_62 ?_
      refine lv_iload_n hx hb dX0_makeFoes_65 rfl (lv_at hl 2 rfl) ?_
      refine rl_F_4 hC hK hP (And.left hw) dX0_makeFoes_66 ?_
      have hw := And.right hw
      refine lv_iconst (v := (1 : Int32)) hx hb dX0_makeFoes_67 (by decide) ?_
      refine lv_iload_n hx hb dX0_makeFoes_68 rfl (lv_at hl 1 rfl) ?_
      refine lv_ishl hx hb dX0_makeFoes_69 ?_
      refine lv_ior hx hb dX0_makeFoes_70 ?_
      refine lv_goto (tgt := 86) hx hb dX0_makeFoes_71 (by decide) ?_
      exact B86 (((w_a z1 3) x2.toNatClampNeg) ||| ((1 : Int32) <<< (x1 &&& 31))) x2 z1 _ _ _ hw hP hD hS (lv_sub hl [] rfl)
  unfold wpX0_makeFoes at hw
  refine lv_aload_n hx hb dX0_makeFoes_0 rfl (lv_at hl 0 rfl) ?_
  refine lv_iload_n hx hb dX0_makeFoes_1 rfl (lv_at hl 1 rfl) ?_
  refine vp_callSi (xro (xr_V hC (cX0_has_c (h := h) hw) ⟨rfl, rfl⟩ bw_247 calX0_has ⟨Nat.le_trans (Nat.le_of_ble_eq_true rfl) hF, Nat.le_trans (Nat.le_of_ble_eq_true rfl) hL⟩ (rest := []) (xpR hK hP rfl rfl) rfl hl rfl (Nat.le_of_ble_eq_true rfl) dX0_makeFoes_2 ⟨Nat.zero_le _, Nat.zero_le _⟩)) (fun r1 hw => ?_)
  refine lv_if_eq (tgt := 16) hx hb dX0_makeFoes_5 (by decide) (fun hc => ?_) (fun hc => ?_)
  · have hw := And.left hw hc
    exact hret _ _ _ _ _ hw hP hD hS dX0_makeFoes_16
  · have hw := And.right hw hc
    refine lv_aload_n hx hb dX0_makeFoes_8 rfl (lv_at hl 0 rfl) ?_
    refine lv_iload_n hx hb dX0_makeFoes_9 rfl (lv_at hl 2 rfl) ?_
    refine vp_callSi (xro (xr_V hC (cX0_has_c (h := h) hw) ⟨rfl, rfl⟩ bw_247 calX0_has ⟨Nat.le_trans (Nat.le_of_ble_eq_true rfl) hF, Nat.le_trans (Nat.le_of_ble_eq_true rfl) hL⟩ (rest := []) (xpR hK hP rfl rfl) rfl hl rfl (Nat.le_of_ble_eq_true rfl) dX0_makeFoes_10 ⟨Nat.zero_le _, Nat.zero_le _⟩)) (fun r2 hw => ?_)
    refine lv_if_ne (tgt := 17) hx hb dX0_makeFoes_13 (by decide) (fun hc => ?_) (fun hc => ?_)
    · have hw := And.left hw hc
      refine lv_aload_n hx hb dX0_makeFoes_17 rfl (lv_at hl 0 rfl) ?_
      refine rg_F_X0_0_3 hC hK hP dX0_makeFoes_18 ?_
      refine lv_iload_n hx hb dX0_makeFoes_21 rfl (lv_at hl 1 rfl) ?_
      refine lv_iload_n hx hb dX0_makeFoes_22 rfl (lv_at hl 3 rfl) ?_
      refine lv_if_eq (tgt := 39) hx hb dX0_makeFoes_23 (by decide) (fun hc => ?_) (fun hc => ?_)
      · have hw := And.left hw hc
        refine lv_aload_n hx hb dX0_makeFoes_39 rfl (lv_at hl 0 rfl) ?_
        refine rg_F_X0_0_3 hC hK hP dX0_makeFoes_40 ?_
        refine lv_iload_n hx hb dX0_makeFoes_43 rfl (lv_at hl 1 rfl) ?_
        refine rl_F_4 hC hK hP (And.left hw) dX0_makeFoes_44 ?_
        have hw := And.right hw
        refine lv_iconst (v := (1 : Int32)) hx hb dX0_makeFoes_45 (by decide) ?_
        refine lv_iload_n hx hb dX0_makeFoes_46 rfl (lv_at hl 2 rfl) ?_
        refine lv_ishl hx hb dX0_makeFoes_47 ?_
        refine lv_iconst (v := (-1 : Int32)) hx hb dX0_makeFoes_48 (by decide) ?_
        refine lv_ixor hx hb dX0_makeFoes_49 ?_
        refine lv_iand hx hb dX0_makeFoes_50 ?_
        exact B51 x1 x2 x3 (((w_a z0 3) x1.toNatClampNeg) &&& (((1 : Int32) <<< (x2 &&& 31)) ^^^ (-1 : Int32))) x1 z0 _ _ _ hw hP hD hS (lv_sub hl [0, 1, 2, 3] rfl)
      · have hw := And.right hw hc
        refine lv_aload_n hx hb dX0_makeFoes_26 rfl (lv_at hl 0 rfl) ?_
        refine rg_F_X0_0_3 hC hK hP dX0_makeFoes_27 ?_
        refine lv_iload_n hx hb dX0_makeFoes_30 rfl (lv_at hl 1 rfl) ?_
        refine rl_F_4 hC hK hP (And.left hw) dX0_makeFoes_31 ?_
        have hw := And.right hw
        refine lv_iconst (v := (1 : Int32)) hx hb dX0_makeFoes_32 (by decide) ?_
        refine lv_iload_n hx hb dX0_makeFoes_33 rfl (lv_at hl 2 rfl) ?_
        refine lv_ishl hx hb dX0_makeFoes_34 ?_
        refine lv_ior hx hb dX0_makeFoes_35 ?_
        refine lv_goto (tgt := 51) hx hb dX0_makeFoes_36 (by decide) ?_
        exact B51 x1 x2 x3 (((w_a z0 3) x1.toNatClampNeg) ||| ((1 : Int32) <<< (x2 &&& 31))) x1 z0 _ _ _ hw hP hD hS (lv_sub hl [0, 1, 2, 3] rfl)
    · have hw := And.right hw hc
      exact hret _ _ _ _ _ hw hP hD hS dX0_makeFoes_16
def wpX0_pailsAt_29  (z0 : wSt) (post : Int32 → Prop) (x2 : Int32) (x3 : Int32) : Prop := (post (if (0 : Int32) < (if (x3 + x2) < (9 : Int32) then (x3 + x2) else (9 : Int32)) then (if (x3 + x2) < (9 : Int32) then (x3 + x2) else (9 : Int32)) else (0 : Int32)))
def wpX0_pailsAt (x1 : Int32) (x2 : Int32) (z0 : wSt) (post : Int32 → Prop) : Prop := (vp_in x1 6 ∧ ((¬ ((w_a z0 0) x1.toNatClampNeg) = (1 : Int32) → (vp_in x1 6 ∧ ((¬ ((w_a z0 0) x1.toNatClampNeg) = (3 : Int32) → (wpX0_pailsAt_29  z0 post x2 (4 : Int32))) ∧ (((w_a z0 0) x1.toNatClampNeg) = (3 : Int32) → (wpX0_pailsAt_29  z0 post x2 (2 : Int32)))))) ∧ (((w_a z0 0) x1.toNatClampNeg) = (1 : Int32) → (wpX0_pailsAt_29  z0 post x2 (5 : Int32)))))
set_option maxHeartbeats 4000000 in
set_option maxRecDepth 100000 in
theorem cX0_pailsAt_c {l : Launch} {G : wG} {h : Nat → Nat} {x1 : Int32} {x2 : Int32} {post : Int32 → Prop} {z0 : wSt}  (hw : wpX0_pailsAt x1 x2 z0 post) : Met l yX0_pailsAt (.code yX0_pailsAt cX0_pailsAt 4 (some .int) :: BIG) { frames := 1, cells := 0, slots := 0, locals := 21 } (xPr G [.ref (h 0), .int x1, .int x2] (wsFolk G h z0)) (vp_Si post) 0 0 (fun _ => False) := by
  refine xm_ri (by decide) (Nat.le_of_ble_eq_true rfl) (fun p e s m args below meth c ls R Q hC hK hP hl hF hL hret => ?_)
  have hx := hC.1
  have hb := hC.2.1
  have hl : lv_has ls 4 [(0, .ref (h 0)), (1, .int x1), (2, .int x2)] := hl
  have B29 : ∀ (x2 : Int32) (x3 : Int32) (ls : Array Slot), wpX0_pailsAt_29  z0 post x2 x3 → lv_has ls 4 [(2, .int x2), (3, .int x3)] → W p l e R s m args below meth c s.heap [] 0 0 Q (F0 m 29 ls []) := by
    intro x2 x3 ls hw hl
    unfold wpX0_pailsAt_29 at hw
    refine lv_iconst (v := (0 : Int32)) hx hb dX0_pailsAt_29 (by decide) ?_
    refine lv_bipush (v := (9 : Int32)) hx hb dX0_pailsAt_30 (by decide) ?_
    refine lv_iload_n hx hb dX0_pailsAt_32 rfl (lv_at hl 1 rfl) ?_
    refine lv_iload_n hx hb dX0_pailsAt_33 rfl (lv_at hl 0 rfl) ?_
    refine lv_iadd hx hb dX0_pailsAt_34 ?_
    refine va_mmin hx hb (hC.2.2.1.trans hl.1.symm) hC.2.2.2.1 (hC.2.2.2.2 _ bw_368) (hC.2.2.2.2 _ bw_328) (hC.2.2.2.2 _ bw_8) (hC.2.2.2.2 _ bw_code_min) (Nat.le_trans (Nat.le_of_ble_eq_true rfl) hF) (Nat.le_trans (Nat.le_of_ble_eq_true rfl) hL) (Nat.zero_le _) (Nat.zero_le _) dX0_pailsAt_35 ?_
    refine va_mmax hx hb (hC.2.2.1.trans hl.1.symm) hC.2.2.2.1 (hC.2.2.2.2 _ bw_369) (hC.2.2.2.2 _ bw_370) (hC.2.2.2.2 _ bw_8) (hC.2.2.2.2 _ bw_code_max) (Nat.le_trans (Nat.le_of_ble_eq_true rfl) hF) (Nat.le_trans (Nat.le_of_ble_eq_true rfl) hL) (Nat.zero_le _) (Nat.zero_le _) dX0_pailsAt_38 ?_
    exact hret _ _ _ hw dX0_pailsAt_41
  unfold wpX0_pailsAt at hw
  refine lv_iconst (v := (4 : Int32)) hx hb dX0_pailsAt_0 (by decide) ?_
  refine lv_istore_n (lv' := [(3, .int (4 : Int32)), (0, .ref (h 0)), (1, .int x1), (2, .int x2)]) hx hb dX0_pailsAt_1 rfl hl (by decide) rfl (fun ls hl => ?_)
  refine lv_aload_n hx hb dX0_pailsAt_2 rfl (lv_at hl 1 rfl) ?_
  refine rg_F_X0_0_0 hC hK hP dX0_pailsAt_3 ?_
  refine lv_iload_n hx hb dX0_pailsAt_6 rfl (lv_at hl 2 rfl) ?_
  refine rl_F_1 hC hK hP (And.left hw) dX0_pailsAt_7 ?_
  have hw := And.right hw
  refine lv_iconst (v := (1 : Int32)) hx hb dX0_pailsAt_8 (by decide) ?_
  refine lv_icmp_ne (tgt := 17) hx hb dX0_pailsAt_9 (by decide) (fun hc => ?_) (fun hc => ?_)
  · have hw := And.left hw hc
    refine lv_aload_n hx hb dX0_pailsAt_17 rfl (lv_at hl 1 rfl) ?_
    refine rg_F_X0_0_0 hC hK hP dX0_pailsAt_18 ?_
    refine lv_iload_n hx hb dX0_pailsAt_21 rfl (lv_at hl 2 rfl) ?_
    refine rl_F_1 hC hK hP (And.left hw) dX0_pailsAt_22 ?_
    have hw := And.right hw
    refine lv_iconst (v := (3 : Int32)) hx hb dX0_pailsAt_23 (by decide) ?_
    refine lv_icmp_ne (tgt := 29) hx hb dX0_pailsAt_24 (by decide) (fun hc => ?_) (fun hc => ?_)
    · have hw := And.left hw hc
      exact B29 x2 (4 : Int32) _ hw (lv_sub hl [3, 0] rfl)
    · have hw := And.right hw hc
      refine lv_iconst (v := (2 : Int32)) hx hb dX0_pailsAt_27 (by decide) ?_
      refine lv_istore_n (lv' := [(3, .int (2 : Int32)), (0, .ref (h 0)), (1, .int x1), (2, .int x2)]) hx hb dX0_pailsAt_28 rfl hl (by decide) rfl (fun ls hl => ?_)
      exact B29 x2 (2 : Int32) _ hw (lv_sub hl [3, 0] rfl)
  · have hw := And.right hw hc
    refine lv_iconst (v := (5 : Int32)) hx hb dX0_pailsAt_12 (by decide) ?_
    refine lv_istore_n (lv' := [(3, .int (5 : Int32)), (0, .ref (h 0)), (1, .int x1), (2, .int x2)]) hx hb dX0_pailsAt_13 rfl hl (by decide) rfl (fun ls hl => ?_)
    refine lv_goto (tgt := 29) hx hb dX0_pailsAt_14 (by decide) ?_
    exact B29 x2 (5 : Int32) _ hw (lv_sub hl [3, 0] rfl)
def wpX0_pailsBehind (x1 : Int32) (x2 : Int32) (x3 : Int32) (x4 : Int32) (z0 : wSt) (post : Int32 → Prop) : Prop := (wpX0_areFoes x1 x2 z0 (fun r1 => ((r1 = 0 → (wpX0_pailsAt x2 x3 z0 (fun r2 => (post (if r2 < x4 then r2 else x4))))) ∧ (¬ r1 = 0 → (post (0 : Int32))))))
set_option maxHeartbeats 4000000 in
set_option maxRecDepth 100000 in
theorem cX0_pailsBehind_c {l : Launch} {G : wG} {h : Nat → Nat} {x1 : Int32} {x2 : Int32} {x3 : Int32} {x4 : Int32} {post : Int32 → Prop} {z0 : wSt}  (hw : wpX0_pailsBehind x1 x2 x3 x4 z0 post) : Met l yX0_pailsBehind (.code yX0_pailsBehind cX0_pailsBehind 5 (some .int) :: BIG) { frames := 2, cells := 0, slots := 0, locals := 44 } (xPr G [.ref (h 0), .int x1, .int x2, .int x3, .int x4] (wsFolk G h z0)) (vp_Si post) 0 0 (fun _ => False) := by
  refine xm_ri (by decide) (Nat.le_of_ble_eq_true rfl) (fun p e s m args below meth c ls R Q hC hK hP hl hF hL hret => ?_)
  have hx := hC.1
  have hb := hC.2.1
  have hl : lv_has ls 5 [(0, .ref (h 0)), (1, .int x1), (2, .int x2), (3, .int x3), (4, .int x4)] := hl
  unfold wpX0_pailsBehind at hw
  refine lv_aload_n hx hb dX0_pailsBehind_0 rfl (lv_at hl 0 rfl) ?_
  refine lv_iload_n hx hb dX0_pailsBehind_1 rfl (lv_at hl 1 rfl) ?_
  refine lv_iload_n hx hb dX0_pailsBehind_2 rfl (lv_at hl 2 rfl) ?_
  refine vp_callSi (xro (xr_V hC (cX0_areFoes_c (h := h) hw) ⟨rfl, rfl⟩ bw_363 calX0_areFoes ⟨Nat.le_trans (Nat.le_of_ble_eq_true rfl) hF, Nat.le_trans (Nat.le_of_ble_eq_true rfl) hL⟩ (rest := []) (xpR hK hP rfl rfl) rfl hl rfl (Nat.le_of_ble_eq_true rfl) dX0_pailsBehind_3 ⟨Nat.zero_le _, Nat.zero_le _⟩)) (fun r1 hw => ?_)
  refine lv_if_eq (tgt := 13) hx hb dX0_pailsBehind_6 (by decide) (fun hc => ?_) (fun hc => ?_)
  · have hw := And.left hw hc
    refine lv_iload hx hb dX0_pailsBehind_13 (lv_at hl 4 rfl) ?_
    refine lv_aload_n hx hb dX0_pailsBehind_15 rfl (lv_at hl 0 rfl) ?_
    refine lv_iload_n hx hb dX0_pailsBehind_16 rfl (lv_at hl 2 rfl) ?_
    refine lv_iload_n hx hb dX0_pailsBehind_17 rfl (lv_at hl 3 rfl) ?_
    refine vp_callSi (xro (xr_V hC (cX0_pailsAt_c (h := h) hw) ⟨rfl, rfl⟩ bw_364 calX0_pailsAt ⟨Nat.le_trans (Nat.le_of_ble_eq_true rfl) hF, Nat.le_trans (Nat.le_of_ble_eq_true rfl) hL⟩ (rest := [.int x4]) (xpR hK hP rfl rfl) rfl hl rfl (Nat.le_of_ble_eq_true rfl) dX0_pailsBehind_18 ⟨Nat.zero_le _, Nat.zero_le _⟩)) (fun r2 hw => ?_)
    refine va_mmin hx hb (hC.2.2.1.trans hl.1.symm) hC.2.2.2.1 (hC.2.2.2.2 _ bw_368) (hC.2.2.2.2 _ bw_328) (hC.2.2.2.2 _ bw_8) (hC.2.2.2.2 _ bw_code_min) (Nat.le_trans (Nat.le_of_ble_eq_true rfl) hF) (Nat.le_trans (Nat.le_of_ble_eq_true rfl) hL) (Nat.zero_le _) (Nat.zero_le _) dX0_pailsBehind_21 ?_
    exact hret _ _ _ hw dX0_pailsBehind_24
  · have hw := And.right hw hc
    refine lv_iconst (v := (0 : Int32)) hx hb dX0_pailsBehind_9 (by decide) ?_
    refine lv_goto (tgt := 24) hx hb dX0_pailsBehind_10 (by decide) ?_
    exact hret _ _ _ hw dX0_pailsBehind_24
def wpX0_isSweet_23  (z0 : wSt) (post : Int32 → Prop)  : Prop := (post (1 : Int32))
def wpX0_isSweet (x1 : Int32) (x2 : Int32) (z0 : wSt) (post : Int32 → Prop) : Prop := (vp_in x1 6 ∧ ((((w_a z0 0) x1.toNatClampNeg) = (1 : Int32) → (wpX0_isSweet_23  z0 post )) ∧ (¬ ((w_a z0 0) x1.toNatClampNeg) = (1 : Int32) → (vp_in x1 6 ∧ ((¬ ((w_a z0 0) x1.toNatClampNeg) = 0 → (post (0 : Int32))) ∧ (((w_a z0 0) x1.toNatClampNeg) = 0 → ((x2 < 0 → (post (0 : Int32))) ∧ (¬ x2 < 0 → (wpX0_isSweet_23  z0 post )))))))))
set_option maxHeartbeats 4000000 in
set_option maxRecDepth 100000 in
theorem cX0_isSweet_c {l : Launch} {G : wG} {h : Nat → Nat} {x1 : Int32} {x2 : Int32} {post : Int32 → Prop} {z0 : wSt}  (hw : wpX0_isSweet x1 x2 z0 post) : Met l yX0_isSweet (.code yX0_isSweet cX0_isSweet 3 (some .boolean) :: BIG) { frames := 0, cells := 0, slots := 0, locals := 0 } (xPr G [.ref (h 0), .int x1, .int x2] (wsFolk G h z0)) (vp_Si post) 0 0 (fun _ => False) := by
  refine xm_rz (by decide) (Nat.le_of_ble_eq_true rfl) (fun p e s m args below meth c ls R Q hC hK hP hl hF hL hret => ?_)
  have hx := hC.1
  have hb := hC.2.1
  have hl : lv_has ls 3 [(0, .ref (h 0)), (1, .int x1), (2, .int x2)] := hl
  have B23 : ∀  (ls : Array Slot), wpX0_isSweet_23  z0 post  → lv_has ls 3 [] → W p l e R s m args below meth c s.heap [] 0 0 Q (F0 m 23 ls []) := by
    intro  ls hw hl
    unfold wpX0_isSweet_23 at hw
    refine lv_iconst (v := (1 : Int32)) hx hb dX0_isSweet_23 (by decide) ?_
    refine lv_goto (tgt := 28) hx hb dX0_isSweet_24 (by decide) ?_
    exact hret _ _ _ rfl hw dX0_isSweet_28
  unfold wpX0_isSweet at hw
  refine lv_aload_n hx hb dX0_isSweet_0 rfl (lv_at hl 0 rfl) ?_
  refine rg_F_X0_0_0 hC hK hP dX0_isSweet_1 ?_
  refine lv_iload_n hx hb dX0_isSweet_4 rfl (lv_at hl 1 rfl) ?_
  refine rl_F_1 hC hK hP (And.left hw) dX0_isSweet_5 ?_
  have hw := And.right hw
  refine lv_iconst (v := (1 : Int32)) hx hb dX0_isSweet_6 (by decide) ?_
  refine lv_icmp_eq (tgt := 23) hx hb dX0_isSweet_7 (by decide) (fun hc => ?_) (fun hc => ?_)
  · have hw := And.left hw hc
    exact B23  _ hw (lv_sub hl [] rfl)
  · have hw := And.right hw hc
    refine lv_aload_n hx hb dX0_isSweet_10 rfl (lv_at hl 0 rfl) ?_
    refine rg_F_X0_0_0 hC hK hP dX0_isSweet_11 ?_
    refine lv_iload_n hx hb dX0_isSweet_14 rfl (lv_at hl 1 rfl) ?_
    refine rl_F_1 hC hK hP (And.left hw) dX0_isSweet_15 ?_
    have hw := And.right hw
    refine lv_if_ne (tgt := 27) hx hb dX0_isSweet_16 (by decide) (fun hc => ?_) (fun hc => ?_)
    · have hw := And.left hw hc
      refine lv_iconst (v := (0 : Int32)) hx hb dX0_isSweet_27 (by decide) ?_
      exact hret _ _ _ rfl hw dX0_isSweet_28
    · have hw := And.right hw hc
      refine lv_iload_n hx hb dX0_isSweet_19 rfl (lv_at hl 2 rfl) ?_
      refine lv_if_lt (tgt := 27) hx hb dX0_isSweet_20 (by decide) (fun hc => ?_) (fun hc => ?_)
      · have hw := And.left hw hc
        refine lv_iconst (v := (0 : Int32)) hx hb dX0_isSweet_27 (by decide) ?_
        exact hret _ _ _ rfl hw dX0_isSweet_28
      · have hw := And.right hw hc
        exact B23  _ hw (lv_sub hl [] rfl)
def wpX5_asMood (x0 : Int32) (post : Int32 → Prop) : Prop := (post (if (-9 : Int32) < (if x0 < (9 : Int32) then x0 else (9 : Int32)) then (if x0 < (9 : Int32) then x0 else (9 : Int32)) else (-9 : Int32)))
set_option maxHeartbeats 4000000 in
set_option maxRecDepth 100000 in
theorem cX5_asMood_c {l : Launch} {G : wG} {x0 : Int32} {post : Int32 → Prop}  (hw : wpX5_asMood x0 post) : Met l yX5_asMood (.code yX5_asMood cX5_asMood 1 (some .int) :: BIG) { frames := 1, cells := 0, slots := 0, locals := 21 } (xPr G [.int x0] ([] : va_W)) (vp_Si post) 0 0 (fun _ => False) := by
  refine xm_ri (by decide) (Nat.le_of_ble_eq_true rfl) (fun p e s m args below meth c ls R Q hC hK hP hl hF hL hret => ?_)
  have hx := hC.1
  have hb := hC.2.1
  have hl : lv_has ls 1 [(0, .int x0)] := hl
  unfold wpX5_asMood at hw
  refine lv_bipush (v := (-9 : Int32)) hx hb dX5_asMood_0 (by decide) ?_
  refine lv_bipush (v := (9 : Int32)) hx hb dX5_asMood_2 (by decide) ?_
  refine lv_iload_n hx hb dX5_asMood_4 rfl (lv_at hl 0 rfl) ?_
  refine va_mmin hx hb (hC.2.2.1.trans hl.1.symm) hC.2.2.2.1 (hC.2.2.2.2 _ bw_383) (hC.2.2.2.2 _ bw_328) (hC.2.2.2.2 _ bw_8) (hC.2.2.2.2 _ bw_code_min) (Nat.le_trans (Nat.le_of_ble_eq_true rfl) hF) (Nat.le_trans (Nat.le_of_ble_eq_true rfl) hL) (Nat.zero_le _) (Nat.zero_le _) dX5_asMood_5 ?_
  refine va_mmax hx hb (hC.2.2.1.trans hl.1.symm) hC.2.2.2.1 (hC.2.2.2.2 _ bw_384) (hC.2.2.2.2 _ bw_370) (hC.2.2.2.2 _ bw_8) (hC.2.2.2.2 _ bw_code_max) (Nat.le_trans (Nat.le_of_ble_eq_true rfl) hF) (Nat.le_trans (Nat.le_of_ble_eq_true rfl) hL) (Nat.zero_le _) (Nat.zero_le _) dX5_asMood_8 ?_
  exact hret _ _ _ hw dX5_asMood_11
def wpX0_moodBehind_29  (z0 : wSt) (post : Int32 → Prop) (t0 : Int32) : Prop := (wpX5_asMood t0 (fun r1 => (post r1)))
def wpX0_moodBehind (x1 : Int32) (x2 : Int32) (z0 : wSt) (post : Int32 → Prop) : Prop := (vp_in x1 6 ∧ ((¬ ((w_a z0 0) x1.toNatClampNeg) = (3 : Int32) → (vp_in x1 6 ∧ (wpX0_moodBehind_29  z0 post (x2 + ((w_a z0 1) x1.toNatClampNeg))))) ∧ (((w_a z0 0) x1.toNatClampNeg) = (3 : Int32) → (vp_in x1 6 ∧ (wpX0_moodBehind_29  z0 post (x2 - ((w_a z0 1) x1.toNatClampNeg)))))))
set_option maxHeartbeats 4000000 in
set_option maxRecDepth 100000 in
theorem cX0_moodBehind_c {l : Launch} {G : wG} {h : Nat → Nat} {x1 : Int32} {x2 : Int32} {post : Int32 → Prop} {z0 : wSt}  (hw : wpX0_moodBehind x1 x2 z0 post) : Met l yX0_moodBehind (.code yX0_moodBehind cX0_moodBehind 3 (some .int) :: BIG) { frames := 2, cells := 0, slots := 0, locals := 41 } (xPr G [.ref (h 0), .int x1, .int x2] (wsFolk G h z0)) (vp_Si post) 0 0 (fun _ => False) := by
  refine xm_ri (by decide) (Nat.le_of_ble_eq_true rfl) (fun p e s m args below meth c ls R Q hC hK hP hl hF hL hret => ?_)
  have hx := hC.1
  have hb := hC.2.1
  have hl : lv_has ls 3 [(0, .ref (h 0)), (1, .int x1), (2, .int x2)] := hl
  have B29 : ∀ (t0 : Int32) (ls : Array Slot), wpX0_moodBehind_29  z0 post t0 → lv_has ls 3 [] → W p l e R s m args below meth c s.heap [] 0 0 Q (F0 m 29 ls [.int t0]) := by
    intro t0 ls hw hl
    unfold wpX0_moodBehind_29 at hw
    refine vp_callSi (xro (xr_SN hC hK.2 (cX5_asMood_c hw) ⟨rfl, rfl⟩ bw_380 calX5_asMood ⟨Nat.le_trans (Nat.le_of_ble_eq_true rfl) hF, Nat.le_trans (Nat.le_of_ble_eq_true rfl) hL⟩ (rest := []) (xpS hK) rfl hl rfl (Nat.le_of_ble_eq_true rfl) dX0_moodBehind_29 ⟨Nat.zero_le _, Nat.zero_le _⟩)) (fun r1 hw => ?_)
    exact hret _ _ _ hw dX0_moodBehind_32
  unfold wpX0_moodBehind at hw
  refine lv_aload_n hx hb dX0_moodBehind_0 rfl (lv_at hl 0 rfl) ?_
  refine rg_F_X0_0_0 hC hK hP dX0_moodBehind_1 ?_
  refine lv_iload_n hx hb dX0_moodBehind_4 rfl (lv_at hl 1 rfl) ?_
  refine rl_F_1 hC hK hP (And.left hw) dX0_moodBehind_5 ?_
  have hw := And.right hw
  refine lv_iconst (v := (3 : Int32)) hx hb dX0_moodBehind_6 (by decide) ?_
  refine lv_icmp_ne (tgt := 21) hx hb dX0_moodBehind_7 (by decide) (fun hc => ?_) (fun hc => ?_)
  · have hw := And.left hw hc
    refine lv_iload_n hx hb dX0_moodBehind_21 rfl (lv_at hl 2 rfl) ?_
    refine lv_aload_n hx hb dX0_moodBehind_22 rfl (lv_at hl 0 rfl) ?_
    refine rg_F_X0_0_1 hC hK hP dX0_moodBehind_23 ?_
    refine lv_iload_n hx hb dX0_moodBehind_26 rfl (lv_at hl 1 rfl) ?_
    refine rl_F_2 hC hK hP (And.left hw) dX0_moodBehind_27 ?_
    have hw := And.right hw
    refine lv_iadd hx hb dX0_moodBehind_28 ?_
    exact B29 (x2 + ((w_a z0 1) x1.toNatClampNeg)) _ hw (lv_sub hl [] rfl)
  · have hw := And.right hw hc
    refine lv_iload_n hx hb dX0_moodBehind_10 rfl (lv_at hl 2 rfl) ?_
    refine lv_aload_n hx hb dX0_moodBehind_11 rfl (lv_at hl 0 rfl) ?_
    refine rg_F_X0_0_1 hC hK hP dX0_moodBehind_12 ?_
    refine lv_iload_n hx hb dX0_moodBehind_15 rfl (lv_at hl 1 rfl) ?_
    refine rl_F_2 hC hK hP (And.left hw) dX0_moodBehind_16 ?_
    have hw := And.right hw
    refine lv_isub hx hb dX0_moodBehind_17 ?_
    refine lv_goto (tgt := 29) hx hb dX0_moodBehind_18 (by decide) ?_
    exact B29 (x2 - ((w_a z0 1) x1.toNatClampNeg)) _ hw (lv_sub hl [] rfl)
def wpJ6_compare_7cf53 (x0 : Int32) (x1 : Int32) (post : Int32 → Prop) : Prop := ((x1 ≤ x0 → ((¬ x0 = x1 → (post (1 : Int32))) ∧ (x0 = x1 → (post (0 : Int32))))) ∧ (¬ x1 ≤ x0 → (post (-1 : Int32))))
set_option maxHeartbeats 4000000 in
set_option maxRecDepth 100000 in
theorem cJ6_compare_7cf53_c {l : Launch} {G : wG} {x0 : Int32} {x1 : Int32} {post : Int32 → Prop}  (hw : wpJ6_compare_7cf53 x0 x1 post) : Met l yJ6_compare_7cf53 (.code yJ6_compare_7cf53 cJ6_compare_7cf53 2 (some .int) :: BIG) { frames := 0, cells := 0, slots := 0, locals := 0 } (xPr G [.int x0, .int x1] ([] : va_W)) (vp_Si post) 0 0 (fun _ => False) := by
  refine xm_ri (by decide) (Nat.le_of_ble_eq_true rfl) (fun p e s m args below meth c ls R Q hC hK hP hl hF hL hret => ?_)
  have hx := hC.1
  have hb := hC.2.1
  have hl : lv_has ls 2 [(0, .int x0), (1, .int x1)] := hl
  unfold wpJ6_compare_7cf53 at hw
  refine lv_iload_n hx hb dJ6_compare_7cf53_0 rfl (lv_at hl 0 rfl) ?_
  refine lv_iload_n hx hb dJ6_compare_7cf53_1 rfl (lv_at hl 1 rfl) ?_
  refine lv_icmp_ge (tgt := 9) hx hb dJ6_compare_7cf53_2 (by decide) (fun hc => ?_) (fun hc => ?_)
  · have hw := And.left hw hc
    refine lv_iload_n hx hb dJ6_compare_7cf53_9 rfl (lv_at hl 0 rfl) ?_
    refine lv_iload_n hx hb dJ6_compare_7cf53_10 rfl (lv_at hl 1 rfl) ?_
    refine lv_icmp_ne (tgt := 18) hx hb dJ6_compare_7cf53_11 (by decide) (fun hc => ?_) (fun hc => ?_)
    · have hw := And.left hw hc
      refine lv_iconst (v := (1 : Int32)) hx hb dJ6_compare_7cf53_18 (by decide) ?_
      exact hret _ _ _ hw dJ6_compare_7cf53_19
    · have hw := And.right hw hc
      refine lv_iconst (v := (0 : Int32)) hx hb dJ6_compare_7cf53_14 (by decide) ?_
      refine lv_goto (tgt := 19) hx hb dJ6_compare_7cf53_15 (by decide) ?_
      exact hret _ _ _ hw dJ6_compare_7cf53_19
  · have hw := And.right hw hc
    refine lv_iconst (v := (-1 : Int32)) hx hb dJ6_compare_7cf53_5 (by decide) ?_
    refine lv_goto (tgt := 19) hx hb dJ6_compare_7cf53_6 (by decide) ?_
    exact hret _ _ _ hw dJ6_compare_7cf53_19
def wpX5_waned (x0 : Int32) (post : Int32 → Prop) : Prop := (wpJ6_compare_7cf53 x0 (0 : Int32) (fun r1 => (post (x0 - r1))))
set_option maxHeartbeats 4000000 in
set_option maxRecDepth 100000 in
theorem cX5_waned_c {l : Launch} {G : wG} {x0 : Int32} {post : Int32 → Prop}  (hw : wpX5_waned x0 post) : Met l yX5_waned (.code yX5_waned cX5_waned 1 (some .int) :: BIG) { frames := 1, cells := 0, slots := 0, locals := 21 } (xPr G [.int x0] ([] : va_W)) (vp_Si post) 0 0 (fun _ => False) := by
  refine xm_ri (by decide) (Nat.le_of_ble_eq_true rfl) (fun p e s m args below meth c ls R Q hC hK hP hl hF hL hret => ?_)
  have hx := hC.1
  have hb := hC.2.1
  have hl : lv_has ls 1 [(0, .int x0)] := hl
  unfold wpX5_waned at hw
  refine lv_iload_n hx hb dX5_waned_0 rfl (lv_at hl 0 rfl) ?_
  refine lv_iload_n hx hb dX5_waned_1 rfl (lv_at hl 0 rfl) ?_
  refine lv_iconst (v := (0 : Int32)) hx hb dX5_waned_2 (by decide) ?_
  refine vp_callSi (xro (xr_S hC (cJ6_compare_7cf53_c hw) ⟨rfl, rfl⟩ bw_392 calJ6_compare_7cf53 ⟨Nat.le_trans (Nat.le_of_ble_eq_true rfl) hF, Nat.le_trans (Nat.le_of_ble_eq_true rfl) hL⟩ (rest := [.int x0]) (xpS hK) rfl hl rfl (Nat.le_of_ble_eq_true rfl) dX5_waned_3 ⟨Nat.zero_le _, Nat.zero_le _⟩)) (fun r1 hw => ?_)
  refine lv_isub hx hb dX5_waned_6 ?_
  exact hret _ _ _ hw dX5_waned_7
def wpX5_rained (x0 : Int32) (x1 : Int32) (post : Int32 → Prop) : Prop := (post (if (x0 + x1) < (999 : Int32) then (x0 + x1) else (999 : Int32)))
set_option maxHeartbeats 4000000 in
set_option maxRecDepth 100000 in
theorem cX5_rained_c {l : Launch} {G : wG} {x0 : Int32} {x1 : Int32} {post : Int32 → Prop}  (hw : wpX5_rained x0 x1 post) : Met l yX5_rained (.code yX5_rained cX5_rained 2 (some .int) :: BIG) { frames := 1, cells := 0, slots := 0, locals := 21 } (xPr G [.int x0, .int x1] ([] : va_W)) (vp_Si post) 0 0 (fun _ => False) := by
  refine xm_ri (by decide) (Nat.le_of_ble_eq_true rfl) (fun p e s m args below meth c ls R Q hC hK hP hl hF hL hret => ?_)
  have hx := hC.1
  have hb := hC.2.1
  have hl : lv_has ls 2 [(0, .int x0), (1, .int x1)] := hl
  unfold wpX5_rained at hw
  refine lv_sipush (v := (999 : Int32)) hx hb dX5_rained_0 (by decide) ?_
  refine lv_iload_n hx hb dX5_rained_3 rfl (lv_at hl 0 rfl) ?_
  refine lv_iload_n hx hb dX5_rained_4 rfl (lv_at hl 1 rfl) ?_
  refine lv_iadd hx hb dX5_rained_5 ?_
  refine va_mmin hx hb (hC.2.2.1.trans hl.1.symm) hC.2.2.2.1 (hC.2.2.2.2 _ bw_383) (hC.2.2.2.2 _ bw_328) (hC.2.2.2.2 _ bw_8) (hC.2.2.2.2 _ bw_code_min) (Nat.le_trans (Nat.le_of_ble_eq_true rfl) hF) (Nat.le_trans (Nat.le_of_ble_eq_true rfl) hL) (Nat.zero_le _) (Nat.zero_le _) dX5_rained_6 ?_
  exact hret _ _ _ hw dX5_rained_9
def wpX5_within (x0 : Int32) (x1 : Int32) (x2 : Int32) (post : Int32 → Prop) : Prop := ((x0 < x1 → (post (0 : Int32))) ∧ (¬ x0 < x1 → ((x2 < x0 → (post (0 : Int32))) ∧ (¬ x2 < x0 → (post (1 : Int32))))))
set_option maxHeartbeats 4000000 in
set_option maxRecDepth 100000 in
theorem cX5_within_c {l : Launch} {G : wG} {x0 : Int32} {x1 : Int32} {x2 : Int32} {post : Int32 → Prop}  (hw : wpX5_within x0 x1 x2 post) : Met l yX5_within (.code yX5_within cX5_within 3 (some .boolean) :: BIG) { frames := 0, cells := 0, slots := 0, locals := 0 } (xPr G [.int x0, .int x1, .int x2] ([] : va_W)) (vp_Si post) 0 0 (fun _ => False) := by
  refine xm_rz (by decide) (Nat.le_of_ble_eq_true rfl) (fun p e s m args below meth c ls R Q hC hK hP hl hF hL hret => ?_)
  have hx := hC.1
  have hb := hC.2.1
  have hl : lv_has ls 3 [(0, .int x0), (1, .int x1), (2, .int x2)] := hl
  unfold wpX5_within at hw
  refine lv_iload_n hx hb dX5_within_0 rfl (lv_at hl 0 rfl) ?_
  refine lv_iload_n hx hb dX5_within_1 rfl (lv_at hl 1 rfl) ?_
  refine lv_icmp_lt (tgt := 14) hx hb dX5_within_2 (by decide) (fun hc => ?_) (fun hc => ?_)
  · have hw := And.left hw hc
    refine lv_iconst (v := (0 : Int32)) hx hb dX5_within_14 (by decide) ?_
    exact hret _ _ _ rfl hw dX5_within_15
  · have hw := And.right hw hc
    refine lv_iload_n hx hb dX5_within_5 rfl (lv_at hl 0 rfl) ?_
    refine lv_iload_n hx hb dX5_within_6 rfl (lv_at hl 2 rfl) ?_
    refine lv_icmp_gt (tgt := 14) hx hb dX5_within_7 (by decide) (fun hc => ?_) (fun hc => ?_)
    · have hw := And.left hw hc
      refine lv_iconst (v := (0 : Int32)) hx hb dX5_within_14 (by decide) ?_
      exact hret _ _ _ rfl hw dX5_within_15
    · have hw := And.right hw hc
      refine lv_iconst (v := (1 : Int32)) hx hb dX5_within_10 (by decide) ?_
      refine lv_goto (tgt := 15) hx hb dX5_within_11 (by decide) ?_
      exact hret _ _ _ rfl hw dX5_within_15
def wpX5_isMood (x0 : Int32) (post : Int32 → Prop) : Prop := (wpX5_within x0 (-9 : Int32) (9 : Int32) (fun r1 => (narrow .boolean (.int r1) = .int r1 ∧ post r1)))
set_option maxHeartbeats 4000000 in
set_option maxRecDepth 100000 in
theorem cX5_isMood_c {l : Launch} {G : wG} {x0 : Int32} {post : Int32 → Prop}  (hw : wpX5_isMood x0 post) : Met l yX5_isMood (.code yX5_isMood cX5_isMood 1 (some .boolean) :: BIG) { frames := 1, cells := 0, slots := 0, locals := 22 } (xPr G [.int x0] ([] : va_W)) (vp_Si post) 0 0 (fun _ => False) := by
  refine xm_rz (by decide) (Nat.le_of_ble_eq_true rfl) (fun p e s m args below meth c ls R Q hC hK hP hl hF hL hret => ?_)
  have hx := hC.1
  have hb := hC.2.1
  have hl : lv_has ls 1 [(0, .int x0)] := hl
  unfold wpX5_isMood at hw
  refine lv_iload_n hx hb dX5_isMood_0 rfl (lv_at hl 0 rfl) ?_
  refine lv_bipush (v := (-9 : Int32)) hx hb dX5_isMood_1 (by decide) ?_
  refine lv_bipush (v := (9 : Int32)) hx hb dX5_isMood_3 (by decide) ?_
  refine vp_callSi (xro (xr_S hC (cX5_within_c hw) ⟨rfl, rfl⟩ bw_223 calX5_within ⟨Nat.le_trans (Nat.le_of_ble_eq_true rfl) hF, Nat.le_trans (Nat.le_of_ble_eq_true rfl) hL⟩ (rest := []) (xpS hK) rfl hl rfl (Nat.le_of_ble_eq_true rfl) dX5_isMood_5 ⟨Nat.zero_le _, Nat.zero_le _⟩)) (fun r1 hw => ?_)
  exact hret _ _ _ (And.left hw) (And.right hw) dX5_isMood_8
def wpX5_byteOf (x0 : Int64) (x2 : Int32) (post : Int32 → Prop) : Prop := (post (((x0 >>> (((8 : Int32) * x2).toInt64 &&& 63)).toInt32) &&& (255 : Int32)))
set_option maxHeartbeats 4000000 in
set_option maxRecDepth 100000 in
theorem cX5_byteOf_c {l : Launch} {G : wG} {x0 : Int64} {x2 : Int32} {post : Int32 → Prop}  (hw : wpX5_byteOf x0 x2 post) : Met l yX5_byteOf (.code yX5_byteOf cX5_byteOf 3 (some .int) :: BIG) { frames := 0, cells := 0, slots := 0, locals := 0 } (xPr G [.long x0, .int x2] ([] : va_W)) (vp_Si post) 0 0 (fun _ => False) := by
  refine xm_ri (by decide) (Nat.le_of_ble_eq_true rfl) (fun p e s m args below meth c ls R Q hC hK hP hl hF hL hret => ?_)
  have hx := hC.1
  have hb := hC.2.1
  have hl : lv_has ls 3 [(0, .long x0), (2, .int x2)] := hl
  unfold wpX5_byteOf at hw
  refine lv_lload_n hx hb dX5_byteOf_0 rfl (lv_at hl 0 rfl) ?_
  refine lv_bipush (v := (8 : Int32)) hx hb dX5_byteOf_1 (by decide) ?_
  refine lv_iload_n hx hb dX5_byteOf_3 rfl (lv_at hl 1 rfl) ?_
  refine lv_imul hx hb dX5_byteOf_4 ?_
  refine lv_lshr (v := (x0 >>> (((8 : Int32) * x2).toInt64 &&& 63))) hx hb dX5_byteOf_5 rfl ?_
  refine lv_l2i (v := ((x0 >>> (((8 : Int32) * x2).toInt64 &&& 63)).toInt32)) hx hb dX5_byteOf_6 rfl ?_
  refine lv_sipush (v := (255 : Int32)) hx hb dX5_byteOf_7 (by decide) ?_
  refine lv_iand hx hb dX5_byteOf_10 ?_
  exact hret _ _ _ hw dX5_byteOf_11
def wpX5_areSigns_2 (k2 : Int64 → Int32 → Int32 → Prop) (post : Int32 → Prop) (x0 : Int64) (x2 : Int32) (x3 : Int32) : Prop := ((x2 ≤ x3 → (post (1 : Int32))) ∧ (¬ x2 ≤ x3 → (wpX5_byteOf x0 x3 (fun r1 => (wpX5_within r1 (32 : Int32) (126 : Int32) (fun r2 => ((¬ r2 = 0 → (k2 x0 x2 (x3 + (1 : Int32)))) ∧ (r2 = 0 → (post (0 : Int32))))))))))
def wpX5_areSigns_L2  (post : Int32 → Prop) : Nat → Int64 → Int32 → Int32 → Prop
  | 0 => fun _ _ _ => False
  | n + 1 => fun x0 x2 x3 => wpX5_areSigns_2  (wpX5_areSigns_L2  post n) post x0 x2 x3
def wpX5_areSigns (x0 : Int64) (x2 : Int32) (post : Int32 → Prop) : Prop := (∃ n, wpX5_areSigns_L2  post n x0 x2 (0 : Int32))
set_option maxHeartbeats 4000000 in
set_option maxRecDepth 100000 in
theorem cX5_areSigns_c {l : Launch} {G : wG} {x0 : Int64} {x2 : Int32} {post : Int32 → Prop}  (hw : wpX5_areSigns x0 x2 post) : Met l yX5_areSigns (.code yX5_areSigns cX5_areSigns 4 (some .boolean) :: BIG) { frames := 1, cells := 0, slots := 0, locals := 22 } (xPr G [.long x0, .int x2] ([] : va_W)) (vp_Si post) 0 0 (fun _ => False) := by
  refine xm_rz (by decide) (Nat.le_of_ble_eq_true rfl) (fun p e s m args below meth c ls R Q hC hK hP hl hF hL hret => ?_)
  have hx := hC.1
  have hb := hC.2.1
  have hl : lv_has ls 4 [(0, .long x0), (2, .int x2)] := hl
  have B2 : ∀ n2 : Nat, ∀ (x0 : Int64) (x2 : Int32) (x3 : Int32) (ls : Array Slot), wpX5_areSigns_L2  post n2 x0 x2 x3 → lv_has ls 4 [(0, .long x0), (2, .int x2), (3, .int x3)] → W p l e R s m args below meth c s.heap [] 0 0 Q (F0 m 2 ls []) := by
    intro n2
    induction n2 with
    | zero => intro x0 x2 x3 ls hw hl; exact False.elim hw
    | succ n2 I2 =>
      intro x0 x2 x3 ls hw hl
      have hw : wpX5_areSigns_2  (wpX5_areSigns_L2  post n2) post x0 x2 x3 := hw
      unfold wpX5_areSigns_2 at hw
      refine lv_iload_n hx hb dX5_areSigns_2 rfl (lv_at hl 2 rfl) ?_
      refine lv_iload_n hx hb dX5_areSigns_3 rfl (lv_at hl 1 rfl) ?_
      refine lv_icmp_ge (tgt := 30) hx hb dX5_areSigns_4 (by decide) (fun hc => ?_) (fun hc => ?_)
      · have hw := And.left hw hc
        refine lv_iconst (v := (1 : Int32)) hx hb dX5_areSigns_30 (by decide) ?_
        exact hret _ _ _ rfl hw dX5_areSigns_31
      · have hw := And.right hw hc
        refine lv_lload_n hx hb dX5_areSigns_7 rfl (lv_at hl 0 rfl) ?_
        refine lv_iload_n hx hb dX5_areSigns_8 rfl (lv_at hl 2 rfl) ?_
        refine vp_callSi (xro (xr_S hC (cX5_byteOf_c hw) ⟨rfl, rfl⟩ bw_270 calX5_byteOf ⟨Nat.le_trans (Nat.le_of_ble_eq_true rfl) hF, Nat.le_trans (Nat.le_of_ble_eq_true rfl) hL⟩ (rest := []) (xpS hK) rfl hl rfl (Nat.le_of_ble_eq_true rfl) dX5_areSigns_9 ⟨Nat.zero_le _, Nat.zero_le _⟩)) (fun r1 hw => ?_)
        refine lv_bipush (v := (32 : Int32)) hx hb dX5_areSigns_12 (by decide) ?_
        refine lv_bipush (v := (126 : Int32)) hx hb dX5_areSigns_14 (by decide) ?_
        refine vp_callSi (xro (xr_S hC (cX5_within_c hw) ⟨rfl, rfl⟩ bw_223 calX5_within ⟨Nat.le_trans (Nat.le_of_ble_eq_true rfl) hF, Nat.le_trans (Nat.le_of_ble_eq_true rfl) hL⟩ (rest := []) (xpS hK) rfl hl rfl (Nat.le_of_ble_eq_true rfl) dX5_areSigns_16 ⟨Nat.zero_le _, Nat.zero_le _⟩)) (fun r2 hw => ?_)
        refine lv_if_ne (tgt := 24) hx hb dX5_areSigns_19 (by decide) (fun hc => ?_) (fun hc => ?_)
        · have hw := And.left hw hc
          refine lv_iinc (v := (x3 + (1 : Int32))) (lv' := [(3, .int (x3 + (1 : Int32))), (0, .long x0), (2, .int x2)]) hx hb dX5_areSigns_24 hl (k := 2) rfl rfl (by decide) rfl (fun ls hl => ?_)
          refine lv_goto (tgt := 2) hx hb dX5_areSigns_27 (by decide) ?_
          exact I2 x0 x2 (x3 + (1 : Int32)) _ hw (lv_sub hl [1, 2, 0] rfl)
        · have hw := And.right hw hc
          refine lv_iconst (v := (0 : Int32)) hx hb dX5_areSigns_22 (by decide) ?_
          exact hret _ _ _ rfl hw dX5_areSigns_23
  unfold wpX5_areSigns at hw
  refine lv_iconst (v := (0 : Int32)) hx hb dX5_areSigns_0 (by decide) ?_
  refine lv_istore_n (lv' := [(3, .int (0 : Int32)), (0, .long x0), (2, .int x2)]) hx hb dX5_areSigns_1 rfl hl (by decide) rfl (fun ls hl => ?_)
  obtain ⟨j2, hw⟩ := hw
  exact B2 j2 x0 x2 (0 : Int32) _ hw (lv_sub hl [1, 2, 0] rfl)
def wpX5_isPails (x0 : Int64) (post : Int32 → Prop) : Prop := (((lg_cmp x0 (0 : Int64)) < 0 → (post (0 : Int32))) ∧ (¬ (lg_cmp x0 (0 : Int64)) < 0 → ((0 < (lg_cmp x0 (9 : Int64)) → (post (0 : Int32))) ∧ (¬ 0 < (lg_cmp x0 (9 : Int64)) → (post (1 : Int32))))))
set_option maxHeartbeats 4000000 in
set_option maxRecDepth 100000 in
theorem cX5_isPails_c {l : Launch} {G : wG} {x0 : Int64} {post : Int32 → Prop}  (hw : wpX5_isPails x0 post) : Met l yX5_isPails (.code yX5_isPails cX5_isPails 2 (some .boolean) :: BIG) { frames := 0, cells := 0, slots := 0, locals := 0 } (xPr G [.long x0] ([] : va_W)) (vp_Si post) 0 0 (fun _ => False) := by
  refine xm_rz (by decide) (Nat.le_of_ble_eq_true rfl) (fun p e s m args below meth c ls R Q hC hK hP hl hF hL hret => ?_)
  have hx := hC.1
  have hb := hC.2.1
  have hl : lv_has ls 2 [(0, .long x0)] := hl
  unfold wpX5_isPails at hw
  refine lv_lload_n hx hb dX5_isPails_0 rfl (lv_at hl 0 rfl) ?_
  refine lv_lconst (v := (0 : Int64)) hx hb dX5_isPails_1 (by decide) ?_
  refine W.lcmp hx hb dX5_isPails_2 ?_
  refine lv_if_lt (tgt := 18) hx hb dX5_isPails_3 (by decide) (fun hc => ?_) (fun hc => ?_)
  · have hw := And.left hw hc
    refine lv_iconst (v := (0 : Int32)) hx hb dX5_isPails_18 (by decide) ?_
    exact hret _ _ _ rfl hw dX5_isPails_19
  · have hw := And.right hw hc
    refine lv_lload_n hx hb dX5_isPails_6 rfl (lv_at hl 0 rfl) ?_
    refine lv_ldc2 (v := (9 : Int64)) hx hb hC.2.2.2.1 (hC.2.2.2.2 _ bw_480) dX5_isPails_7 ?_
    refine W.lcmp hx hb dX5_isPails_10 ?_
    refine lv_if_gt (tgt := 18) hx hb dX5_isPails_11 (by decide) (fun hc => ?_) (fun hc => ?_)
    · have hw := And.left hw hc
      refine lv_iconst (v := (0 : Int32)) hx hb dX5_isPails_18 (by decide) ?_
      exact hret _ _ _ rfl hw dX5_isPails_19
    · have hw := And.right hw hc
      refine lv_iconst (v := (1 : Int32)) hx hb dX5_isPails_14 (by decide) ?_
      refine lv_goto (tgt := 19) hx hb dX5_isPails_15 (by decide) ?_
      exact hret _ _ _ rfl hw dX5_isPails_19
def wpX5_isSheet (x0 : Int32) (post : Int32 → Prop) : Prop := (wpX5_within x0 (0 : Int32) (3 : Int32) (fun r1 => (narrow .boolean (.int r1) = .int r1 ∧ post r1)))
set_option maxHeartbeats 4000000 in
set_option maxRecDepth 100000 in
theorem cX5_isSheet_c {l : Launch} {G : wG} {x0 : Int32} {post : Int32 → Prop}  (hw : wpX5_isSheet x0 post) : Met l yX5_isSheet (.code yX5_isSheet cX5_isSheet 1 (some .boolean) :: BIG) { frames := 1, cells := 0, slots := 0, locals := 22 } (xPr G [.int x0] ([] : va_W)) (vp_Si post) 0 0 (fun _ => False) := by
  refine xm_rz (by decide) (Nat.le_of_ble_eq_true rfl) (fun p e s m args below meth c ls R Q hC hK hP hl hF hL hret => ?_)
  have hx := hC.1
  have hb := hC.2.1
  have hl : lv_has ls 1 [(0, .int x0)] := hl
  unfold wpX5_isSheet at hw
  refine lv_iload_n hx hb dX5_isSheet_0 rfl (lv_at hl 0 rfl) ?_
  refine lv_iconst (v := (0 : Int32)) hx hb dX5_isSheet_1 (by decide) ?_
  refine lv_iconst (v := (3 : Int32)) hx hb dX5_isSheet_2 (by decide) ?_
  refine vp_callSi (xro (xr_S hC (cX5_within_c hw) ⟨rfl, rfl⟩ bw_223 calX5_within ⟨Nat.le_trans (Nat.le_of_ble_eq_true rfl) hF, Nat.le_trans (Nat.le_of_ble_eq_true rfl) hL⟩ (rest := []) (xpS hK) rfl hl rfl (Nat.le_of_ble_eq_true rfl) dX5_isSheet_3 ⟨Nat.zero_le _, Nat.zero_le _⟩)) (fun r1 hw => ?_)
  exact hret _ _ _ (And.left hw) (And.right hw) dX5_isSheet_6
def wpX5_isLane (x0 : Int32) (post : Int32 → Prop) : Prop := (wpX5_within x0 (0 : Int32) (2 : Int32) (fun r1 => (narrow .boolean (.int r1) = .int r1 ∧ post r1)))
set_option maxHeartbeats 4000000 in
set_option maxRecDepth 100000 in
theorem cX5_isLane_c {l : Launch} {G : wG} {x0 : Int32} {post : Int32 → Prop}  (hw : wpX5_isLane x0 post) : Met l yX5_isLane (.code yX5_isLane cX5_isLane 1 (some .boolean) :: BIG) { frames := 1, cells := 0, slots := 0, locals := 22 } (xPr G [.int x0] ([] : va_W)) (vp_Si post) 0 0 (fun _ => False) := by
  refine xm_rz (by decide) (Nat.le_of_ble_eq_true rfl) (fun p e s m args below meth c ls R Q hC hK hP hl hF hL hret => ?_)
  have hx := hC.1
  have hb := hC.2.1
  have hl : lv_has ls 1 [(0, .int x0)] := hl
  unfold wpX5_isLane at hw
  refine lv_iload_n hx hb dX5_isLane_0 rfl (lv_at hl 0 rfl) ?_
  refine lv_iconst (v := (0 : Int32)) hx hb dX5_isLane_1 (by decide) ?_
  refine lv_iconst (v := (2 : Int32)) hx hb dX5_isLane_2 (by decide) ?_
  refine vp_callSi (xro (xr_S hC (cX5_within_c hw) ⟨rfl, rfl⟩ bw_223 calX5_within ⟨Nat.le_trans (Nat.le_of_ble_eq_true rfl) hF, Nat.le_trans (Nat.le_of_ble_eq_true rfl) hL⟩ (rest := []) (xpS hK) rfl hl rfl (Nat.le_of_ble_eq_true rfl) dX5_isLane_3 ⟨Nat.zero_le _, Nat.zero_le _⟩)) (fun r1 hw => ?_)
  exact hret _ _ _ (And.left hw) (And.right hw) dX5_isLane_6
