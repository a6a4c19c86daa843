def wpX2_begin_17 (k17 : Int32 → (wSt) → Prop) (post : (wSt) → Prop) (x3 : Int32) (z0 : wSt) : Prop := (((24 : Int32) ≤ x3 → (post z0)) ∧ (¬ (24 : Int32) ≤ x3 → (vp_in x3 24 ∧ ∀ z1 : wSt, z1 = (w_sl z0 0 (vp_updL (w_l z0 0) x3.toNatClampNeg (0 : Int64))) → (k17 (x3 + (1 : Int32)) z1))))
def wpX2_begin_L17  (post : (wSt) → Prop) : Nat → Int32 → (wSt) → Prop
  | 0 => fun _ _ => False
  | n + 1 => fun x3 z0 => wpX2_begin_17  (wpX2_begin_L17  post n) post x3 z0
def wpX2_begin (x1 : Int32) (x2 : Int32) (z0 : wSt) (post : (wSt) → Prop) : Prop := (∀ z1 : wSt, z1 = (w_si z0 1 (1 : Int32)) → (∀ z2 : wSt, z2 = (w_si z1 2 x1) → (∀ z3 : wSt, z3 = (w_si z2 3 x2) → (∃ n, wpX2_begin_L17  post n (0 : Int32) z3))))
set_option maxHeartbeats 4000000 in
set_option maxRecDepth 100000 in
theorem cX2_begin_c {l : Launch} {G : wG} {h : Nat → Nat} {sz : Nat} {x1 : Int32} {x2 : Int32} {post : (wSt) → Prop} {z0 : wSt}  (hw : wpX2_begin x1 x2 z0 post) : Met l yX2_begin (.code yX2_begin cX2_begin 4 none :: BIG) { frames := 0, cells := 0, slots := 0, locals := 0 } (xPw G [.ref (h 0), .int x1, .int x2] (wsSheet G h z0) sz) (xQv G post (fun q => (wsSheet G h q)) (va_A (wsSheet G h z0) sz)) 0 0 (va_A (wsSheet G h z0) sz) := by
  refine xm_wv (by decide) (Nat.le_of_ble_eq_true rfl) (fun p e s m args below meth c A ls R Q hC hK hA hP hD hS hl hF hL hret => ?_)
  have hx := hC.1
  have hb := hC.2.1
  have hl : lv_has ls 4 [(0, .ref (h 0)), (1, .int x1), (2, .int x2)] := hl
  have B17 : ∀ n17 : Nat, ∀ (x3 : Int32) (z0 : wSt) (H : Heap) (locs : List Loc) (ls : Array Slot), wpX2_begin_L17  post n17 x3 z0 → va_P G.1 vwCl (wsSheet G h z0) H → va_D A (wsSheet G h z0) → va_S A s.heap H locs → lv_has ls 4 [(0, .ref (h 0)), (3, .int x3)] → W p l e R s m args below meth c H locs 0 0 Q (F0 m 17 ls []) := by
    intro n17
    induction n17 with
    | zero => intro x3 z0 H locs ls hw hP hD hS hl; exact False.elim hw
    | succ n17 I17 =>
      intro x3 z0 H locs ls hw hP hD hS hl
      have hw : wpX2_begin_17  (wpX2_begin_L17  post n17) post x3 z0 := hw
      unfold wpX2_begin_17 at hw
      refine lv_iload_n hx hb dX2_begin_17 rfl (lv_at hl 1 rfl) ?_
      refine lv_bipush (v := (24 : Int32)) hx hb dX2_begin_18 (by decide) ?_
      refine lv_icmp_ge (tgt := 36) hx hb dX2_begin_20 (by decide) (fun hc => ?_) (fun hc => ?_)
      · have hw := And.left hw hc
        exact hret _ _ _ _ _ hw hP hD hS dX2_begin_36
      · have hw := And.right hw hc
        refine lv_aload_n hx hb dX2_begin_23 rfl (lv_at hl 0 rfl) ?_
        refine rg_H_X2_0_0 hC hK hP dX2_begin_24 ?_
        refine lv_iload_n hx hb dX2_begin_27 rfl (lv_at hl 1 rfl) ?_
        refine lv_lconst (v := (0 : Int64)) hx hb dX2_begin_28 (by decide) ?_
        refine rs_H_1 hC hK hP hD hS (And.left hw) dX2_begin_29 (fun z1 H locs hz1 hP hD hS => ?_)
        have hw := And.right hw z1 hz1
        refine lv_iinc (v := (x3 + (1 : Int32))) (lv' := [(3, .int (x3 + (1 : Int32))), (0, .ref (h 0))]) hx hb dX2_begin_30 hl (k := 1) rfl rfl (by decide) rfl (fun ls hl => ?_)
        refine lv_goto (tgt := 17) hx hb dX2_begin_33 (by decide) ?_
        exact I17 (x3 + (1 : Int32)) z1 _ _ _ hw hP hD hS (lv_sub hl [1, 0] rfl)
  unfold wpX2_begin at hw
  refine lv_aload_n hx hb dX2_begin_0 rfl (lv_at hl 0 rfl) ?_
  refine lv_iconst (v := (1 : Int32)) hx hb dX2_begin_1 (by decide) ?_
  refine rp_H_X2_0_1 (⟨rfl, rfl⟩) hC hK hP hD hS dX2_begin_2 (fun z1 H locs hz1 hP hD hS => ?_)
  have hw := hw z1 hz1
  refine lv_aload_n hx hb dX2_begin_5 rfl (lv_at hl 0 rfl) ?_
  refine lv_iload_n hx hb dX2_begin_6 rfl (lv_at hl 1 rfl) ?_
  refine rp_H_X2_0_2 hC hK hP hD hS dX2_begin_7 (fun z2 H locs hz1 hP hD hS => ?_)
  have hw := hw z2 hz1
  refine lv_aload_n hx hb dX2_begin_10 rfl (lv_at hl 0 rfl) ?_
  refine lv_iload_n hx hb dX2_begin_11 rfl (lv_at hl 2 rfl) ?_
  refine rp_H_X2_0_3 hC hK hP hD hS dX2_begin_12 (fun z3 H locs hz1 hP hD hS => ?_)
  have hw := hw z3 hz1
  refine lv_iconst (v := (0 : Int32)) hx hb dX2_begin_15 (by decide) ?_
  refine lv_istore_n (lv' := [(3, .int (0 : Int32)), (0, .ref (h 0)), (1, .int x1), (2, .int x2)]) hx hb dX2_begin_16 rfl hl (by decide) rfl (fun ls hl => ?_)
  obtain ⟨j17, hw⟩ := hw
  exact B17 j17 (0 : Int32) z3 _ _ _ hw hP hD hS (lv_sub hl [1, 0] rfl)
def wpX2_hasSpan (x1 : Int32) (x2 : Int32) (z0 : wSt) (post : Int32 → Prop) : Prop := ((x2 < 0 → (post (0 : Int32))) ∧ (¬ x2 < 0 → ((x1 < 0 → (post (0 : Int32))) ∧ (¬ x1 < 0 → ((((w_i z0 3) - x2) < x1 → (post (0 : Int32))) ∧ (¬ ((w_i z0 3) - x2) < x1 → (post (1 : Int32))))))))
set_option maxHeartbeats 4000000 in
set_option maxRecDepth 100000 in
theorem cX2_hasSpan_c {l : Launch} {G : wG} {h : Nat → Nat} {x1 : Int32} {x2 : Int32} {post : Int32 → Prop} {z0 : wSt}  (hw : wpX2_hasSpan x1 x2 z0 post) : Met l yX2_hasSpan (.code yX2_hasSpan cX2_hasSpan 3 (some .boolean) :: BIG) { frames := 0, cells := 0, slots := 0, locals := 0 } (xPr G [.ref (h 0), .int x1, .int x2] (wsSheet G h z0)) (vp_Si post) 0 0 (fun _ => False) := by
  refine xm_rz (by decide) (Nat.le_of_ble_eq_true rfl) (fun p e s m args below meth c ls R Q hC hK hP hl hF hL hret => ?_)
  have hx := hC.1
  have hb := hC.2.1
  have hl : lv_has ls 3 [(0, .ref (h 0)), (1, .int x1), (2, .int x2)] := hl
  unfold wpX2_hasSpan at hw
  refine lv_iload_n hx hb dX2_hasSpan_0 rfl (lv_at hl 2 rfl) ?_
  refine lv_if_lt (tgt := 22) hx hb dX2_hasSpan_1 (by decide) (fun hc => ?_) (fun hc => ?_)
  · have hw := And.left hw hc
    refine lv_iconst (v := (0 : Int32)) hx hb dX2_hasSpan_22 (by decide) ?_
    exact hret _ _ _ rfl hw dX2_hasSpan_23
  · have hw := And.right hw hc
    refine lv_iload_n hx hb dX2_hasSpan_4 rfl (lv_at hl 1 rfl) ?_
    refine lv_if_lt (tgt := 22) hx hb dX2_hasSpan_5 (by decide) (fun hc => ?_) (fun hc => ?_)
    · have hw := And.left hw hc
      refine lv_iconst (v := (0 : Int32)) hx hb dX2_hasSpan_22 (by decide) ?_
      exact hret _ _ _ rfl hw dX2_hasSpan_23
    · have hw := And.right hw hc
      refine lv_iload_n hx hb dX2_hasSpan_8 rfl (lv_at hl 1 rfl) ?_
      refine lv_aload_n hx hb dX2_hasSpan_9 rfl (lv_at hl 0 rfl) ?_
      refine rg_H_X2_0_3 hC hK hP dX2_hasSpan_10 ?_
      refine lv_iload_n hx hb dX2_hasSpan_13 rfl (lv_at hl 2 rfl) ?_
      refine lv_isub hx hb dX2_hasSpan_14 ?_
      refine lv_icmp_gt (tgt := 22) hx hb dX2_hasSpan_15 (by decide) (fun hc => ?_) (fun hc => ?_)
      · have hw := And.left hw hc
        refine lv_iconst (v := (0 : Int32)) hx hb dX2_hasSpan_22 (by decide) ?_
        exact hret _ _ _ rfl hw dX2_hasSpan_23
      · have hw := And.right hw hc
        refine lv_iconst (v := (1 : Int32)) hx hb dX2_hasSpan_18 (by decide) ?_
        refine lv_goto (tgt := 23) hx hb dX2_hasSpan_19 (by decide) ?_
        exact hret _ _ _ rfl hw dX2_hasSpan_23
def wpX2_put (x1 : Int32) (x2 : Int64) (z0 : wSt) (post : (wSt) → Prop) : Prop := ((¬ (w_i z0 2) = 0 → ((¬ (w_i z0 2) = (1 : Int32) → (vp_in x1 24 ∧ ∀ z1 : wSt, z1 = (w_sl z0 0 (vp_updL (w_l z0 0) x1.toNatClampNeg x2)) → (post z1))) ∧ ((w_i z0 2) = (1 : Int32) → (vp_in x1 24 ∧ ∀ z2 : wSt, z2 = (w_sl z0 0 (vp_updL (w_l z0 0) x1.toNatClampNeg (((x2.toInt32).toInt16.toInt32).toInt64))) → (post z2))))) ∧ ((w_i z0 2) = 0 → (vp_in x1 24 ∧ ∀ z3 : wSt, z3 = (w_sl z0 0 (vp_updL (w_l z0 0) x1.toNatClampNeg (((x2.toInt32).toInt8.toInt32).toInt64))) → (post z3))))
set_option maxHeartbeats 4000000 in
set_option maxRecDepth 100000 in
theorem cX2_put_c {l : Launch} {G : wG} {h : Nat → Nat} {sz : Nat} {x1 : Int32} {x2 : Int64} {post : (wSt) → Prop} {z0 : wSt}  (hw : wpX2_put x1 x2 z0 post) : Met l yX2_put (.code yX2_put cX2_put 4 none :: BIG) { frames := 0, cells := 0, slots := 0, locals := 0 } (xPw G [.ref (h 0), .int x1, .long x2] (wsSheet G h z0) sz) (xQv G post (fun q => (wsSheet G h q)) (va_A (wsSheet G h z0) sz)) 0 0 (va_A (wsSheet G h z0) sz) := by
  refine xm_wv (by decide) (Nat.le_of_ble_eq_true rfl) (fun p e s m args below meth c A ls R Q hC hK hA hP hD hS hl hF hL hret => ?_)
  have hx := hC.1
  have hb := hC.2.1
  have hl : lv_has ls 4 [(0, .ref (h 0)), (1, .int x1), (2, .long x2)] := hl
  unfold wpX2_put at hw
  refine lv_aload_n hx hb dX2_put_0 rfl (lv_at hl 0 rfl) ?_
  refine rg_H_X2_0_2 hC hK hP dX2_put_1 ?_
  refine lv_if_ne (tgt := 20) hx hb dX2_put_4 (by decide) (fun hc => ?_) (fun hc => ?_)
  · have hw := And.left hw hc
    refine lv_aload_n hx hb dX2_put_20 rfl (lv_at hl 0 rfl) ?_
    refine rg_H_X2_0_2 hC hK hP dX2_put_21 ?_
    refine lv_iconst (v := (1 : Int32)) hx hb dX2_put_24 (by decide) ?_
    refine lv_icmp_ne (tgt := 41) hx hb dX2_put_25 (by decide) (fun hc => ?_) (fun hc => ?_)
    · have hw := And.left hw hc
      refine lv_aload_n hx hb dX2_put_41 rfl (lv_at hl 0 rfl) ?_
      refine rg_H_X2_0_0 hC hK hP dX2_put_42 ?_
      refine lv_iload_n hx hb dX2_put_45 rfl (lv_at hl 1 rfl) ?_
      refine lv_lload_n hx hb dX2_put_46 rfl (lv_at hl 2 rfl) ?_
      refine rs_H_1 hC hK hP hD hS (And.left hw) dX2_put_47 (fun z1 H locs hz1 hP hD hS => ?_)
      have hw := And.right hw z1 hz1
      exact hret _ _ _ _ _ hw hP hD hS dX2_put_48
    · have hw := And.right hw hc
      refine lv_aload_n hx hb dX2_put_28 rfl (lv_at hl 0 rfl) ?_
      refine rg_H_X2_0_0 hC hK hP dX2_put_29 ?_
      refine lv_iload_n hx hb dX2_put_32 rfl (lv_at hl 1 rfl) ?_
      refine lv_lload_n hx hb dX2_put_33 rfl (lv_at hl 2 rfl) ?_
      refine lv_l2i (v := (x2.toInt32)) hx hb dX2_put_34 rfl ?_
      refine lv_i2s (v := ((x2.toInt32).toInt16.toInt32)) hx hb dX2_put_35 rfl ?_
      refine lv_i2l (v := (((x2.toInt32).toInt16.toInt32).toInt64)) hx hb dX2_put_36 rfl ?_
      refine rs_H_1 hC hK hP hD hS (And.left hw) dX2_put_37 (fun z2 H locs hz1 hP hD hS => ?_)
      have hw := And.right hw z2 hz1
      refine lv_goto (tgt := 48) hx hb dX2_put_38 (by decide) ?_
      exact hret _ _ _ _ _ hw hP hD hS dX2_put_48
  · have hw := And.right hw hc
    refine lv_aload_n hx hb dX2_put_7 rfl (lv_at hl 0 rfl) ?_
    refine rg_H_X2_0_0 hC hK hP dX2_put_8 ?_
    refine lv_iload_n hx hb dX2_put_11 rfl (lv_at hl 1 rfl) ?_
    refine lv_lload_n hx hb dX2_put_12 rfl (lv_at hl 2 rfl) ?_
    refine lv_l2i (v := (x2.toInt32)) hx hb dX2_put_13 rfl ?_
    refine lv_i2b (v := ((x2.toInt32).toInt8.toInt32)) hx hb dX2_put_14 rfl ?_
    refine lv_i2l (v := (((x2.toInt32).toInt8.toInt32).toInt64)) hx hb dX2_put_15 rfl ?_
    refine rs_H_1 hC hK hP hD hS (And.left hw) dX2_put_16 (fun z3 H locs hz1 hP hD hS => ?_)
    have hw := And.right hw z3 hz1
    refine lv_goto (tgt := 48) hx hb dX2_put_17 (by decide) ?_
    exact hret _ _ _ _ _ hw hP hD hS dX2_put_48
