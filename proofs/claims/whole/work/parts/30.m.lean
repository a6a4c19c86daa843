def wpX6_in (x0 : Int64) (x2 : Int64) (x4 : Int64) (post : Int32 → Prop) : Prop := (((lg_cmp x0 x2) < 0 → (post (0 : Int32))) ∧ (¬ (lg_cmp x0 x2) < 0 → ((0 < (lg_cmp x0 x4) → (post (0 : Int32))) ∧ (¬ 0 < (lg_cmp x0 x4) → (post (1 : Int32))))))
set_option maxHeartbeats 4000000 in
set_option maxRecDepth 100000 in
theorem cX6_in_c {l : Launch} {G : wG} {x0 : Int64} {x2 : Int64} {x4 : Int64} {post : Int32 → Prop}  (hw : wpX6_in x0 x2 x4 post) : Met l yX6_in (.code yX6_in cX6_in 6 (some .boolean) :: BIG) { frames := 0, cells := 0, slots := 0, locals := 0 } (xPr G [.long x0, .long x2, .long x4] ([] : va_W)) (vp_Si post) 0 0 (fun _ => False) := by
  refine xm_rz (by decide) (Nat.le_of_ble_eq_true rfl) (fun p e s m args below meth c ls R Q hC hK hP hl hF hL hret => ?_)
  have hx := hC.1
  have hb := hC.2.1
  have hl : lv_has ls 6 [(0, .long x0), (2, .long x2), (4, .long x4)] := hl
  unfold wpX6_in at hw
  refine lv_lload_n hx hb dX6_in_0 rfl (lv_at hl 0 rfl) ?_
  refine lv_lload_n hx hb dX6_in_1 rfl (lv_at hl 1 rfl) ?_
  refine W.lcmp hx hb dX6_in_2 ?_
  refine lv_if_lt (tgt := 17) hx hb dX6_in_3 (by decide) (fun hc => ?_) (fun hc => ?_)
  · have hw := And.left hw hc
    refine lv_iconst (v := (0 : Int32)) hx hb dX6_in_17 (by decide) ?_
    exact hret _ _ _ rfl hw dX6_in_18
  · have hw := And.right hw hc
    refine lv_lload_n hx hb dX6_in_6 rfl (lv_at hl 0 rfl) ?_
    refine lv_lload hx hb dX6_in_7 (lv_at hl 2 rfl) ?_
    refine W.lcmp hx hb dX6_in_9 ?_
    refine lv_if_gt (tgt := 17) hx hb dX6_in_10 (by decide) (fun hc => ?_) (fun hc => ?_)
    · have hw := And.left hw hc
      refine lv_iconst (v := (0 : Int32)) hx hb dX6_in_17 (by decide) ?_
      exact hret _ _ _ rfl hw dX6_in_18
    · have hw := And.right hw hc
      refine lv_iconst (v := (1 : Int32)) hx hb dX6_in_13 (by decide) ?_
      refine lv_goto (tgt := 18) hx hb dX6_in_14 (by decide) ?_
      exact hret _ _ _ rfl hw dX6_in_18
def wpX6_has (x0 : Int32) (x1 : Int32) (post : Int32 → Prop) : Prop := ((¬ ((x0 >>> (x1 &&& 31)) &&& (1 : Int32)) = (1 : Int32) → (post (0 : Int32))) ∧ (((x0 >>> (x1 &&& 31)) &&& (1 : Int32)) = (1 : Int32) → (post (1 : Int32))))
set_option maxHeartbeats 4000000 in
set_option maxRecDepth 100000 in
theorem cX6_has_c {l : Launch} {G : wG} {x0 : Int32} {x1 : Int32} {post : Int32 → Prop}  (hw : wpX6_has x0 x1 post) : Met l yX6_has (.code yX6_has cX6_has 2 (some .boolean) :: BIG) { frames := 0, cells := 0, slots := 0, locals := 0 } (xPr G [.int x0, .int x1] ([] : va_W)) (vp_Si post) 0 0 (fun _ => False) := by
  refine xm_rz (by decide) (Nat.le_of_ble_eq_true rfl) (fun p e s m args below meth c ls R Q hC hK hP hl hF hL hret => ?_)
  have hx := hC.1
  have hb := hC.2.1
  have hl : lv_has ls 2 [(0, .int x0), (1, .int x1)] := hl
  unfold wpX6_has at hw
  refine lv_iload_n hx hb dX6_has_0 rfl (lv_at hl 0 rfl) ?_
  refine lv_iload_n hx hb dX6_has_1 rfl (lv_at hl 1 rfl) ?_
  refine lv_ishr hx hb dX6_has_2 ?_
  refine lv_iconst (v := (1 : Int32)) hx hb dX6_has_3 (by decide) ?_
  refine lv_iand hx hb dX6_has_4 ?_
  refine lv_iconst (v := (1 : Int32)) hx hb dX6_has_5 (by decide) ?_
  refine lv_icmp_ne (tgt := 13) hx hb dX6_has_6 (by decide) (fun hc => ?_) (fun hc => ?_)
  · have hw := And.left hw hc
    refine lv_iconst (v := (0 : Int32)) hx hb dX6_has_13 (by decide) ?_
    exact hret _ _ _ rfl hw dX6_has_14
  · have hw := And.right hw hc
    refine lv_iconst (v := (1 : Int32)) hx hb dX6_has_9 (by decide) ?_
    refine lv_goto (tgt := 14) hx hb dX6_has_10 (by decide) ?_
    exact hret _ _ _ rfl hw dX6_has_14
def wpX6_isOne (x1 : Int32) (z0 : wSt) (post : Int32 → Prop) : Prop := (wpX6_in (x1.toInt64) (0 : Int64) (((w_i z0 5) - (1 : Int32)).toInt64) (fun r1 => (narrow .boolean (.int r1) = .int r1 ∧ post r1)))
set_option maxHeartbeats 4000000 in
set_option maxRecDepth 100000 in
theorem cX6_isOne_c {l : Launch} {G : wG} {h : Nat → Nat} {x1 : Int32} {post : Int32 → Prop} {z0 : wSt}  (hw : wpX6_isOne x1 z0 post) : Met l yX6_isOne (.code yX6_isOne cX6_isOne 2 (some .boolean) :: BIG) { frames := 1, cells := 0, slots := 0, locals := 25 } (xPr G [.ref (h 0), .int x1] (wsM G h z0)) (vp_Si post) 0 0 (fun _ => False) := by
  refine xm_rz (by decide) (Nat.le_of_ble_eq_true rfl) (fun p e s m args below meth c ls R Q hC hK hP hl hF hL hret => ?_)
  have hx := hC.1
  have hb := hC.2.1
  have hl : lv_has ls 2 [(0, .ref (h 0)), (1, .int x1)] := hl
  unfold wpX6_isOne at hw
  refine lv_iload_n hx hb dX6_isOne_0 rfl (lv_at hl 1 rfl) ?_
  refine lv_i2l (v := (x1.toInt64)) hx hb dX6_isOne_1 rfl ?_
  refine lv_lconst (v := (0 : Int64)) hx hb dX6_isOne_2 (by decide) ?_
  refine lv_aload_n hx hb dX6_isOne_3 rfl (lv_at hl 0 rfl) ?_
  refine rg_M_X6_0_5 hC hK hP dX6_isOne_4 ?_
  refine lv_iconst (v := (1 : Int32)) hx hb dX6_isOne_7 (by decide) ?_
  refine lv_isub hx hb dX6_isOne_8 ?_
  refine lv_i2l (v := (((w_i z0 5) - (1 : Int32)).toInt64)) hx hb dX6_isOne_9 rfl ?_
  refine vp_callSi (xro (xr_S hC (cX6_in_c hw) ⟨rfl, rfl⟩ bw_700 calX6_in ⟨Nat.le_trans (Nat.le_of_ble_eq_true rfl) hF, Nat.le_trans (Nat.le_of_ble_eq_true rfl) hL⟩ (rest := []) (xpS hK) rfl hl rfl (Nat.le_of_ble_eq_true rfl) dX6_isOne_10 ⟨Nat.zero_le _, Nat.zero_le _⟩)) (fun r1 hw => ?_)
  exact hret _ _ _ (And.left hw) (And.right hw) dX6_isOne_13
def wpX6_isMood (x0 : Int32) (post : Int32 → Prop) : Prop := (wpX6_in (x0.toInt64) (-9 : Int64) (9 : Int64) (fun r1 => (narrow .boolean (.int r1) = .int r1 ∧ post r1)))
set_option maxHeartbeats 4000000 in
set_option maxRecDepth 100000 in
theorem cX6_isMood_c {l : Launch} {G : wG} {x0 : Int32} {post : Int32 → Prop}  (hw : wpX6_isMood x0 post) : Met l yX6_isMood (.code yX6_isMood cX6_isMood 1 (some .boolean) :: BIG) { frames := 1, cells := 0, slots := 0, locals := 25 } (xPr G [.int x0] ([] : va_W)) (vp_Si post) 0 0 (fun _ => False) := by
  refine xm_rz (by decide) (Nat.le_of_ble_eq_true rfl) (fun p e s m args below meth c ls R Q hC hK hP hl hF hL hret => ?_)
  have hx := hC.1
  have hb := hC.2.1
  have hl : lv_has ls 1 [(0, .int x0)] := hl
  unfold wpX6_isMood at hw
  refine lv_iload_n hx hb dX6_isMood_0 rfl (lv_at hl 0 rfl) ?_
  refine lv_i2l (v := (x0.toInt64)) hx hb dX6_isMood_1 rfl ?_
  refine lv_ldc2 (v := (-9 : Int64)) hx hb hC.2.2.2.1 (hC.2.2.2.2 _ bw_735) dX6_isMood_2 ?_
  refine lv_ldc2 (v := (9 : Int64)) hx hb hC.2.2.2.1 (hC.2.2.2.2 _ bw_704) dX6_isMood_5 ?_
  refine vp_callSi (xro (xr_S hC (cX6_in_c hw) ⟨rfl, rfl⟩ bw_700 calX6_in ⟨Nat.le_trans (Nat.le_of_ble_eq_true rfl) hF, Nat.le_trans (Nat.le_of_ble_eq_true rfl) hL⟩ (rest := []) (xpS hK) rfl hl rfl (Nat.le_of_ble_eq_true rfl) dX6_isMood_8 ⟨Nat.zero_le _, Nat.zero_le _⟩)) (fun r1 hw => ?_)
  exact hret _ _ _ (And.left hw) (And.right hw) dX6_isMood_11
def wpX6_add (x1 : Int32) (x2 : Int32) (x3 : Int32) (z0 : wSt) (post : (wSt) → Prop) : Prop := (vp_in (w_i z0 5) 6 ∧ ∀ z1 : wSt, z1 = (w_sa z0 0 (upd (w_a z0 0) (w_i z0 5).toNatClampNeg x1)) → (vp_in (w_i z1 5) 6 ∧ ∀ z2 : wSt, z2 = (w_sa z1 1 (upd (w_a z1 1) (w_i z1 5).toNatClampNeg x2)) → (vp_in (w_i z2 5) 6 ∧ ∀ z3 : wSt, z3 = (w_sa z2 2 (upd (w_a z2 2) (w_i z2 5).toNatClampNeg x3)) → (vp_in (w_i z3 5) 6 ∧ ∀ z4 : wSt, z4 = (w_sa z3 3 (upd (w_a z3 3) (w_i z3 5).toNatClampNeg (0 : Int32))) → (vp_in (w_i z4 5) 6 ∧ ∀ z5 : wSt, z5 = (w_sa z4 4 (upd (w_a z4 4) (w_i z4 5).toNatClampNeg (0 : Int32))) → (∀ z6 : wSt, z6 = (w_si z5 5 ((w_i z5 5) + (1 : Int32))) → (post z6)))))))
set_option maxHeartbeats 4000000 in
set_option maxRecDepth 100000 in
theorem cX6_add_c {l : Launch} {G : wG} {h : Nat → Nat} {sz : Nat} {x1 : Int32} {x2 : Int32} {x3 : Int32} {post : (wSt) → Prop} {z0 : wSt}  (hw : wpX6_add x1 x2 x3 z0 post) : Met l yX6_add (.code yX6_add cX6_add 4 none :: BIG) { frames := 0, cells := 0, slots := 0, locals := 0 } (xPw G [.ref (h 0), .int x1, .int x2, .int x3] (wsM G h z0) sz) (xQv G post (fun q => (wsM G h q)) (va_A (wsM G h z0) sz)) 0 0 (va_A (wsM G h z0) sz) := by
  refine xm_wv (by decide) (Nat.le_of_ble_eq_true rfl) (fun p e s m args below meth c A ls R Q hC hK hA hP hD hS hl hF hL hret => ?_)
  have hx := hC.1
  have hb := hC.2.1
  have hl : lv_has ls 4 [(0, .ref (h 0)), (1, .int x1), (2, .int x2), (3, .int x3)] := hl
  unfold wpX6_add at hw
  refine lv_aload_n hx hb dX6_add_0 rfl (lv_at hl 0 rfl) ?_
  refine rg_M_X6_0_0 hC hK hP dX6_add_1 ?_
  refine lv_aload_n hx hb dX6_add_4 rfl (lv_at hl 0 rfl) ?_
  refine rg_M_X6_0_5 hC hK hP dX6_add_5 ?_
  refine lv_iload_n hx hb dX6_add_8 rfl (lv_at hl 1 rfl) ?_
  refine rs_M_1 hC hK hP hD hS (And.left hw) dX6_add_9 (fun z1 H locs hz1 hP hD hS => ?_)
  have hw := And.right hw z1 hz1
  refine lv_aload_n hx hb dX6_add_10 rfl (lv_at hl 0 rfl) ?_
  refine rg_M_X6_0_1 hC hK hP dX6_add_11 ?_
  refine lv_aload_n hx hb dX6_add_14 rfl (lv_at hl 0 rfl) ?_
  refine rg_M_X6_0_5 hC hK hP dX6_add_15 ?_
  refine lv_iload_n hx hb dX6_add_18 rfl (lv_at hl 2 rfl) ?_
  refine rs_M_2 hC hK hP hD hS (And.left hw) dX6_add_19 (fun z2 H locs hz1 hP hD hS => ?_)
  have hw := And.right hw z2 hz1
  refine lv_aload_n hx hb dX6_add_20 rfl (lv_at hl 0 rfl) ?_
  refine rg_M_X6_0_2 hC hK hP dX6_add_21 ?_
  refine lv_aload_n hx hb dX6_add_24 rfl (lv_at hl 0 rfl) ?_
  refine rg_M_X6_0_5 hC hK hP dX6_add_25 ?_
  refine lv_iload_n hx hb dX6_add_28 rfl (lv_at hl 3 rfl) ?_
  refine rs_M_3 hC hK hP hD hS (And.left hw) dX6_add_29 (fun z3 H locs hz1 hP hD hS => ?_)
  have hw := And.right hw z3 hz1
  refine lv_aload_n hx hb dX6_add_30 rfl (lv_at hl 0 rfl) ?_
  refine rg_M_X6_0_3 hC hK hP dX6_add_31 ?_
  refine lv_aload_n hx hb dX6_add_34 rfl (lv_at hl 0 rfl) ?_
  refine rg_M_X6_0_5 hC hK hP dX6_add_35 ?_
  refine lv_iconst (v := (0 : Int32)) hx hb dX6_add_38 (by decide) ?_
  refine rs_M_4 hC hK hP hD hS (And.left hw) dX6_add_39 (fun z4 H locs hz1 hP hD hS => ?_)
  have hw := And.right hw z4 hz1
  refine lv_aload_n hx hb dX6_add_40 rfl (lv_at hl 0 rfl) ?_
  refine rg_M_X6_0_4 hC hK hP dX6_add_41 ?_
  refine lv_aload_n hx hb dX6_add_44 rfl (lv_at hl 0 rfl) ?_
  refine rg_M_X6_0_5 hC hK hP dX6_add_45 ?_
  refine lv_iconst (v := (0 : Int32)) hx hb dX6_add_48 (by decide) ?_
  refine rs_M_5 hC hK hP hD hS (And.left hw) dX6_add_49 (fun z5 H locs hz1 hP hD hS => ?_)
  have hw := And.right hw z5 hz1
  refine lv_aload_n hx hb dX6_add_50 rfl (lv_at hl 0 rfl) ?_
  refine lv_dup hx hb dX6_add_51 rfl ?_
  refine rg_M_X6_0_5 hC hK hP dX6_add_52 ?_
  refine lv_iconst (v := (1 : Int32)) hx hb dX6_add_55 (by decide) ?_
  refine lv_iadd hx hb dX6_add_56 ?_
  refine rp_M_X6_0_5 hC hK hP hD hS dX6_add_57 (fun z6 H locs hz1 hP hD hS => ?_)
  have hw := hw z6 hz1
  exact hret _ _ _ _ _ hw hP hD hS dX6_add_60
def wpX6_folk (x1 : Int32) (x2 : Int32) (x3 : Int32) (z0 : wSt) (post : Int32 → (wSt) → Prop) : Prop := (wpX6_in (x1.toInt64) (0 : Int64) (3 : Int64) (fun r1 => ((r1 = 0 → (post (-1 : Int32) z0)) ∧ (¬ r1 = 0 → (wpX6_in (x2.toInt64) (-3 : Int64) (3 : Int64) (fun r2 => ((r2 = 0 → (post (-1 : Int32) z0)) ∧ (¬ r2 = 0 → (wpX6_in (x3.toInt64) (1 : Int64) (9 : Int64) (fun r3 => ((¬ r3 = 0 → ((¬ (w_i z0 5) = (6 : Int32) → (wpX6_add x1 x2 x3 z0 (fun u => ∀ z1 : wSt, z1 = u → (post ((w_i z1 5) - (1 : Int32)) z1)))) ∧ ((w_i z0 5) = (6 : Int32) → (post (-3 : Int32) z0)))) ∧ (r3 = 0 → (post (-1 : Int32) z0)))))))))))))
set_option maxHeartbeats 4000000 in
set_option maxRecDepth 100000 in
theorem cX6_folk_c {l : Launch} {G : wG} {h : Nat → Nat} {sz : Nat} {x1 : Int32} {x2 : Int32} {x3 : Int32} {post : Int32 → (wSt) → Prop} {z0 : wSt}  (hw : wpX6_folk x1 x2 x3 z0 post) : Met l yX6_folk (.code yX6_folk cX6_folk 4 (some .int) :: BIG) { frames := 1, cells := 0, slots := 0, locals := 25 } (xPw G [.ref (h 0), .int x1, .int x2, .int x3] (wsM G h z0) sz) (xQi G post (fun q => (wsM G h q)) (va_A (wsM G h z0) sz)) 0 0 (va_A (wsM G h z0) sz) := by
  refine xm_wi (by decide) (Nat.le_of_ble_eq_true rfl) (fun p e s m args below meth c A ls R Q hC hK hA hP hD hS hl hF hL hret => ?_)
  have hx := hC.1
  have hb := hC.2.1
  have hl : lv_has ls 4 [(0, .ref (h 0)), (1, .int x1), (2, .int x2), (3, .int x3)] := hl
  unfold wpX6_folk at hw
  refine lv_iload_n hx hb dX6_folk_0 rfl (lv_at hl 1 rfl) ?_
  refine lv_i2l (v := (x1.toInt64)) hx hb dX6_folk_1 rfl ?_
  refine lv_lconst (v := (0 : Int64)) hx hb dX6_folk_2 (by decide) ?_
  refine lv_ldc2 (v := (3 : Int64)) hx hb hC.2.2.2.1 (hC.2.2.2.2 _ bw_699) dX6_folk_3 ?_
  refine vp_callSi (xro (xr_S hC (cX6_in_c hw) ⟨rfl, rfl⟩ bw_700 calX6_in ⟨Nat.le_trans (Nat.le_of_ble_eq_true rfl) hF, Nat.le_trans (Nat.le_of_ble_eq_true rfl) hL⟩ (rest := []) (xpS hK) rfl hl rfl (Nat.le_of_ble_eq_true rfl) dX6_folk_6 ⟨Nat.zero_le _, Nat.zero_le _⟩)) (fun r1 hw => ?_)
  refine lv_if_eq (tgt := 38) hx hb dX6_folk_9 (by decide) (fun hc => ?_) (fun hc => ?_)
  · have hw := And.left hw hc
    refine lv_iconst (v := (-1 : Int32)) hx hb dX6_folk_38 (by decide) ?_
    exact hret _ _ _ _ _ _ hw hP hD hS dX6_folk_39
  · have hw := And.right hw hc
    refine lv_iload_n hx hb dX6_folk_12 rfl (lv_at hl 2 rfl) ?_
    refine lv_i2l (v := (x2.toInt64)) hx hb dX6_folk_13 rfl ?_
    refine lv_ldc2 (v := (-3 : Int64)) hx hb hC.2.2.2.1 (hC.2.2.2.2 _ bw_703) dX6_folk_14 ?_
    refine lv_ldc2 (v := (3 : Int64)) hx hb hC.2.2.2.1 (hC.2.2.2.2 _ bw_699) dX6_folk_17 ?_
    refine vp_callSi (xro (xr_S hC (cX6_in_c hw) ⟨rfl, rfl⟩ bw_700 calX6_in ⟨Nat.le_trans (Nat.le_of_ble_eq_true rfl) hF, Nat.le_trans (Nat.le_of_ble_eq_true rfl) hL⟩ (rest := []) (xpS hK) rfl hl rfl (Nat.le_of_ble_eq_true rfl) dX6_folk_20 ⟨Nat.zero_le _, Nat.zero_le _⟩)) (fun r2 hw => ?_)
    refine lv_if_eq (tgt := 38) hx hb dX6_folk_23 (by decide) (fun hc => ?_) (fun hc => ?_)
    · have hw := And.left hw hc
      refine lv_iconst (v := (-1 : Int32)) hx hb dX6_folk_38 (by decide) ?_
      exact hret _ _ _ _ _ _ hw hP hD hS dX6_folk_39
    · have hw := And.right hw hc
      refine lv_iload_n hx hb dX6_folk_26 rfl (lv_at hl 3 rfl) ?_
      refine lv_i2l (v := (x3.toInt64)) hx hb dX6_folk_27 rfl ?_
      refine lv_lconst (v := (1 : Int64)) hx hb dX6_folk_28 (by decide) ?_
      refine lv_ldc2 (v := (9 : Int64)) hx hb hC.2.2.2.1 (hC.2.2.2.2 _ bw_704) dX6_folk_29 ?_
      refine vp_callSi (xro (xr_S hC (cX6_in_c hw) ⟨rfl, rfl⟩ bw_700 calX6_in ⟨Nat.le_trans (Nat.le_of_ble_eq_true rfl) hF, Nat.le_trans (Nat.le_of_ble_eq_true rfl) hL⟩ (rest := []) (xpS hK) rfl hl rfl (Nat.le_of_ble_eq_true rfl) dX6_folk_32 ⟨Nat.zero_le _, Nat.zero_le _⟩)) (fun r3 hw => ?_)
      refine lv_if_ne (tgt := 40) hx hb dX6_folk_35 (by decide) (fun hc => ?_) (fun hc => ?_)
      · have hw := And.left hw hc
        refine lv_aload_n hx hb dX6_folk_40 rfl (lv_at hl 0 rfl) ?_
        refine rg_M_X6_0_5 hC hK hP dX6_folk_41 ?_
        refine lv_bipush (v := (6 : Int32)) hx hb dX6_folk_44 (by decide) ?_
        refine lv_icmp_ne (tgt := 52) hx hb dX6_folk_46 (by decide) (fun hc => ?_) (fun hc => ?_)
        · have hw := And.left hw hc
          refine lv_aload_n hx hb dX6_folk_52 rfl (lv_at hl 0 rfl) ?_
          refine lv_iload_n hx hb dX6_folk_53 rfl (lv_at hl 1 rfl) ?_
          refine lv_iload_n hx hb dX6_folk_54 rfl (lv_at hl 2 rfl) ?_
          refine lv_iload_n hx hb dX6_folk_55 rfl (lv_at hl 3 rfl) ?_
          refine xc_wv (wsz := fun q => (wsM G h q)) (f := fun u => u) (xr_V hC (cX6_add_c (h := h) hw) ⟨rfl, rfl⟩ bw_705 calX6_add ⟨Nat.le_trans (Nat.le_of_ble_eq_true rfl) hF, Nat.le_trans (Nat.le_of_ble_eq_true rfl) hL⟩ (rest := []) (xpV hK (cut_all_M) hP hD rfl rfl) rfl hl rfl (Nat.le_of_ble_eq_true rfl) dX6_folk_56 ⟨Nat.zero_le _, Nat.zero_le _⟩) (cut_all_M) hP hD hS hA (fun u z1 H locs hz1 hw hP hD hS => ?_)
          have hw := hw z1 hz1
          refine lv_aload_n hx hb dX6_folk_59 rfl (lv_at hl 0 rfl) ?_
          refine rg_M_X6_0_5 hC hK hP dX6_folk_60 ?_
          refine lv_iconst (v := (1 : Int32)) hx hb dX6_folk_63 (by decide) ?_
          refine lv_isub hx hb dX6_folk_64 ?_
          exact hret _ _ _ _ _ _ hw hP hD hS dX6_folk_65
        · have hw := And.right hw hc
          refine lv_bipush (v := (-3 : Int32)) hx hb dX6_folk_49 (by decide) ?_
          exact hret _ _ _ _ _ _ hw hP hD hS dX6_folk_51
      · have hw := And.right hw hc
        refine lv_iconst (v := (-1 : Int32)) hx hb dX6_folk_38 (by decide) ?_
        exact hret _ _ _ _ _ _ hw hP hD hS dX6_folk_39
def wpX6_told_51  (z0 : wSt) (post : Int32 → Prop) (x1 : Int32) (x2 : Int32) (t0 : Int32) : Prop := ((¬ x2 = 0 → ((¬ x2 = (1 : Int32) → ((¬ x2 = (2 : Int32) → ((¬ x2 = (3 : Int32) → (vp_in x1 6 ∧ (post ((w_a z0 3) x1.toNatClampNeg)))) ∧ (x2 = (3 : Int32) → (post t0)))) ∧ (x2 = (2 : Int32) → (vp_in x1 6 ∧ (post ((w_a z0 2) x1.toNatClampNeg)))))) ∧ (x2 = (1 : Int32) → (vp_in x1 6 ∧ (post ((w_a z0 1) x1.toNatClampNeg)))))) ∧ (x2 = 0 → (vp_in x1 6 ∧ (post ((w_a z0 0) x1.toNatClampNeg)))))
def wpX6_told (x1 : Int32) (x2 : Int32) (z0 : wSt) (post : Int32 → Prop) : Prop := (wpX6_isOne x1 z0 (fun r1 => ((r1 = 0 → (post (-100001 : Int32))) ∧ (¬ r1 = 0 → (wpX6_in (x2.toInt64) (0 : Int64) (4 : Int64) (fun r2 => ((¬ r2 = 0 → (vp_in x1 6 ∧ ((((w_a z0 4) x1.toNatClampNeg) ≤ (w_i z0 11) → (wpX6_told_51  z0 post x1 x2 (0 : Int32))) ∧ (¬ ((w_a z0 4) x1.toNatClampNeg) ≤ (w_i z0 11) → (vp_in x1 6 ∧ (wpX6_told_51  z0 post x1 x2 (((w_a z0 4) x1.toNatClampNeg) - (w_i z0 11)))))))) ∧ (r2 = 0 → (post (-100001 : Int32))))))))))
set_option maxHeartbeats 4000000 in
set_option maxRecDepth 100000 in
theorem cX6_told_c {l : Launch} {G : wG} {h : Nat → Nat} {x1 : Int32} {x2 : Int32} {post : Int32 → Prop} {z0 : wSt}  (hw : wpX6_told x1 x2 z0 post) : Met l yX6_told (.code yX6_told cX6_told 4 (some .int) :: BIG) { frames := 2, cells := 0, slots := 0, locals := 46 } (xPr G [.ref (h 0), .int x1, .int x2] (wsM G h z0)) (vp_Si post) 0 0 (fun _ => False) := by
  refine xm_ri (by decide) (Nat.le_of_ble_eq_true rfl) (fun p e s m args below meth c ls R Q hC hK hP hl hF hL hret => ?_)
  have hx := hC.1
  have hb := hC.2.1
  have hl : lv_has ls 4 [(0, .ref (h 0)), (1, .int x1), (2, .int x2)] := hl
  have B51 : ∀ (x1 : Int32) (x2 : Int32) (t0 : Int32) (ls : Array Slot), wpX6_told_51  z0 post x1 x2 t0 → lv_has ls 4 [(0, .ref (h 0)), (1, .int x1), (2, .int x2)] → W p l e R s m args below meth c s.heap [] 0 0 Q (F0 m 51 ls [.int t0]) := by
    intro x1 x2 t0 ls hw hl
    unfold wpX6_told_51 at hw
    refine lv_istore_n (lv' := [(3, .int t0), (0, .ref (h 0)), (1, .int x1), (2, .int x2)]) hx hb dX6_told_51 rfl hl (by decide) rfl (fun ls hl => ?_)
    refine lv_iload_n hx hb dX6_told_52 rfl (lv_at hl 3 rfl) ?_
    refine lv_if_ne (tgt := 65) hx hb dX6_told_53 (by decide) (fun hc => ?_) (fun hc => ?_)
    · have hw := And.left hw hc
      refine lv_iload_n hx hb dX6_told_65 rfl (lv_at hl 3 rfl) ?_
      refine lv_iconst (v := (1 : Int32)) hx hb dX6_told_66 (by decide) ?_
      refine lv_icmp_ne (tgt := 79) hx hb dX6_told_67 (by decide) (fun hc => ?_) (fun hc => ?_)
      · have hw := And.left hw hc
        refine lv_iload_n hx hb dX6_told_79 rfl (lv_at hl 3 rfl) ?_
        refine lv_iconst (v := (2 : Int32)) hx hb dX6_told_80 (by decide) ?_
        refine lv_icmp_ne (tgt := 93) hx hb dX6_told_81 (by decide) (fun hc => ?_) (fun hc => ?_)
        · have hw := And.left hw hc
          refine lv_iload_n hx hb dX6_told_93 rfl (lv_at hl 3 rfl) ?_
          refine lv_iconst (v := (3 : Int32)) hx hb dX6_told_94 (by decide) ?_
          refine lv_icmp_ne (tgt := 102) hx hb dX6_told_95 (by decide) (fun hc => ?_) (fun hc => ?_)
          · have hw := And.left hw hc
            refine lv_aload_n hx hb dX6_told_102 rfl (lv_at hl 1 rfl) ?_
            refine rg_M_X6_0_3 hC hK hP dX6_told_103 ?_
            refine lv_iload_n hx hb dX6_told_106 rfl (lv_at hl 2 rfl) ?_
            refine rl_M_4 hC hK hP (And.left hw) dX6_told_107 ?_
            have hw := And.right hw
            exact hret _ _ _ hw dX6_told_108
          · have hw := And.right hw hc
            refine lv_iload_n hx hb dX6_told_98 rfl (lv_at hl 0 rfl) ?_
            refine lv_goto (tgt := 108) hx hb dX6_told_99 (by decide) ?_
            exact hret _ _ _ hw dX6_told_108
        · have hw := And.right hw hc
          refine lv_aload_n hx hb dX6_told_84 rfl (lv_at hl 1 rfl) ?_
          refine rg_M_X6_0_2 hC hK hP dX6_told_85 ?_
          refine lv_iload_n hx hb dX6_told_88 rfl (lv_at hl 2 rfl) ?_
          refine rl_M_3 hC hK hP (And.left hw) dX6_told_89 ?_
          have hw := And.right hw
          refine lv_goto (tgt := 108) hx hb dX6_told_90 (by decide) ?_
          exact hret _ _ _ hw dX6_told_108
      · have hw := And.right hw hc
        refine lv_aload_n hx hb dX6_told_70 rfl (lv_at hl 1 rfl) ?_
        refine rg_M_X6_0_1 hC hK hP dX6_told_71 ?_
        refine lv_iload_n hx hb dX6_told_74 rfl (lv_at hl 2 rfl) ?_
        refine rl_M_2 hC hK hP (And.left hw) dX6_told_75 ?_
        have hw := And.right hw
        refine lv_goto (tgt := 108) hx hb dX6_told_76 (by decide) ?_
        exact hret _ _ _ hw dX6_told_108
    · have hw := And.right hw hc
      refine lv_aload_n hx hb dX6_told_56 rfl (lv_at hl 1 rfl) ?_
      refine rg_M_X6_0_0 hC hK hP dX6_told_57 ?_
      refine lv_iload_n hx hb dX6_told_60 rfl (lv_at hl 2 rfl) ?_
      refine rl_M_1 hC hK hP (And.left hw) dX6_told_61 ?_
      have hw := And.right hw
      refine lv_goto (tgt := 108) hx hb dX6_told_62 (by decide) ?_
      exact hret _ _ _ hw dX6_told_108
  unfold wpX6_told at hw
  refine lv_aload_n hx hb dX6_told_0 rfl (lv_at hl 0 rfl) ?_
  refine lv_iload_n hx hb dX6_told_1 rfl (lv_at hl 1 rfl) ?_
  refine vp_callSi (xro (xr_V hC (cX6_isOne_c (h := h) hw) ⟨rfl, rfl⟩ bw_713 calX6_isOne ⟨Nat.le_trans (Nat.le_of_ble_eq_true rfl) hF, Nat.le_trans (Nat.le_of_ble_eq_true rfl) hL⟩ (rest := []) (xpR hK hP rfl rfl) rfl hl rfl (Nat.le_of_ble_eq_true rfl) dX6_told_2 ⟨Nat.zero_le _, Nat.zero_le _⟩)) (fun r1 hw => ?_)
  refine lv_if_eq (tgt := 20) hx hb dX6_told_5 (by decide) (fun hc => ?_) (fun hc => ?_)
  · have hw := And.left hw hc
    refine lv_ldc (v := (-100001 : Int32)) hx hb hC.2.2.2.1 (hC.2.2.2.2 _ bw_718) dX6_told_20 ?_
    exact hret _ _ _ hw dX6_told_22
  · have hw := And.right hw hc
    refine lv_iload_n hx hb dX6_told_8 rfl (lv_at hl 2 rfl) ?_
    refine lv_i2l (v := (x2.toInt64)) hx hb dX6_told_9 rfl ?_
    refine lv_lconst (v := (0 : Int64)) hx hb dX6_told_10 (by decide) ?_
    refine lv_ldc2 (v := (4 : Int64)) hx hb hC.2.2.2.1 (hC.2.2.2.2 _ bw_717) dX6_told_11 ?_
    refine vp_callSi (xro (xr_S hC (cX6_in_c hw) ⟨rfl, rfl⟩ bw_700 calX6_in ⟨Nat.le_trans (Nat.le_of_ble_eq_true rfl) hF, Nat.le_trans (Nat.le_of_ble_eq_true rfl) hL⟩ (rest := []) (xpS hK) rfl hl rfl (Nat.le_of_ble_eq_true rfl) dX6_told_14 ⟨Nat.zero_le _, Nat.zero_le _⟩)) (fun r2 hw => ?_)
    refine lv_if_ne (tgt := 23) hx hb dX6_told_17 (by decide) (fun hc => ?_) (fun hc => ?_)
    · have hw := And.left hw hc
      refine lv_aload_n hx hb dX6_told_23 rfl (lv_at hl 0 rfl) ?_
      refine rg_M_X6_0_4 hC hK hP dX6_told_24 ?_
      refine lv_iload_n hx hb dX6_told_27 rfl (lv_at hl 1 rfl) ?_
      refine rl_M_5 hC hK hP (And.left hw) dX6_told_28 ?_
      have hw := And.right hw
      refine lv_aload_n hx hb dX6_told_29 rfl (lv_at hl 0 rfl) ?_
      refine rg_M_X6_0_11 hC hK hP dX6_told_30 ?_
      refine lv_icmp_le (tgt := 50) hx hb dX6_told_33 (by decide) (fun hc => ?_) (fun hc => ?_)
      · have hw := And.left hw hc
        refine lv_iconst (v := (0 : Int32)) hx hb dX6_told_50 (by decide) ?_
        exact B51 x1 x2 (0 : Int32) _ hw (lv_sub hl [0, 1, 2] rfl)
      · have hw := And.right hw hc
        refine lv_aload_n hx hb dX6_told_36 rfl (lv_at hl 0 rfl) ?_
        refine rg_M_X6_0_4 hC hK hP dX6_told_37 ?_
        refine lv_iload_n hx hb dX6_told_40 rfl (lv_at hl 1 rfl) ?_
        refine rl_M_5 hC hK hP (And.left hw) dX6_told_41 ?_
        have hw := And.right hw
        refine lv_aload_n hx hb dX6_told_42 rfl (lv_at hl 0 rfl) ?_
        refine rg_M_X6_0_11 hC hK hP dX6_told_43 ?_
        refine lv_isub hx hb dX6_told_46 ?_
        refine lv_goto (tgt := 51) hx hb dX6_told_47 (by decide) ?_
        exact B51 x1 x2 (((w_a z0 4) x1.toNatClampNeg) - (w_i z0 11)) _ hw (lv_sub hl [0, 1, 2] rfl)
    · have hw := And.right hw hc
      refine lv_ldc (v := (-100001 : Int32)) hx hb hC.2.2.2.1 (hC.2.2.2.2 _ bw_718) dX6_told_20 ?_
      exact hret _ _ _ hw dX6_told_22
def wpX6_setQuarrel_69  (post : (wSt) → Prop) (t0 : Int32) (t1 : Int32) (z0 : wSt) : Prop := (vp_in t1 6 ∧ ∀ z1 : wSt, z1 = (w_sa z0 3 (upd (w_a z0 3) t1.toNatClampNeg t0)) → (post z1))
def wpX6_setQuarrel_34  (post : (wSt) → Prop) (x1 : Int32) (x2 : Int32) (x3 : Int32) (t0 : Int32) (t1 : Int32) (z0 : wSt) : Prop := (vp_in t1 6 ∧ ∀ z1 : wSt, z1 = (w_sa z0 3 (upd (w_a z0 3) t1.toNatClampNeg t0)) → ((x3 = 0 → (vp_in x2 6 ∧ (wpX6_setQuarrel_69  post (((w_a z1 3) x2.toNatClampNeg) &&& (((1 : Int32) <<< (x1 &&& 31)) ^^^ (-1 : Int32))) x2 z1))) ∧ (¬ x3 = 0 → (vp_in x2 6 ∧ (wpX6_setQuarrel_69  post (((w_a z1 3) x2.toNatClampNeg) ||| ((1 : Int32) <<< (x1 &&& 31))) x2 z1)))))
def wpX6_setQuarrel (x1 : Int32) (x2 : Int32) (x3 : Int32) (z0 : wSt) (post : (wSt) → Prop) : Prop := ((x3 = 0 → (vp_in x1 6 ∧ (wpX6_setQuarrel_34  post x1 x2 x3 (((w_a z0 3) x1.toNatClampNeg) &&& (((1 : Int32) <<< (x2 &&& 31)) ^^^ (-1 : Int32))) x1 z0))) ∧ (¬ x3 = 0 → (vp_in x1 6 ∧ (wpX6_setQuarrel_34  post x1 x2 x3 (((w_a z0 3) x1.toNatClampNeg) ||| ((1 : Int32) <<< (x2 &&& 31))) x1 z0))))
set_option maxHeartbeats 4000000 in
set_option maxRecDepth 100000 in
theorem cX6_setQuarrel_c {l : Launch} {G : wG} {h : Nat → Nat} {sz : Nat} {x1 : Int32} {x2 : Int32} {x3 : Int32} {post : (wSt) → Prop} {z0 : wSt}  (hw : wpX6_setQuarrel x1 x2 x3 z0 post) : Met l yX6_setQuarrel (.code yX6_setQuarrel cX6_setQuarrel 4 none :: BIG) { frames := 0, cells := 0, slots := 0, locals := 0 } (xPw G [.ref (h 0), .int x1, .int x2, .int x3] (wsM G h z0) sz) (xQv G post (fun q => (wsM G h q)) (va_A (wsM G h z0) sz)) 0 0 (va_A (wsM G h z0) sz) := by
  refine xm_wv (by decide) (Nat.le_of_ble_eq_true rfl) (fun p e s m args below meth c A ls R Q hC hK hA hP hD hS hl hF hL hret => ?_)
  have hx := hC.1
  have hb := hC.2.1
  have hl : lv_has ls 4 [(0, .ref (h 0)), (1, .int x1), (2, .int x2), (3, .int x3)] := hl
  have B69 : ∀ (t0 : Int32) (t1 : Int32) (z0 : wSt) (H : Heap) (locs : List Loc) (ls : Array Slot), wpX6_setQuarrel_69  post t0 t1 z0 → va_P G.1 vwCl (wsM G h z0) H → va_D A (wsM G h z0) → va_S A s.heap H locs → lv_has ls 4 [] → W p l e R s m args below meth c H locs 0 0 Q (F0 m 69 ls [.int t0, .int t1, .ref (h 4)]) := by
    intro t0 t1 z0 H locs ls hw hP hD hS hl
    unfold wpX6_setQuarrel_69 at hw
    refine rs_M_4 hC hK hP hD hS (And.left hw) dX6_setQuarrel_69 (fun z1 H locs hz1 hP hD hS => ?_)
    have hw := And.right hw z1 hz1
    exact hret _ _ _ _ _ hw hP hD hS dX6_setQuarrel_70
  have B34 : ∀ (x1 : Int32) (x2 : Int32) (x3 : Int32) (t0 : Int32) (t1 : Int32) (z0 : wSt) (H : Heap) (locs : List Loc) (ls : Array Slot), wpX6_setQuarrel_34  post x1 x2 x3 t0 t1 z0 → va_P G.1 vwCl (wsM G h z0) H → va_D A (wsM G h z0) → va_S A s.heap H locs → lv_has ls 4 [(0, .ref (h 0)), (1, .int x1), (2, .int x2), (3, .int x3)] → W p l e R s m args below meth c H locs 0 0 Q (F0 m 34 ls [.int t0, .int t1, .ref (h 4)]) := by
    intro x1 x2 x3 t0 t1 z0 H locs ls hw hP hD hS hl
    unfold wpX6_setQuarrel_34 at hw
    refine rs_M_4 hC hK hP hD hS (And.left hw) dX6_setQuarrel_34 (fun z1 H locs hz1 hP hD hS => ?_)
    have hw := And.right hw z1 hz1
    refine lv_aload_n hx hb dX6_setQuarrel_35 rfl (lv_at hl 0 rfl) ?_
    refine rg_M_X6_0_3 hC hK hP dX6_setQuarrel_36 ?_
    refine lv_iload_n hx hb dX6_setQuarrel_39 rfl (lv_at hl 2 rfl) ?_
    refine lv_iload_n hx hb dX6_setQuarrel_40 rfl (lv_at hl 3 rfl) ?_
    refine lv_if_eq (tgt := 57) hx hb dX6_setQuarrel_41 (by decide) (fun hc => ?_) (fun hc => ?_)
    · have hw := And.left hw hc
      refine lv_aload_n hx hb dX6_setQuarrel_57 rfl (lv_at hl 0 rfl) ?_
      refine rg_M_X6_0_3 hC hK hP dX6_setQuarrel_58 ?_
      refine lv_iload_n hx hb dX6_setQuarrel_61 rfl (lv_at hl 2 rfl) ?_
      refine rl_M_4 hC hK hP (And.left hw) dX6_setQuarrel_62 ?_
      have hw := And.right hw
      refine lv_iconst (v := (1 : Int32)) hx hb dX6_setQuarrel_63 (by decide) ?_
      refine lv_iload_n hx hb dX6_setQuarrel_64 rfl (lv_at hl 1 rfl) ?_
      refine lv_ishl hx hb dX6_setQuarrel_65 ?_
      refine lv_iconst (v := (-1 : Int32)) hx hb dX6_setQuarrel_66 (by decide) ?_
      refine lv_ixor hx hb dX6_setQuarrel_67 ?_
      refine lv_iand hx hb dX6_setQuarrel_68 ?_
      exact B69 (((w_a z1 3) x2.toNatClampNeg) &&& (((1 : Int32) <<< (x1 &&& 31)) ^^^ (-1 : Int32))) x2 z1 _ _ _ hw hP hD hS (lv_sub hl [] rfl)
    · have hw := And.right hw hc
      refine lv_aload_n hx hb dX6_setQuarrel_44 rfl (lv_at hl 0 rfl) ?_
      refine rg_M_X6_0_3 hC hK hP dX6_setQuarrel_45 ?_
      refine lv_iload_n hx hb dX6_setQuarrel_48 rfl (lv_at hl 2 rfl) ?_
      refine rl_M_4 hC hK hP (And.left hw) dX6_setQuarrel_49 ?_
      have hw := And.right hw
      refine lv_iconst (v := (1 : Int32)) hx hb dX6_setQuarrel_50 (by decide) ?_
      refine lv_iload_n hx hb dX6_setQuarrel_51 rfl (lv_at hl 1 rfl) ?_
      refine lv_ishl hx hb dX6_setQuarrel_52 ?_
      refine lv_ior hx hb dX6_setQuarrel_53 ?_
      refine lv_goto (tgt := 69) hx hb dX6_setQuarrel_54 (by decide) ?_
      exact B69 (((w_a z1 3) x2.toNatClampNeg) ||| ((1 : Int32) <<< (x1 &&& 31))) x2 z1 _ _ _ hw hP hD hS (lv_sub hl [] rfl)
  unfold wpX6_setQuarrel at hw
  refine lv_aload_n hx hb dX6_setQuarrel_0 rfl (lv_at hl 0 rfl) ?_
  refine rg_M_X6_0_3 hC hK hP dX6_setQuarrel_1 ?_
  refine lv_iload_n hx hb dX6_setQuarrel_4 rfl (lv_at hl 1 rfl) ?_
  refine lv_iload_n hx hb dX6_setQuarrel_5 rfl (lv_at hl 3 rfl) ?_
  refine lv_if_eq (tgt := 22) hx hb dX6_setQuarrel_6 (by decide) (fun hc => ?_) (fun hc => ?_)
  · have hw := And.left hw hc
    refine lv_aload_n hx hb dX6_setQuarrel_22 rfl (lv_at hl 0 rfl) ?_
    refine rg_M_X6_0_3 hC hK hP dX6_setQuarrel_23 ?_
    refine lv_iload_n hx hb dX6_setQuarrel_26 rfl (lv_at hl 1 rfl) ?_
    refine rl_M_4 hC hK hP (And.left hw) dX6_setQuarrel_27 ?_
    have hw := And.right hw
    refine lv_iconst (v := (1 : Int32)) hx hb dX6_setQuarrel_28 (by decide) ?_
    refine lv_iload_n hx hb dX6_setQuarrel_29 rfl (lv_at hl 2 rfl) ?_
    refine lv_ishl hx hb dX6_setQuarrel_30 ?_
    refine lv_iconst (v := (-1 : Int32)) hx hb dX6_setQuarrel_31 (by decide) ?_
    refine lv_ixor hx hb dX6_setQuarrel_32 ?_
    refine lv_iand hx hb dX6_setQuarrel_33 ?_
    exact B34 x1 x2 x3 (((w_a z0 3) x1.toNatClampNeg) &&& (((1 : Int32) <<< (x2 &&& 31)) ^^^ (-1 : Int32))) x1 z0 _ _ _ hw hP hD hS (lv_sub hl [0, 1, 2, 3] rfl)
  · have hw := And.right hw hc
    refine lv_aload_n hx hb dX6_setQuarrel_9 rfl (lv_at hl 0 rfl) ?_
    refine rg_M_X6_0_3 hC hK hP dX6_setQuarrel_10 ?_
    refine lv_iload_n hx hb dX6_setQuarrel_13 rfl (lv_at hl 1 rfl) ?_
    refine rl_M_4 hC hK hP (And.left hw) dX6_setQuarrel_14 ?_
    have hw := And.right hw
    refine lv_iconst (v := (1 : Int32)) hx hb dX6_setQuarrel_15 (by decide) ?_
    refine lv_iload_n hx hb dX6_setQuarrel_16 rfl (lv_at hl 2 rfl) ?_
    refine lv_ishl hx hb dX6_setQuarrel_17 ?_
    refine lv_ior hx hb dX6_setQuarrel_18 ?_
    refine lv_goto (tgt := 34) hx hb dX6_setQuarrel_19 (by decide) ?_
    exact B34 x1 x2 x3 (((w_a z0 3) x1.toNatClampNeg) ||| ((1 : Int32) <<< (x2 &&& 31))) x1 z0 _ _ _ hw hP hD hS (lv_sub hl [0, 1, 2, 3] rfl)
def wpX6_quarrel (x1 : Int32) (x2 : Int32) (x3 : Int32) (z0 : wSt) (post : Int32 → (wSt) → Prop) : Prop := (wpX6_isOne x1 z0 (fun r1 => ((r1 = 0 → (post (-1 : Int32) z0)) ∧ (¬ r1 = 0 → (wpX6_isOne x2 z0 (fun r2 => ((r2 = 0 → (post (-1 : Int32) z0)) ∧ (¬ r2 = 0 → ((¬ x1 = x2 → (vp_in x1 6 ∧ (wpX6_setQuarrel x1 x2 x3 z0 (fun u => ∀ z1 : wSt, z1 = u → (post ((((w_a z0 3) x1.toNatClampNeg) >>> (x2 &&& 31)) &&& (1 : Int32)) z1))))) ∧ (x1 = x2 → (post (-1 : Int32) z0)))))))))))
set_option maxHeartbeats 4000000 in
set_option maxRecDepth 100000 in
theorem cX6_quarrel_c {l : Launch} {G : wG} {h : Nat → Nat} {sz : Nat} {x1 : Int32} {x2 : Int32} {x3 : Int32} {post : Int32 → (wSt) → Prop} {z0 : wSt}  (hw : wpX6_quarrel x1 x2 x3 z0 post) : Met l yX6_quarrel (.code yX6_quarrel cX6_quarrel 5 (some .int) :: BIG) { frames := 2, cells := 0, slots := 0, locals := 46 } (xPw G [.ref (h 0), .int x1, .int x2, .int x3] (wsM G h z0) sz) (xQi G post (fun q => (wsM G h q)) (va_A (wsM G h z0) sz)) 0 0 (va_A (wsM G h z0) sz) := by
  refine xm_wi (by decide) (Nat.le_of_ble_eq_true rfl) (fun p e s m args below meth c A ls R Q hC hK hA hP hD hS hl hF hL hret => ?_)
  have hx := hC.1
  have hb := hC.2.1
  have hl : lv_has ls 5 [(0, .ref (h 0)), (1, .int x1), (2, .int x2), (3, .int x3)] := hl
  unfold wpX6_quarrel at hw
  refine lv_aload_n hx hb dX6_quarrel_0 rfl (lv_at hl 0 rfl) ?_
  refine lv_iload_n hx hb dX6_quarrel_1 rfl (lv_at hl 1 rfl) ?_
  refine vp_callSi (xro (xr_V hC (cX6_isOne_c (h := h) hw) ⟨rfl, rfl⟩ bw_713 calX6_isOne ⟨Nat.le_trans (Nat.le_of_ble_eq_true rfl) hF, Nat.le_trans (Nat.le_of_ble_eq_true rfl) hL⟩ (rest := []) (xpR hK hP rfl rfl) rfl hl rfl (Nat.le_of_ble_eq_true rfl) dX6_quarrel_2 ⟨Nat.zero_le _, Nat.zero_le _⟩)) (fun r1 hw => ?_)
  refine lv_if_eq (tgt := 21) hx hb dX6_quarrel_5 (by decide) (fun hc => ?_) (fun hc => ?_)
  · have hw := And.left hw hc
    refine lv_iconst (v := (-1 : Int32)) hx hb dX6_quarrel_21 (by decide) ?_
    exact hret _ _ _ _ _ _ hw hP hD hS dX6_quarrel_22
  · have hw := And.right hw hc
    refine lv_aload_n hx hb dX6_quarrel_8 rfl (lv_at hl 0 rfl) ?_
    refine lv_iload_n hx hb dX6_quarrel_9 rfl (lv_at hl 2 rfl) ?_
    refine vp_callSi (xro (xr_V hC (cX6_isOne_c (h := h) hw) ⟨rfl, rfl⟩ bw_713 calX6_isOne ⟨Nat.le_trans (Nat.le_of_ble_eq_true rfl) hF, Nat.le_trans (Nat.le_of_ble_eq_true rfl) hL⟩ (rest := []) (xpR hK hP rfl rfl) rfl hl rfl (Nat.le_of_ble_eq_true rfl) dX6_quarrel_10 ⟨Nat.zero_le _, Nat.zero_le _⟩)) (fun r2 hw => ?_)
    refine lv_if_eq (tgt := 21) hx hb dX6_quarrel_13 (by decide) (fun hc => ?_) (fun hc => ?_)
    · have hw := And.left hw hc
      refine lv_iconst (v := (-1 : Int32)) hx hb dX6_quarrel_21 (by decide) ?_
      exact hret _ _ _ _ _ _ hw hP hD hS dX6_quarrel_22
    · have hw := And.right hw hc
      refine lv_iload_n hx hb dX6_quarrel_16 rfl (lv_at hl 1 rfl) ?_
      refine lv_iload_n hx hb dX6_quarrel_17 rfl (lv_at hl 2 rfl) ?_
      refine lv_icmp_ne (tgt := 23) hx hb dX6_quarrel_18 (by decide) (fun hc => ?_) (fun hc => ?_)
      · have hw := And.left hw hc
        refine lv_aload_n hx hb dX6_quarrel_23 rfl (lv_at hl 0 rfl) ?_
        refine rg_M_X6_0_3 hC hK hP dX6_quarrel_24 ?_
        refine lv_iload_n hx hb dX6_quarrel_27 rfl (lv_at hl 1 rfl) ?_
        refine rl_M_4 hC hK hP (And.left hw) dX6_quarrel_28 ?_
        have hw := And.right hw
        refine lv_iload_n hx hb dX6_quarrel_29 rfl (lv_at hl 2 rfl) ?_
        refine lv_ishr hx hb dX6_quarrel_30 ?_
        refine lv_iconst (v := (1 : Int32)) hx hb dX6_quarrel_31 (by decide) ?_
        refine lv_iand hx hb dX6_quarrel_32 ?_
        refine lv_istore (lv' := [(4, .int ((((w_a z0 3) x1.toNatClampNeg) >>> (x2 &&& 31)) &&& (1 : Int32))), (0, .ref (h 0)), (1, .int x1), (2, .int x2), (3, .int x3)]) hx hb dX6_quarrel_33 hl (by decide) rfl (fun ls hl => ?_)
        refine lv_aload_n hx hb dX6_quarrel_35 rfl (lv_at hl 1 rfl) ?_
        refine lv_iload_n hx hb dX6_quarrel_36 rfl (lv_at hl 2 rfl) ?_
        refine lv_iload_n hx hb dX6_quarrel_37 rfl (lv_at hl 3 rfl) ?_
        refine lv_iload_n hx hb dX6_quarrel_38 rfl (lv_at hl 4 rfl) ?_
        refine xc_wv (wsz := fun q => (wsM G h q)) (f := fun u => u) (xr_V hC (cX6_setQuarrel_c (h := h) hw) ⟨rfl, rfl⟩ bw_723 calX6_setQuarrel ⟨Nat.le_trans (Nat.le_of_ble_eq_true rfl) hF, Nat.le_trans (Nat.le_of_ble_eq_true rfl) hL⟩ (rest := []) (xpV hK (cut_all_M) hP hD rfl rfl) rfl hl rfl (Nat.le_of_ble_eq_true rfl) dX6_quarrel_39 ⟨Nat.zero_le _, Nat.zero_le _⟩) (cut_all_M) hP hD hS hA (fun u z1 H locs hz1 hw hP hD hS => ?_)
        have hw := hw z1 hz1
        refine lv_iload hx hb dX6_quarrel_42 (lv_at hl 0 rfl) ?_
        exact hret _ _ _ _ _ _ hw hP hD hS dX6_quarrel_44
      · have hw := And.right hw hc
        refine lv_iconst (v := (-1 : Int32)) hx hb dX6_quarrel_21 (by decide) ?_
        exact hret _ _ _ _ _ _ hw hP hD hS dX6_quarrel_22
def wpX6_set_127  (post : Int32 → (wSt) → Prop) (x3 : Int32) (t0 : Int32) (z0 : wSt) : Prop := (∀ z1 : wSt, z1 = (w_si z0 8 t0) → (post x3 z1))
def wpX6_set_110  (post : Int32 → (wSt) → Prop) (x1 : Int32) (x2 : Int32) (x3 : Int32) (t0 : Int32) (z0 : wSt) : Prop := (∀ z1 : wSt, z1 = (w_si z0 7 t0) → ((¬ x1 = (2 : Int32) → (wpX6_set_127  post x3 (w_i z1 8) z1)) ∧ (x1 = (2 : Int32) → (wpX6_set_127  post x3 x2 z1))))
def wpX6_set_93  (post : Int32 → (wSt) → Prop) (x1 : Int32) (x2 : Int32) (x3 : Int32) (t0 : Int32) (z0 : wSt) : Prop := (∀ z1 : wSt, z1 = (w_si z0 6 t0) → ((¬ x1 = (1 : Int32) → (wpX6_set_110  post x1 x2 x3 (w_i z1 7) z1)) ∧ (x1 = (1 : Int32) → (wpX6_set_110  post x1 x2 x3 x2 z1))))
def wpX6_set_79  (post : Int32 → (wSt) → Prop) (x1 : Int32) (x2 : Int32) (t0 : Int32) (z0 : wSt) : Prop := ((¬ x1 = 0 → (wpX6_set_93  post x1 x2 t0 (w_i z0 6) z0)) ∧ (x1 = 0 → (wpX6_set_93  post x1 x2 t0 x2 z0)))
def wpX6_set_52  (post : Int32 → (wSt) → Prop) (x1 : Int32) (x2 : Int32) (z0 : wSt) : Prop := ((¬ x1 = 0 → ((¬ x1 = (1 : Int32) → (wpX6_set_79  post x1 x2 (w_i z0 8) z0)) ∧ (x1 = (1 : Int32) → (wpX6_set_79  post x1 x2 (w_i z0 7) z0)))) ∧ (x1 = 0 → (wpX6_set_79  post x1 x2 (w_i z0 6) z0)))
def wpX6_set_43  (post : Int32 → (wSt) → Prop) (x1 : Int32) (x2 : Int32) (t0 : Int64) (t1 : Int64) (t2 : Int64) (z0 : wSt) : Prop := (wpX6_in t2 t1 t0 (fun r1 => ((¬ r1 = 0 → (wpX6_set_52  post x1 x2 z0)) ∧ (r1 = 0 → (post (-100001 : Int32) z0)))))
def wpX6_set (x1 : Int32) (x2 : Int32) (z0 : wSt) (post : Int32 → (wSt) → Prop) : Prop := (wpX6_in (x1.toInt64) (0 : Int64) (2 : Int64) (fun r1 => ((r1 = 0 → (post (-100001 : Int32) z0)) ∧ (¬ r1 = 0 → ((¬ x1 = 0 → ((¬ x1 = (1 : Int32) → (wpX6_set_43  post x1 x2 (9 : Int64) (0 : Int64) (x2.toInt64) z0)) ∧ (x1 = (1 : Int32) → (wpX6_set_43  post x1 x2 (999 : Int64) (0 : Int64) (x2.toInt64) z0)))) ∧ (x1 = 0 → (wpX6_isMood x2 (fun r2 => ((r2 = 0 → (post (-100001 : Int32) z0)) ∧ (¬ r2 = 0 → (wpX6_set_52  post x1 x2 z0)))))))))))
set_option maxHeartbeats 4000000 in
set_option maxRecDepth 100000 in
theorem cX6_set_c {l : Launch} {G : wG} {h : Nat → Nat} {sz : Nat} {x1 : Int32} {x2 : Int32} {post : Int32 → (wSt) → Prop} {z0 : wSt}  (hw : wpX6_set x1 x2 z0 post) : Met l yX6_set (.code yX6_set cX6_set 4 (some .int) :: BIG) { frames := 2, cells := 0, slots := 0, locals := 45 } (xPw G [.ref (h 0), .int x1, .int x2] (wsM G h z0) sz) (xQi G post (fun q => (wsM G h q)) (va_A (wsM G h z0) sz)) 0 0 (va_A (wsM G h z0) sz) := by
  refine xm_wi (by decide) (Nat.le_of_ble_eq_true rfl) (fun p e s m args below meth c A ls R Q hC hK hA hP hD hS hl hF hL hret => ?_)
  have hx := hC.1
  have hb := hC.2.1
  have hl : lv_has ls 4 [(0, .ref (h 0)), (1, .int x1), (2, .int x2)] := hl
  have B127 : ∀ (x3 : Int32) (t0 : Int32) (z0 : wSt) (H : Heap) (locs : List Loc) (ls : Array Slot), wpX6_set_127  post x3 t0 z0 → va_P G.1 vwCl (wsM G h z0) H → va_D A (wsM G h z0) → va_S A s.heap H locs → lv_has ls 4 [(3, .int x3)] → W p l e R s m args below meth c H locs 0 0 Q (F0 m 127 ls [.int t0, .ref (h 0)]) := by
    intro x3 t0 z0 H locs ls hw hP hD hS hl
    unfold wpX6_set_127 at hw
    refine rp_M_X6_0_8 hC hK hP hD hS dX6_set_127 (fun z1 H locs hz1 hP hD hS => ?_)
    have hw := hw z1 hz1
    refine lv_iload_n hx hb dX6_set_130 rfl (lv_at hl 0 rfl) ?_
    exact hret _ _ _ _ _ _ hw hP hD hS dX6_set_131
  have B110 : ∀ (x1 : Int32) (x2 : Int32) (x3 : Int32) (t0 : Int32) (z0 : wSt) (H : Heap) (locs : List Loc) (ls : Array Slot), wpX6_set_110  post x1 x2 x3 t0 z0 → va_P G.1 vwCl (wsM G h z0) H → va_D A (wsM G h z0) → va_S A s.heap H locs → lv_has ls 4 [(0, .ref (h 0)), (1, .int x1), (2, .int x2), (3, .int x3)] → W p l e R s m args below meth c H locs 0 0 Q (F0 m 110 ls [.int t0, .ref (h 0)]) := by
    intro x1 x2 x3 t0 z0 H locs ls hw hP hD hS hl
    unfold wpX6_set_110 at hw
    refine rp_M_X6_0_7 hC hK hP hD hS dX6_set_110 (fun z1 H locs hz1 hP hD hS => ?_)
    have hw := hw z1 hz1
    refine lv_aload_n hx hb dX6_set_113 rfl (lv_at hl 0 rfl) ?_
    refine lv_iload_n hx hb dX6_set_114 rfl (lv_at hl 1 rfl) ?_
    refine lv_iconst (v := (2 : Int32)) hx hb dX6_set_115 (by decide) ?_
    refine lv_icmp_ne (tgt := 123) hx hb dX6_set_116 (by decide) (fun hc => ?_) (fun hc => ?_)
    · have hw := And.left hw hc
      refine lv_aload_n hx hb dX6_set_123 rfl (lv_at hl 0 rfl) ?_
      refine rg_M_X6_0_8 hC hK hP dX6_set_124 ?_
      exact B127 x3 (w_i z1 8) z1 _ _ _ hw hP hD hS (lv_sub hl [3] rfl)
    · have hw := And.right hw hc
      refine lv_iload_n hx hb dX6_set_119 rfl (lv_at hl 2 rfl) ?_
      refine lv_goto (tgt := 127) hx hb dX6_set_120 (by decide) ?_
      exact B127 x3 x2 z1 _ _ _ hw hP hD hS (lv_sub hl [3] rfl)
  have B93 : ∀ (x1 : Int32) (x2 : Int32) (x3 : Int32) (t0 : Int32) (z0 : wSt) (H : Heap) (locs : List Loc) (ls : Array Slot), wpX6_set_93  post x1 x2 x3 t0 z0 → va_P G.1 vwCl (wsM G h z0) H → va_D A (wsM G h z0) → va_S A s.heap H locs → lv_has ls 4 [(0, .ref (h 0)), (1, .int x1), (2, .int x2), (3, .int x3)] → W p l e R s m args below meth c H locs 0 0 Q (F0 m 93 ls [.int t0, .ref (h 0)]) := by
    intro x1 x2 x3 t0 z0 H locs ls hw hP hD hS hl
    unfold wpX6_set_93 at hw
    refine rp_M_X6_0_6 hC hK hP hD hS dX6_set_93 (fun z1 H locs hz1 hP hD hS => ?_)
    have hw := hw z1 hz1
    refine lv_aload_n hx hb dX6_set_96 rfl (lv_at hl 0 rfl) ?_
    refine lv_iload_n hx hb dX6_set_97 rfl (lv_at hl 1 rfl) ?_
    refine lv_iconst (v := (1 : Int32)) hx hb dX6_set_98 (by decide) ?_
    refine lv_icmp_ne (tgt := 106) hx hb dX6_set_99 (by decide) (fun hc => ?_) (fun hc => ?_)
    · have hw := And.left hw hc
      refine lv_aload_n hx hb dX6_set_106 rfl (lv_at hl 0 rfl) ?_
      refine rg_M_X6_0_7 hC hK hP dX6_set_107 ?_
      exact B110 x1 x2 x3 (w_i z1 7) z1 _ _ _ hw hP hD hS (lv_sub hl [0, 1, 2, 3] rfl)
    · have hw := And.right hw hc
      refine lv_iload_n hx hb dX6_set_102 rfl (lv_at hl 2 rfl) ?_
      refine lv_goto (tgt := 110) hx hb dX6_set_103 (by decide) ?_
      exact B110 x1 x2 x3 x2 z1 _ _ _ hw hP hD hS (lv_sub hl [0, 1, 2, 3] rfl)
  have B79 : ∀ (x1 : Int32) (x2 : Int32) (t0 : Int32) (z0 : wSt) (H : Heap) (locs : List Loc) (ls : Array Slot), wpX6_set_79  post x1 x2 t0 z0 → va_P G.1 vwCl (wsM G h z0) H → va_D A (wsM G h z0) → va_S A s.heap H locs → lv_has ls 4 [(0, .ref (h 0)), (1, .int x1), (2, .int x2)] → W p l e R s m args below meth c H locs 0 0 Q (F0 m 79 ls [.int t0]) := by
    intro x1 x2 t0 z0 H locs ls hw hP hD hS hl
    unfold wpX6_set_79 at hw
    refine lv_istore_n (lv' := [(3, .int t0), (0, .ref (h 0)), (1, .int x1), (2, .int x2)]) hx hb dX6_set_79 rfl hl (by decide) rfl (fun ls hl => ?_)
    refine lv_aload_n hx hb dX6_set_80 rfl (lv_at hl 1 rfl) ?_
    refine lv_iload_n hx hb dX6_set_81 rfl (lv_at hl 2 rfl) ?_
    refine lv_if_ne (tgt := 89) hx hb dX6_set_82 (by decide) (fun hc => ?_) (fun hc => ?_)
    · have hw := And.left hw hc
      refine lv_aload_n hx hb dX6_set_89 rfl (lv_at hl 1 rfl) ?_
      refine rg_M_X6_0_6 hC hK hP dX6_set_90 ?_
      exact B93 x1 x2 t0 (w_i z0 6) z0 _ _ _ hw hP hD hS (lv_sub hl [1, 2, 3, 0] rfl)
    · have hw := And.right hw hc
      refine lv_iload_n hx hb dX6_set_85 rfl (lv_at hl 3 rfl) ?_
      refine lv_goto (tgt := 93) hx hb dX6_set_86 (by decide) ?_
      exact B93 x1 x2 t0 x2 z0 _ _ _ hw hP hD hS (lv_sub hl [1, 2, 3, 0] rfl)
  have B52 : ∀ (x1 : Int32) (x2 : Int32) (z0 : wSt) (H : Heap) (locs : List Loc) (ls : Array Slot), wpX6_set_52  post x1 x2 z0 → va_P G.1 vwCl (wsM G h z0) H → va_D A (wsM G h z0) → va_S A s.heap H locs → lv_has ls 4 [(0, .ref (h 0)), (1, .int x1), (2, .int x2)] → W p l e R s m args below meth c H locs 0 0 Q (F0 m 52 ls []) := by
    intro x1 x2 z0 H locs ls hw hP hD hS hl
    unfold wpX6_set_52 at hw
    refine lv_iload_n hx hb dX6_set_52 rfl (lv_at hl 1 rfl) ?_
    refine lv_if_ne (tgt := 63) hx hb dX6_set_53 (by decide) (fun hc => ?_) (fun hc => ?_)
    · have hw := And.left hw hc
      refine lv_iload_n hx hb dX6_set_63 rfl (lv_at hl 1 rfl) ?_
      refine lv_iconst (v := (1 : Int32)) hx hb dX6_set_64 (by decide) ?_
      refine lv_icmp_ne (tgt := 75) hx hb dX6_set_65 (by decide) (fun hc => ?_) (fun hc => ?_)
      · have hw := And.left hw hc
        refine lv_aload_n hx hb dX6_set_75 rfl (lv_at hl 0 rfl) ?_
        refine rg_M_X6_0_8 hC hK hP dX6_set_76 ?_
        exact B79 x1 x2 (w_i z0 8) z0 _ _ _ hw hP hD hS (lv_sub hl [0, 1, 2] rfl)
      · have hw := And.right hw hc
        refine lv_aload_n hx hb dX6_set_68 rfl (lv_at hl 0 rfl) ?_
        refine rg_M_X6_0_7 hC hK hP dX6_set_69 ?_
        refine lv_goto (tgt := 79) hx hb dX6_set_72 (by decide) ?_
        exact B79 x1 x2 (w_i z0 7) z0 _ _ _ hw hP hD hS (lv_sub hl [0, 1, 2] rfl)
    · have hw := And.right hw hc
      refine lv_aload_n hx hb dX6_set_56 rfl (lv_at hl 0 rfl) ?_
      refine rg_M_X6_0_6 hC hK hP dX6_set_57 ?_
      refine lv_goto (tgt := 79) hx hb dX6_set_60 (by decide) ?_
      exact B79 x1 x2 (w_i z0 6) z0 _ _ _ hw hP hD hS (lv_sub hl [0, 1, 2] rfl)
  have B43 : ∀ (x1 : Int32) (x2 : Int32) (t0 : Int64) (t1 : Int64) (t2 : Int64) (z0 : wSt) (H : Heap) (locs : List Loc) (ls : Array Slot), wpX6_set_43  post x1 x2 t0 t1 t2 z0 → va_P G.1 vwCl (wsM G h z0) H → va_D A (wsM G h z0) → va_S A s.heap H locs → lv_has ls 4 [(0, .ref (h 0)), (1, .int x1), (2, .int x2)] → W p l e R s m args below meth c H locs 0 0 Q (F0 m 43 ls [.long t0, .long t1, .long t2]) := by
    intro x1 x2 t0 t1 t2 z0 H locs ls hw hP hD hS hl
    unfold wpX6_set_43 at hw
    refine vp_callSi (xro (xr_S hC (cX6_in_c hw) ⟨rfl, rfl⟩ bw_700 calX6_in ⟨Nat.le_trans (Nat.le_of_ble_eq_true rfl) hF, Nat.le_trans (Nat.le_of_ble_eq_true rfl) hL⟩ (rest := []) (xpS hK) rfl hl rfl (Nat.le_of_ble_eq_true rfl) dX6_set_43 ⟨Nat.zero_le _, Nat.zero_le _⟩)) (fun r1 hw => ?_)
    refine lv_if_ne (tgt := 52) hx hb dX6_set_46 (by decide) (fun hc => ?_) (fun hc => ?_)
    · have hw := And.left hw hc
      exact B52 x1 x2 z0 _ _ _ hw hP hD hS (lv_sub hl [0, 1, 2] rfl)
    · have hw := And.right hw hc
      refine lv_ldc (v := (-100001 : Int32)) hx hb hC.2.2.2.1 (hC.2.2.2.2 _ bw_718) dX6_set_49 ?_
      exact hret _ _ _ _ _ _ hw hP hD hS dX6_set_51
  unfold wpX6_set at hw
  refine lv_iload_n hx hb dX6_set_0 rfl (lv_at hl 1 rfl) ?_
  refine lv_i2l (v := (x1.toInt64)) hx hb dX6_set_1 rfl ?_
  refine lv_lconst (v := (0 : Int64)) hx hb dX6_set_2 (by decide) ?_
  refine lv_ldc2 (v := (2 : Int64)) hx hb hC.2.2.2.1 (hC.2.2.2.2 _ bw_731) dX6_set_3 ?_
  refine vp_callSi (xro (xr_S hC (cX6_in_c hw) ⟨rfl, rfl⟩ bw_700 calX6_in ⟨Nat.le_trans (Nat.le_of_ble_eq_true rfl) hF, Nat.le_trans (Nat.le_of_ble_eq_true rfl) hL⟩ (rest := []) (xpS hK) rfl hl rfl (Nat.le_of_ble_eq_true rfl) dX6_set_6 ⟨Nat.zero_le _, Nat.zero_le _⟩)) (fun r1 hw => ?_)
  refine lv_if_eq (tgt := 49) hx hb dX6_set_9 (by decide) (fun hc => ?_) (fun hc => ?_)
  · have hw := And.left hw hc
    refine lv_ldc (v := (-100001 : Int32)) hx hb hC.2.2.2.1 (hC.2.2.2.2 _ bw_718) dX6_set_49 ?_
    exact hret _ _ _ _ _ _ hw hP hD hS dX6_set_51
  · have hw := And.right hw hc
    refine lv_iload_n hx hb dX6_set_12 rfl (lv_at hl 1 rfl) ?_
    refine lv_if_ne (tgt := 26) hx hb dX6_set_13 (by decide) (fun hc => ?_) (fun hc => ?_)
    · have hw := And.left hw hc
      refine lv_iload_n hx hb dX6_set_26 rfl (lv_at hl 2 rfl) ?_
      refine lv_i2l (v := (x2.toInt64)) hx hb dX6_set_27 rfl ?_
      refine lv_lconst (v := (0 : Int64)) hx hb dX6_set_28 (by decide) ?_
      refine lv_iload_n hx hb dX6_set_29 rfl (lv_at hl 1 rfl) ?_
      refine lv_iconst (v := (1 : Int32)) hx hb dX6_set_30 (by decide) ?_
      refine lv_icmp_ne (tgt := 40) hx hb dX6_set_31 (by decide) (fun hc => ?_) (fun hc => ?_)
      · have hw := And.left hw hc
        refine lv_ldc2 (v := (9 : Int64)) hx hb hC.2.2.2.1 (hC.2.2.2.2 _ bw_704) dX6_set_40 ?_
        exact B43 x1 x2 (9 : Int64) (0 : Int64) (x2.toInt64) z0 _ _ _ hw hP hD hS (lv_sub hl [0, 1, 2] rfl)
      · have hw := And.right hw hc
        refine lv_ldc2 (v := (999 : Int64)) hx hb hC.2.2.2.1 (hC.2.2.2.2 _ bw_736) dX6_set_34 ?_
        refine lv_goto (tgt := 43) hx hb dX6_set_37 (by decide) ?_
        exact B43 x1 x2 (999 : Int64) (0 : Int64) (x2.toInt64) z0 _ _ _ hw hP hD hS (lv_sub hl [0, 1, 2] rfl)
    · have hw := And.right hw hc
      refine lv_iload_n hx hb dX6_set_16 rfl (lv_at hl 2 rfl) ?_
      refine vp_callSi (xro (xr_S hC (cX6_isMood_c hw) ⟨rfl, rfl⟩ bw_732 calX6_isMood ⟨Nat.le_trans (Nat.le_of_ble_eq_true rfl) hF, Nat.le_trans (Nat.le_of_ble_eq_true rfl) hL⟩ (rest := []) (xpS hK) rfl hl rfl (Nat.le_of_ble_eq_true rfl) dX6_set_17 ⟨Nat.zero_le _, Nat.zero_le _⟩)) (fun r2 hw => ?_)
      refine lv_if_eq (tgt := 49) hx hb dX6_set_20 (by decide) (fun hc => ?_) (fun hc => ?_)
      · have hw := And.left hw hc
        refine lv_ldc (v := (-100001 : Int32)) hx hb hC.2.2.2.1 (hC.2.2.2.2 _ bw_718) dX6_set_49 ?_
        exact hret _ _ _ _ _ _ hw hP hD hS dX6_set_51
      · have hw := And.right hw hc
        refine lv_goto (tgt := 52) hx hb dX6_set_23 (by decide) ?_
        exact B52 x1 x2 z0 _ _ _ hw hP hD hS (lv_sub hl [0, 1, 2] rfl)
def wpX6_is (x1 : Int32) (z0 : wSt) (post : Int32 → Prop) : Prop := ((x1.toInt < 0 ∨ 8 < x1.toInt → (post (-100001 : Int32))) ∧ (x1 = (0 : Int32) → (post (w_i z0 6))) ∧ (x1 = (1 : Int32) → (post (w_i z0 7))) ∧ (x1 = (2 : Int32) → (post (w_i z0 8))) ∧ (x1 = (3 : Int32) → (post (w_i z0 9))) ∧ (x1 = (4 : Int32) → (post (w_i z0 10))) ∧ (x1 = (5 : Int32) → (post (w_i z0 11))) ∧ (x1 = (6 : Int32) → (post (w_i z0 5))) ∧ (x1 = (7 : Int32) → (post (w_i z0 14))) ∧ (x1 = (8 : Int32) → (post (w_i z0 12))))
set_option maxHeartbeats 4000000 in
set_option maxRecDepth 100000 in
theorem cX6_is_c {l : Launch} {G : wG} {h : Nat → Nat} {x1 : Int32} {post : Int32 → Prop} {z0 : wSt}  (hw : wpX6_is x1 z0 post) : Met l yX6_is (.code yX6_is cX6_is 2 (some .int) :: BIG) { frames := 0, cells := 0, slots := 0, locals := 0 } (xPr G [.ref (h 0), .int x1] (wsM G h z0)) (vp_Si post) 0 0 (fun _ => False) := by
  refine xm_ri (by decide) (Nat.le_of_ble_eq_true rfl) (fun p e s m args below meth c ls R Q hC hK hP hl hF hL hret => ?_)
  have hx := hC.1
  have hb := hC.2.1
  have hl : lv_has ls 2 [(0, .ref (h 0)), (1, .int x1)] := hl
  unfold wpX6_is at hw
  refine lv_iload_n hx hb dX6_is_0 rfl (lv_at hl 1 rfl) ?_
  rcases x_tswL x1 0 9 (by decide) with hq | ⟨j, hj, hq⟩
  · have hw := And.left hw (by omega)
    refine lv_tableOut (tgt := 97) hx hb dX6_is_1 (by omega) (by decide) ?_
    refine lv_ldc (v := (-100001 : Int32)) hx hb hC.2.2.2.1 (hC.2.2.2.2 _ bw_718) dX6_is_97 ?_
    exact hret _ _ _ hw dX6_is_99
  · have hw := And.right hw
    obtain rfl | rfl | rfl | rfl | rfl | rfl | rfl | rfl | rfl : j = 0 ∨ j = 1 ∨ j = 2 ∨ j = 3 ∨ j = 4 ∨ j = 5 ∨ j = 6 ∨ j = 7 ∨ j = 8 := by omega
    · have hw := (And.left hw) hq
      refine lv_tableIn (off := 51) (tgt := 52) hx hb dX6_is_1 (by rw [hq]; decide) (by rw [hq]; decide) (by rw [hq]; rfl) (by decide) ?_
      refine lv_aload_n hx hb dX6_is_52 rfl (lv_at hl 0 rfl) ?_
      refine rg_M_X6_0_6 hC hK hP dX6_is_53 ?_
      exact hret _ _ _ hw dX6_is_56
    · have hw := (And.left (And.right hw)) hq
      refine lv_tableIn (off := 56) (tgt := 57) hx hb dX6_is_1 (by rw [hq]; decide) (by rw [hq]; decide) (by rw [hq]; rfl) (by decide) ?_
      refine lv_aload_n hx hb dX6_is_57 rfl (lv_at hl 0 rfl) ?_
      refine rg_M_X6_0_7 hC hK hP dX6_is_58 ?_
      exact hret _ _ _ hw dX6_is_61
    · have hw := (And.left (And.right (And.right hw))) hq
      refine lv_tableIn (off := 61) (tgt := 62) hx hb dX6_is_1 (by rw [hq]; decide) (by rw [hq]; decide) (by rw [hq]; rfl) (by decide) ?_
      refine lv_aload_n hx hb dX6_is_62 rfl (lv_at hl 0 rfl) ?_
      refine rg_M_X6_0_8 hC hK hP dX6_is_63 ?_
      exact hret _ _ _ hw dX6_is_66
    · have hw := (And.left (And.right (And.right (And.right hw)))) hq
      refine lv_tableIn (off := 66) (tgt := 67) hx hb dX6_is_1 (by rw [hq]; decide) (by rw [hq]; decide) (by rw [hq]; rfl) (by decide) ?_
      refine lv_aload_n hx hb dX6_is_67 rfl (lv_at hl 0 rfl) ?_
      refine rg_M_X6_0_9 hC hK hP dX6_is_68 ?_
      exact hret _ _ _ hw dX6_is_71
    · have hw := (And.left (And.right (And.right (And.right (And.right hw))))) hq
      refine lv_tableIn (off := 71) (tgt := 72) hx hb dX6_is_1 (by rw [hq]; decide) (by rw [hq]; decide) (by rw [hq]; rfl) (by decide) ?_
      refine lv_aload_n hx hb dX6_is_72 rfl (lv_at hl 0 rfl) ?_
      refine rg_M_X6_0_10 hC hK hP dX6_is_73 ?_
      exact hret _ _ _ hw dX6_is_76
    · have hw := (And.left (And.right (And.right (And.right (And.right (And.right hw)))))) hq
      refine lv_tableIn (off := 76) (tgt := 77) hx hb dX6_is_1 (by rw [hq]; decide) (by rw [hq]; decide) (by rw [hq]; rfl) (by decide) ?_
      refine lv_aload_n hx hb dX6_is_77 rfl (lv_at hl 0 rfl) ?_
      refine rg_M_X6_0_11 hC hK hP dX6_is_78 ?_
      exact hret _ _ _ hw dX6_is_81
    · have hw := (And.left (And.right (And.right (And.right (And.right (And.right (And.right hw))))))) hq
      refine lv_tableIn (off := 81) (tgt := 82) hx hb dX6_is_1 (by rw [hq]; decide) (by rw [hq]; decide) (by rw [hq]; rfl) (by decide) ?_
      refine lv_aload_n hx hb dX6_is_82 rfl (lv_at hl 0 rfl) ?_
      refine rg_M_X6_0_5 hC hK hP dX6_is_83 ?_
      exact hret _ _ _ hw dX6_is_86
    · have hw := (And.left (And.right (And.right (And.right (And.right (And.right (And.right (And.right hw)))))))) hq
      refine lv_tableIn (off := 86) (tgt := 87) hx hb dX6_is_1 (by rw [hq]; decide) (by rw [hq]; decide) (by rw [hq]; rfl) (by decide) ?_
      refine lv_aload_n hx hb dX6_is_87 rfl (lv_at hl 0 rfl) ?_
      refine rg_M_X6_0_14 hC hK hP dX6_is_88 ?_
      exact hret _ _ _ hw dX6_is_91
    · have hw := ((And.right (And.right (And.right (And.right (And.right (And.right (And.right (And.right hw))))))))) hq
      refine lv_tableIn (off := 91) (tgt := 92) hx hb dX6_is_1 (by rw [hq]; decide) (by rw [hq]; decide) (by rw [hq]; rfl) (by decide) ?_
      refine lv_aload_n hx hb dX6_is_92 rfl (lv_at hl 0 rfl) ?_
      refine rg_M_X6_0_12 hC hK hP dX6_is_93 ?_
      exact hret _ _ _ hw dX6_is_96
def wpX6_type_74 (k74 : Int64 → Int32 → (wSt) → Prop) (post : Int32 → (wSt) → Prop) (x1 : Int64) (x4 : Int32) (z0 : wSt) : Prop := ((x4 < 0 → (post (w_i z0 17) z0)) ∧ (¬ x4 < 0 → (vp_in (w_i z0 17) 60 ∧ ∀ z1 : wSt, z1 = (w_sa z0 16 (upd (w_a z0 16) (w_i z0 17).toNatClampNeg (((x1 >>> (((8 : Int32) * x4).toInt64 &&& 63)) &&& (255 : Int64)).toInt32))) → (∀ z2 : wSt, z2 = (w_si z1 17 ((w_i z1 17) + (1 : Int32))) → (k74 x1 (x4 + (-1 : Int32)) z2)))))
def wpX6_type_L74  (post : Int32 → (wSt) → Prop) : Nat → Int64 → Int32 → (wSt) → Prop
  | 0 => fun _ _ _ => False
  | n + 1 => fun x1 x4 z0 => wpX6_type_74  (wpX6_type_L74  post n) post x1 x4 z0
def wpX6_type_19 (k19 : Int64 → Int32 → Int32 → (wSt) → Prop) (post : Int32 → (wSt) → Prop) (x1 : Int64) (x3 : Int32) (x4 : Int32) (z0 : wSt) : Prop := ((x4 < 0 → ((((w_i z0 17) + x3) ≤ (60 : Int32) → (∃ n, wpX6_type_L74  post n x1 (x3 - (1 : Int32)) z0)) ∧ (¬ ((w_i z0 17) + x3) ≤ (60 : Int32) → (post (-3 : Int32) z0)))) ∧ (¬ x4 < 0 → (wpX6_in ((x1 >>> (((8 : Int32) * x4).toInt64 &&& 63)) &&& (255 : Int64)) (32 : Int64) (126 : Int64) (fun r1 => ((¬ r1 = 0 → (k19 x1 x3 (x4 + (-1 : Int32)) z0)) ∧ (r1 = 0 → (post (-1 : Int32) z0)))))))
def wpX6_type_L19  (post : Int32 → (wSt) → Prop) : Nat → Int64 → Int32 → Int32 → (wSt) → Prop
  | 0 => fun _ _ _ _ => False
  | n + 1 => fun x1 x3 x4 z0 => wpX6_type_19  (wpX6_type_L19  post n) post x1 x3 x4 z0
def wpX6_type (x1 : Int64) (x3 : Int32) (z0 : wSt) (post : Int32 → (wSt) → Prop) : Prop := (wpX6_in (x3.toInt64) (1 : Int64) (8 : Int64) (fun r1 => ((¬ r1 = 0 → (∃ n, wpX6_type_L19  post n x1 x3 (x3 - (1 : Int32)) z0)) ∧ (r1 = 0 → (post (-1 : Int32) z0)))))
set_option maxHeartbeats 4000000 in
set_option maxRecDepth 100000 in
theorem cX6_type_c {l : Launch} {G : wG} {h : Nat → Nat} {sz : Nat} {x1 : Int64} {x3 : Int32} {post : Int32 → (wSt) → Prop} {z0 : wSt}  (hw : wpX6_type x1 x3 z0 post) : Met l yX6_type (.code yX6_type cX6_type 5 (some .int) :: BIG) { frames := 1, cells := 0, slots := 0, locals := 25 } (xPw G [.ref (h 0), .long x1, .int x3] (wsM G h z0) sz) (xQi G post (fun q => (wsM G h q)) (va_A (wsM G h z0) sz)) 0 0 (va_A (wsM G h z0) sz) := by
  refine xm_wi (by decide) (Nat.le_of_ble_eq_true rfl) (fun p e s m args below meth c A ls R Q hC hK hA hP hD hS hl hF hL hret => ?_)
  have hx := hC.1
  have hb := hC.2.1
  have hl : lv_has ls 5 [(0, .ref (h 0)), (1, .long x1), (3, .int x3)] := hl
  have B74 : ∀ n : Nat, ∀ (x1 : Int64) (x4 : Int32) (z0 : wSt) (H : Heap) (locs : List Loc) (ls : Array Slot), wpX6_type_L74  post n x1 x4 z0 → va_P G.1 vwCl (wsM G h z0) H → va_D A (wsM G h z0) → va_S A s.heap H locs → lv_has ls 5 [(0, .ref (h 0)), (1, .long x1), (4, .int x4)] → W p l e R s m args below meth c H locs 0 0 Q (F0 m 74 ls []) := by
    intro n
    induction n with
    | zero => intro x1 x4 z0 H locs ls hw hP hD hS hl; exact False.elim hw
    | succ n I74 =>
      intro x1 x4 z0 H locs ls hw hP hD hS hl
      have hw : wpX6_type_74  (wpX6_type_L74  post n) post x1 x4 z0 := hw
      unfold wpX6_type_74 at hw
      refine lv_iload hx hb dX6_type_74 (lv_at hl 2 rfl) ?_
      refine lv_if_lt (tgt := 116) hx hb dX6_type_76 (by decide) (fun hc => ?_) (fun hc => ?_)
      · have hw := And.left hw hc
        refine lv_aload_n hx hb dX6_type_116 rfl (lv_at hl 0 rfl) ?_
        refine rg_M_X6_0_17 hC hK hP dX6_type_117 ?_
        exact hret _ _ _ _ _ _ hw hP hD hS dX6_type_120
      · have hw := And.right hw hc
        refine lv_aload_n hx hb dX6_type_79 rfl (lv_at hl 0 rfl) ?_
        refine rg_M_X6_0_16 hC hK hP dX6_type_80 ?_
        refine lv_aload_n hx hb dX6_type_83 rfl (lv_at hl 0 rfl) ?_
        refine rg_M_X6_0_17 hC hK hP dX6_type_84 ?_
        refine lv_lload_n hx hb dX6_type_87 rfl (lv_at hl 1 rfl) ?_
        refine lv_bipush (v := (8 : Int32)) hx hb dX6_type_88 (by decide) ?_
        refine lv_iload hx hb dX6_type_90 (lv_at hl 2 rfl) ?_
        refine lv_imul hx hb dX6_type_92 ?_
        refine lv_lshr (v := (x1 >>> (((8 : Int32) * x4).toInt64 &&& 63))) hx hb dX6_type_93 rfl ?_
        refine lv_ldc2 (v := (255 : Int64)) hx hb hC.2.2.2.1 (hC.2.2.2.2 _ bw_746) dX6_type_94 ?_
        refine lv_land hx hb dX6_type_97 ?_
        refine lv_l2i (v := (((x1 >>> (((8 : Int32) * x4).toInt64 &&& 63)) &&& (255 : Int64)).toInt32)) hx hb dX6_type_98 rfl ?_
        refine rs_M_7 hC hK hP hD hS (And.left hw) dX6_type_99 (fun z1 H locs hz1 hP hD hS => ?_)
        have hw := And.right hw z1 hz1
        refine lv_aload_n hx hb dX6_type_100 rfl (lv_at hl 0 rfl) ?_
        refine lv_dup hx hb dX6_type_101 rfl ?_
        refine rg_M_X6_0_17 hC hK hP dX6_type_102 ?_
        refine lv_iconst (v := (1 : Int32)) hx hb dX6_type_105 (by decide) ?_
        refine lv_iadd hx hb dX6_type_106 ?_
        refine rp_M_X6_0_17 hC hK hP hD hS dX6_type_107 (fun z2 H locs hz1 hP hD hS => ?_)
        have hw := hw z2 hz1
        refine lv_iinc (v := (x4 + (-1 : Int32))) (lv' := [(4, .int (x4 + (-1 : Int32))), (0, .ref (h 0)), (1, .long x1)]) hx hb dX6_type_110 hl (k := 2) rfl rfl (by decide) rfl (fun ls hl => ?_)
        refine lv_goto (tgt := 74) hx hb dX6_type_113 (by decide) ?_
        exact I74 x1 (x4 + (-1 : Int32)) z2 _ _ _ hw hP hD hS (lv_sub hl [1, 2, 0] rfl)
  have B19 : ∀ n : Nat, ∀ (x1 : Int64) (x3 : Int32) (x4 : Int32) (z0 : wSt) (H : Heap) (locs : List Loc) (ls : Array Slot), wpX6_type_L19  post n x1 x3 x4 z0 → va_P G.1 vwCl (wsM G h z0) H → va_D A (wsM G h z0) → va_S A s.heap H locs → lv_has ls 5 [(0, .ref (h 0)), (1, .long x1), (3, .int x3), (4, .int x4)] → W p l e R s m args below meth c H locs 0 0 Q (F0 m 19 ls []) := by
    intro n
    induction n with
    | zero => intro x1 x3 x4 z0 H locs ls hw hP hD hS hl; exact False.elim hw
    | succ n I19 =>
      intro x1 x3 x4 z0 H locs ls hw hP hD hS hl
      have hw : wpX6_type_19  (wpX6_type_L19  post n) post x1 x3 x4 z0 := hw
      unfold wpX6_type_19 at hw
      refine lv_iload hx hb dX6_type_19 (lv_at hl 3 rfl) ?_
      refine lv_if_lt (tgt := 55) hx hb dX6_type_21 (by decide) (fun hc => ?_) (fun hc => ?_)
      · have hw := And.left hw hc
        refine lv_aload_n hx hb dX6_type_55 rfl (lv_at hl 0 rfl) ?_
        refine rg_M_X6_0_17 hC hK hP dX6_type_56 ?_
        refine lv_iload_n hx hb dX6_type_59 rfl (lv_at hl 2 rfl) ?_
        refine lv_iadd hx hb dX6_type_60 ?_
        refine lv_bipush (v := (60 : Int32)) hx hb dX6_type_61 (by decide) ?_
        refine lv_icmp_le (tgt := 69) hx hb dX6_type_63 (by decide) (fun hc => ?_) (fun hc => ?_)
        · have hw := And.left hw hc
          refine lv_iload_n hx hb dX6_type_69 rfl (lv_at hl 2 rfl) ?_
          refine lv_iconst (v := (1 : Int32)) hx hb dX6_type_70 (by decide) ?_
          refine lv_isub hx hb dX6_type_71 ?_
          refine lv_istore (lv' := [(4, .int (x3 - (1 : Int32))), (0, .ref (h 0)), (1, .long x1), (3, .int x3)]) hx hb dX6_type_72 hl (by decide) rfl (fun ls hl => ?_)
          obtain ⟨n74, hw⟩ := hw
          exact B74 n74 x1 (x3 - (1 : Int32)) z0 _ _ _ hw hP hD hS (lv_sub hl [1, 2, 0] rfl)
        · have hw := And.right hw hc
          refine lv_bipush (v := (-3 : Int32)) hx hb dX6_type_66 (by decide) ?_
          exact hret _ _ _ _ _ _ hw hP hD hS dX6_type_68
      · have hw := And.right hw hc
        refine lv_lload_n hx hb dX6_type_24 rfl (lv_at hl 1 rfl) ?_
        refine lv_bipush (v := (8 : Int32)) hx hb dX6_type_25 (by decide) ?_
        refine lv_iload hx hb dX6_type_27 (lv_at hl 3 rfl) ?_
        refine lv_imul hx hb dX6_type_29 ?_
        refine lv_lshr (v := (x1 >>> (((8 : Int32) * x4).toInt64 &&& 63))) hx hb dX6_type_30 rfl ?_
        refine lv_ldc2 (v := (255 : Int64)) hx hb hC.2.2.2.1 (hC.2.2.2.2 _ bw_746) dX6_type_31 ?_
        refine lv_land hx hb dX6_type_34 ?_
        refine lv_ldc2 (v := (32 : Int64)) hx hb hC.2.2.2.1 (hC.2.2.2.2 _ bw_747) dX6_type_35 ?_
        refine lv_ldc2 (v := (126 : Int64)) hx hb hC.2.2.2.1 (hC.2.2.2.2 _ bw_748) dX6_type_38 ?_
        refine vp_callSi (xro (xr_S hC (cX6_in_c hw) ⟨rfl, rfl⟩ bw_700 calX6_in ⟨Nat.le_trans (Nat.le_of_ble_eq_true rfl) hF, Nat.le_trans (Nat.le_of_ble_eq_true rfl) hL⟩ (rest := []) (xpS hK) rfl hl rfl (Nat.le_of_ble_eq_true rfl) dX6_type_41 ⟨Nat.zero_le _, Nat.zero_le _⟩)) (fun r1 hw => ?_)
        refine lv_if_ne (tgt := 49) hx hb dX6_type_44 (by decide) (fun hc => ?_) (fun hc => ?_)
        · have hw := And.left hw hc
          refine lv_iinc (v := (x4 + (-1 : Int32))) (lv' := [(4, .int (x4 + (-1 : Int32))), (0, .ref (h 0)), (1, .long x1), (3, .int x3)]) hx hb dX6_type_49 hl (k := 3) rfl rfl (by decide) rfl (fun ls hl => ?_)
          refine lv_goto (tgt := 19) hx hb dX6_type_52 (by decide) ?_
          exact I19 x1 x3 (x4 + (-1 : Int32)) z0 _ _ _ hw hP hD hS (lv_sub hl [1, 2, 3, 0] rfl)
        · have hw := And.right hw hc
          refine lv_iconst (v := (-1 : Int32)) hx hb dX6_type_47 (by decide) ?_
          exact hret _ _ _ _ _ _ hw hP hD hS dX6_type_48
  unfold wpX6_type at hw
  refine lv_iload_n hx hb dX6_type_0 rfl (lv_at hl 2 rfl) ?_
  refine lv_i2l (v := (x3.toInt64)) hx hb dX6_type_1 rfl ?_
  refine lv_lconst (v := (1 : Int64)) hx hb dX6_type_2 (by decide) ?_
  refine lv_ldc2 (v := (8 : Int64)) hx hb hC.2.2.2.1 (hC.2.2.2.2 _ bw_745) dX6_type_3 ?_
  refine vp_callSi (xro (xr_S hC (cX6_in_c hw) ⟨rfl, rfl⟩ bw_700 calX6_in ⟨Nat.le_trans (Nat.le_of_ble_eq_true rfl) hF, Nat.le_trans (Nat.le_of_ble_eq_true rfl) hL⟩ (rest := []) (xpS hK) rfl hl rfl (Nat.le_of_ble_eq_true rfl) dX6_type_6 ⟨Nat.zero_le _, Nat.zero_le _⟩)) (fun r1 hw => ?_)
  refine lv_if_ne (tgt := 14) hx hb dX6_type_9 (by decide) (fun hc => ?_) (fun hc => ?_)
  · have hw := And.left hw hc
    refine lv_iload_n hx hb dX6_type_14 rfl (lv_at hl 2 rfl) ?_
    refine lv_iconst (v := (1 : Int32)) hx hb dX6_type_15 (by decide) ?_
    refine lv_isub hx hb dX6_type_16 ?_
    refine lv_istore (lv' := [(4, .int (x3 - (1 : Int32))), (0, .ref (h 0)), (1, .long x1), (3, .int x3)]) hx hb dX6_type_17 hl (by decide) rfl (fun ls hl => ?_)
    obtain ⟨n19, hw⟩ := hw
    exact B19 n19 x1 x3 (x3 - (1 : Int32)) z0 _ _ _ hw hP hD hS (lv_sub hl [1, 2, 3, 0] rfl)
  · have hw := And.right hw hc
    refine lv_iconst (v := (-1 : Int32)) hx hb dX6_type_12 (by decide) ?_
    exact hret _ _ _ _ _ _ hw hP hD hS dX6_type_13
def wpX6_nextByte_38  (post : Int32 → (wSt) → Prop)  (z0 : wSt) : Prop := (((w_i z0 17) ≤ (w_i z0 18) → (post (-1 : Int32) z0)) ∧ (¬ (w_i z0 17) ≤ (w_i z0 18) → (vp_in (w_i z0 18) 60 ∧ (post ((w_a z0 16) (w_i z0 18).toNatClampNeg) z0))))
def wpX6_nextByte_0 (k0 : (wSt) → Prop) (post : Int32 → (wSt) → Prop)  (z0 : wSt) : Prop := (((w_i z0 17) ≤ (w_i z0 18) → (wpX6_nextByte_38  post z0)) ∧ (¬ (w_i z0 17) ≤ (w_i z0 18) → (vp_in (w_i z0 18) 60 ∧ ((¬ ((w_a z0 16) (w_i z0 18).toNatClampNeg) = (32 : Int32) → (wpX6_nextByte_38  post z0)) ∧ (((w_a z0 16) (w_i z0 18).toNatClampNeg) = (32 : Int32) → (∀ z1 : wSt, z1 = (w_si z0 18 ((w_i z0 18) + (1 : Int32))) → (k0 z1)))))))
def wpX6_nextByte_L0  (post : Int32 → (wSt) → Prop) : Nat → (wSt) → Prop
  | 0 => fun _ => False
  | n + 1 => fun z0 => wpX6_nextByte_0  (wpX6_nextByte_L0  post n) post z0
def wpX6_nextByte (z0 : wSt) (post : Int32 → (wSt) → Prop) : Prop := (∃ n, wpX6_nextByte_L0  post n z0)
set_option maxHeartbeats 4000000 in
set_option maxRecDepth 100000 in
theorem cX6_nextByte_c {l : Launch} {G : wG} {h : Nat → Nat} {sz : Nat}  {post : Int32 → (wSt) → Prop} {z0 : wSt}  (hw : wpX6_nextByte z0 post) : Met l yX6_nextByte (.code yX6_nextByte cX6_nextByte 1 (some .int) :: BIG) { frames := 0, cells := 0, slots := 0, locals := 0 } (xPw G [.ref (h 0)] (wsM G h z0) sz) (xQi G post (fun q => (wsM G h q)) (va_A (wsM G h z0) sz)) 0 0 (va_A (wsM G h z0) sz) := by
  refine xm_wi (by decide) (Nat.le_of_ble_eq_true rfl) (fun p e s m args below meth c A ls R Q hC hK hA hP hD hS hl hF hL hret => ?_)
  have hx := hC.1
  have hb := hC.2.1
  have hl : lv_has ls 1 [(0, .ref (h 0))] := hl
  have B38 : ∀  (z0 : wSt) (H : Heap) (locs : List Loc) (ls : Array Slot), wpX6_nextByte_38  post z0 → va_P G.1 vwCl (wsM G h z0) H → va_D A (wsM G h z0) → va_S A s.heap H locs → lv_has ls 1 [(0, .ref (h 0))] → W p l e R s m args below meth c H locs 0 0 Q (F0 m 38 ls []) := by
    intro  z0 H locs ls hw hP hD hS hl
    unfold wpX6_nextByte_38 at hw
    refine lv_aload_n hx hb dX6_nextByte_38 rfl (lv_at hl 0 rfl) ?_
    refine rg_M_X6_0_18 hC hK hP dX6_nextByte_39 ?_
    refine lv_aload_n hx hb dX6_nextByte_42 rfl (lv_at hl 0 rfl) ?_
    refine rg_M_X6_0_17 hC hK hP dX6_nextByte_43 ?_
    refine lv_icmp_ge (tgt := 61) hx hb dX6_nextByte_46 (by decide) (fun hc => ?_) (fun hc => ?_)
    · have hw := And.left hw hc
      refine lv_iconst (v := (-1 : Int32)) hx hb dX6_nextByte_61 (by decide) ?_
      exact hret _ _ _ _ _ _ hw hP hD hS dX6_nextByte_62
    · have hw := And.right hw hc
      refine lv_aload_n hx hb dX6_nextByte_49 rfl (lv_at hl 0 rfl) ?_
      refine rg_M_X6_0_16 hC hK hP dX6_nextByte_50 ?_
      refine lv_aload_n hx hb dX6_nextByte_53 rfl (lv_at hl 0 rfl) ?_
      refine rg_M_X6_0_18 hC hK hP dX6_nextByte_54 ?_
      refine rl_M_7 hC hK hP (And.left hw) dX6_nextByte_57 ?_
      have hw := And.right hw
      refine lv_goto (tgt := 62) hx hb dX6_nextByte_58 (by decide) ?_
      exact hret _ _ _ _ _ _ hw hP hD hS dX6_nextByte_62
  have B0 : ∀ n : Nat, ∀  (z0 : wSt) (H : Heap) (locs : List Loc) (ls : Array Slot), wpX6_nextByte_L0  post n z0 → va_P G.1 vwCl (wsM G h z0) H → va_D A (wsM G h z0) → va_S A s.heap H locs → lv_has ls 1 [(0, .ref (h 0))] → W p l e R s m args below meth c H locs 0 0 Q (F0 m 0 ls []) := by
    intro n
    induction n with
    | zero => intro  z0 H locs ls hw hP hD hS hl; exact False.elim hw
    | succ n I0 =>
      intro  z0 H locs ls hw hP hD hS hl
      have hw : wpX6_nextByte_0  (wpX6_nextByte_L0  post n) post z0 := hw
      unfold wpX6_nextByte_0 at hw
      refine lv_aload_n hx hb dX6_nextByte_0 rfl (lv_at hl 0 rfl) ?_
      refine rg_M_X6_0_18 hC hK hP dX6_nextByte_1 ?_
      refine lv_aload_n hx hb dX6_nextByte_4 rfl (lv_at hl 0 rfl) ?_
      refine rg_M_X6_0_17 hC hK hP dX6_nextByte_5 ?_
      refine lv_icmp_ge (tgt := 38) hx hb dX6_nextByte_8 (by decide) (fun hc => ?_) (fun hc => ?_)
      · have hw := And.left hw hc
        exact B38 z0 _ _ _ hw hP hD hS (lv_sub hl [0] rfl)
      · have hw := And.right hw hc
        refine lv_aload_n hx hb dX6_nextByte_11 rfl (lv_at hl 0 rfl) ?_
        refine rg_M_X6_0_16 hC hK hP dX6_nextByte_12 ?_
        refine lv_aload_n hx hb dX6_nextByte_15 rfl (lv_at hl 0 rfl) ?_
        refine rg_M_X6_0_18 hC hK hP dX6_nextByte_16 ?_
        refine rl_M_7 hC hK hP (And.left hw) dX6_nextByte_19 ?_
        have hw := And.right hw
        refine lv_bipush (v := (32 : Int32)) hx hb dX6_nextByte_20 (by decide) ?_
        refine lv_icmp_ne (tgt := 38) hx hb dX6_nextByte_22 (by decide) (fun hc => ?_) (fun hc => ?_)
        · have hw := And.left hw hc
          exact B38 z0 _ _ _ hw hP hD hS (lv_sub hl [0] rfl)
        · have hw := And.right hw hc
          refine lv_aload_n hx hb dX6_nextByte_25 rfl (lv_at hl 0 rfl) ?_
          refine lv_dup hx hb dX6_nextByte_26 rfl ?_
          refine rg_M_X6_0_18 hC hK hP dX6_nextByte_27 ?_
          refine lv_iconst (v := (1 : Int32)) hx hb dX6_nextByte_30 (by decide) ?_
          refine lv_iadd hx hb dX6_nextByte_31 ?_
          refine rp_M_X6_0_18 hC hK hP hD hS dX6_nextByte_32 (fun z1 H locs hz1 hP hD hS => ?_)
          have hw := hw z1 hz1
          refine lv_goto (tgt := 0) hx hb dX6_nextByte_35 (by decide) ?_
          exact I0 z1 _ _ _ hw hP hD hS (lv_sub hl [0] rfl)
  unfold wpX6_nextByte at hw
  obtain ⟨n0, hw⟩ := hw
  exact B0 n0 z0 _ _ _ hw hP hD hS (lv_sub hl [0] rfl)
def wpX6_readDigit (x1 : Int32) (x2 : Int32) (z0 : wSt) (post : Int32 → (wSt) → Prop) : Prop := (wpX6_nextByte z0 (fun r1 u => ∀ z1 : wSt, z1 = u → (wpX6_in ((r1 - (48 : Int32)).toInt64) (x1.toInt64) (x2.toInt64) (fun r2 => ((¬ r2 = 0 → (∀ z2 : wSt, z2 = (w_si z1 18 ((w_i z1 18) + (1 : Int32))) → (post (r1 - (48 : Int32)) z2))) ∧ (r2 = 0 → (post (-1 : Int32) z1)))))))
set_option maxHeartbeats 4000000 in
set_option maxRecDepth 100000 in
theorem cX6_readDigit_c {l : Launch} {G : wG} {h : Nat → Nat} {sz : Nat} {x1 : Int32} {x2 : Int32} {post : Int32 → (wSt) → Prop} {z0 : wSt}  (hw : wpX6_readDigit x1 x2 z0 post) : Met l yX6_readDigit (.code yX6_readDigit cX6_readDigit 4 (some .int) :: BIG) { frames := 1, cells := 0, slots := 0, locals := 25 } (xPw G [.ref (h 0), .int x1, .int x2] (wsM G h z0) sz) (xQi G post (fun q => (wsM G h q)) (va_A (wsM G h z0) sz)) 0 0 (va_A (wsM G h z0) sz) := by
  refine xm_wi (by decide) (Nat.le_of_ble_eq_true rfl) (fun p e s m args below meth c A ls R Q hC hK hA hP hD hS hl hF hL hret => ?_)
  have hx := hC.1
  have hb := hC.2.1
  have hl : lv_has ls 4 [(0, .ref (h 0)), (1, .int x1), (2, .int x2)] := hl
  unfold wpX6_readDigit at hw
  refine lv_aload_n hx hb dX6_readDigit_0 rfl (lv_at hl 0 rfl) ?_
  refine xc_wi (wsz := fun q => (wsM G h q)) (f := fun u => u) (xr_V hC (cX6_nextByte_c (h := h) hw) ⟨rfl, rfl⟩ bw_761 calX6_nextByte ⟨Nat.le_trans (Nat.le_of_ble_eq_true rfl) hF, Nat.le_trans (Nat.le_of_ble_eq_true rfl) hL⟩ (rest := []) (xpV hK (cut_all_M) hP hD rfl rfl) rfl hl rfl (Nat.le_of_ble_eq_true rfl) dX6_readDigit_1 ⟨Nat.zero_le _, Nat.zero_le _⟩) (cut_all_M) hP hD hS hA (fun r1 u z1 H locs hz1 hw hP hD hS => ?_)
  have hw := hw z1 hz1
  refine lv_bipush (v := (48 : Int32)) hx hb dX6_readDigit_4 (by decide) ?_
  refine lv_isub hx hb dX6_readDigit_6 ?_
  refine lv_istore_n (lv' := [(3, .int (r1 - (48 : Int32))), (0, .ref (h 0)), (1, .int x1), (2, .int x2)]) hx hb dX6_readDigit_7 rfl hl (by decide) rfl (fun ls hl => ?_)
  refine lv_iload_n hx hb dX6_readDigit_8 rfl (lv_at hl 0 rfl) ?_
  refine lv_i2l (v := ((r1 - (48 : Int32)).toInt64)) hx hb dX6_readDigit_9 rfl ?_
  refine lv_iload_n hx hb dX6_readDigit_10 rfl (lv_at hl 2 rfl) ?_
  refine lv_i2l (v := (x1.toInt64)) hx hb dX6_readDigit_11 rfl ?_
  refine lv_iload_n hx hb dX6_readDigit_12 rfl (lv_at hl 3 rfl) ?_
  refine lv_i2l (v := (x2.toInt64)) hx hb dX6_readDigit_13 rfl ?_
  refine vp_callSi (xro (xr_S hC (cX6_in_c hw) ⟨rfl, rfl⟩ bw_700 calX6_in ⟨Nat.le_trans (Nat.le_of_ble_eq_true rfl) hF, Nat.le_trans (Nat.le_of_ble_eq_true rfl) hL⟩ (rest := []) (xpS hK) rfl hl rfl (Nat.le_of_ble_eq_true rfl) dX6_readDigit_14 ⟨Nat.zero_le _, Nat.zero_le _⟩)) (fun r2 hw => ?_)
  refine lv_if_ne (tgt := 22) hx hb dX6_readDigit_17 (by decide) (fun hc => ?_) (fun hc => ?_)
  · have hw := And.left hw hc
    refine lv_aload_n hx hb dX6_readDigit_22 rfl (lv_at hl 1 rfl) ?_
    refine lv_dup hx hb dX6_readDigit_23 rfl ?_
    refine rg_M_X6_0_18 hC hK hP dX6_readDigit_24 ?_
    refine lv_iconst (v := (1 : Int32)) hx hb dX6_readDigit_27 (by decide) ?_
    refine lv_iadd hx hb dX6_readDigit_28 ?_
    refine rp_M_X6_0_18 hC hK hP hD hS dX6_readDigit_29 (fun z2 H locs hz1 hP hD hS => ?_)
    have hw := hw z2 hz1
    refine lv_iload_n hx hb dX6_readDigit_32 rfl (lv_at hl 0 rfl) ?_
    exact hret _ _ _ _ _ _ hw hP hD hS dX6_readDigit_33
  · have hw := And.right hw hc
    refine lv_iconst (v := (-1 : Int32)) hx hb dX6_readDigit_20 (by decide) ?_
    exact hret _ _ _ _ _ _ hw hP hD hS dX6_readDigit_21
def wpX6_readOne_189  (post : Int32 → (wSt) → Prop) (x1 : Int32) (z0 : wSt) : Prop := (vp_in (x1 + (2 : Int32)) 24 ∧ ((((w_a z0 20) (x1 + (2 : Int32)).toNatClampNeg) ≤ 0 → (post (0 : Int32) z0)) ∧ (¬ ((w_a z0 20) (x1 + (2 : Int32)).toNatClampNeg) ≤ 0 → (post (1 : Int32) z0))))
def wpX6_readOne_146  (post : Int32 → (wSt) → Prop) (x1 : Int32) (z0 : wSt) : Prop := (vp_in (x1 + (2 : Int32)) 24 ∧ ∀ z1 : wSt, z1 = (w_sa z0 20 (upd (w_a z0 20) (x1 + (2 : Int32)).toNatClampNeg (1 : Int32))) → (wpX6_nextByte z1 (fun r1 u => ∀ z2 : wSt, z2 = u → ((¬ r1 = (114 : Int32) → (wpX6_readOne_189  post x1 z2)) ∧ (r1 = (114 : Int32) → (∀ z3 : wSt, z3 = (w_si z2 18 ((w_i z2 18) + (1 : Int32))) → (wpX6_readDigit (1 : Int32) (9 : Int32) z3 (fun r2 u => ∀ z4 : wSt, z4 = u → (vp_in (x1 + (2 : Int32)) 24 ∧ ∀ z5 : wSt, z5 = (w_sa z4 20 (upd (w_a z4 20) (x1 + (2 : Int32)).toNatClampNeg r2)) → (wpX6_readOne_189  post x1 z5))))))))))
def wpX6_readOne_145  (post : Int32 → (wSt) → Prop) (x1 : Int32) (t0 : Int32) (t1 : Int32) (z0 : wSt) : Prop := (vp_in t1 24 ∧ ∀ z1 : wSt, z1 = (w_sa z0 20 (upd (w_a z0 20) t1.toNatClampNeg t0)) → (wpX6_readOne_146  post x1 z1))
def wpX6_readOne_99  (post : Int32 → (wSt) → Prop) (x1 : Int32) (x3 : Int32) (z0 : wSt) : Prop := (∀ z1 : wSt, z1 = (w_si z0 18 ((w_i z0 18) + (1 : Int32))) → (wpX6_readDigit (0 : Int32) (3 : Int32) z1 (fun r1 u => ∀ z2 : wSt, z2 = u → ((0 ≤ r1 → ((¬ x3 = (43 : Int32) → (wpX6_readOne_145  post x1 (-r1) (x1 + (1 : Int32)) z2)) ∧ (x3 = (43 : Int32) → (wpX6_readOne_145  post x1 r1 (x1 + (1 : Int32)) z2)))) ∧ (¬ 0 ≤ r1 → (post (0 : Int32) z2))))))
def wpX6_readOne_51  (post : Int32 → (wSt) → Prop) (x1 : Int32) (t0 : Int32) (t1 : Int32) (z0 : wSt) : Prop := (vp_in t1 24 ∧ ∀ z1 : wSt, z1 = (w_sa z0 20 (upd (w_a z0 20) t1.toNatClampNeg t0)) → (vp_in x1 24 ∧ ((0 ≤ ((w_a z1 20) x1.toNatClampNeg) → (∀ z2 : wSt, z2 = (w_si z1 18 ((w_i z1 18) + (1 : Int32))) → (vp_in (x1 + (1 : Int32)) 24 ∧ ∀ z3 : wSt, z3 = (w_sa z2 20 (upd (w_a z2 20) (x1 + (1 : Int32)).toNatClampNeg (0 : Int32))) → (wpX6_nextByte z3 (fun r1 u => ∀ z4 : wSt, z4 = u → ((r1 = (43 : Int32) → (wpX6_readOne_99  post x1 r1 z4)) ∧ (¬ r1 = (43 : Int32) → ((¬ r1 = (45 : Int32) → (wpX6_readOne_146  post x1 z4)) ∧ (r1 = (45 : Int32) → (wpX6_readOne_99  post x1 r1 z4)))))))))) ∧ (¬ 0 ≤ ((w_a z1 20) x1.toNatClampNeg) → (post (0 : Int32) z1)))))
def wpX6_readOne (x1 : Int32) (z0 : wSt) (post : Int32 → (wSt) → Prop) : Prop := (wpX6_nextByte z0 (fun r1 u => ∀ z1 : wSt, z1 = u → ((¬ r1 = (112 : Int32) → ((¬ r1 = (115 : Int32) → ((¬ r1 = (118 : Int32) → ((¬ r1 = (109 : Int32) → (wpX6_readOne_51  post x1 (-1 : Int32) x1 z1)) ∧ (r1 = (109 : Int32) → (wpX6_readOne_51  post x1 (3 : Int32) x1 z1)))) ∧ (r1 = (118 : Int32) → (wpX6_readOne_51  post x1 (2 : Int32) x1 z1)))) ∧ (r1 = (115 : Int32) → (wpX6_readOne_51  post x1 (1 : Int32) x1 z1)))) ∧ (r1 = (112 : Int32) → (wpX6_readOne_51  post x1 (0 : Int32) x1 z1)))))
set_option maxHeartbeats 4000000 in
set_option maxRecDepth 100000 in
theorem cX6_readOne_c {l : Launch} {G : wG} {h : Nat → Nat} {sz : Nat} {x1 : Int32} {post : Int32 → (wSt) → Prop} {z0 : wSt}  (hw : wpX6_readOne x1 z0 post) : Met l yX6_readOne (.code yX6_readOne cX6_readOne 5 (some .boolean) :: BIG) { frames := 2, cells := 0, slots := 0, locals := 48 } (xPw G [.ref (h 0), .int x1] (wsM G h z0) sz) (xQi G post (fun q => (wsM G h q)) (va_A (wsM G h z0) sz)) 0 0 (va_A (wsM G h z0) sz) := by
  refine xm_wz (by decide) (Nat.le_of_ble_eq_true rfl) (fun p e s m args below meth c A ls R Q hC hK hA hP hD hS hl hF hL hret => ?_)
  have hx := hC.1
  have hb := hC.2.1
  have hl : lv_has ls 5 [(0, .ref (h 0)), (1, .int x1)] := hl
  have B189 : ∀ (x1 : Int32) (z0 : wSt) (H : Heap) (locs : List Loc) (ls : Array Slot), wpX6_readOne_189  post x1 z0 → va_P G.1 vwCl (wsM G h z0) H → va_D A (wsM G h z0) → va_S A s.heap H locs → lv_has ls 5 [(0, .ref (h 0)), (1, .int x1)] → W p l e R s m args below meth c H locs 0 0 Q (F0 m 189 ls []) := by
    intro x1 z0 H locs ls hw hP hD hS hl
    unfold wpX6_readOne_189 at hw
    refine lv_aload_n hx hb dX6_readOne_189 rfl (lv_at hl 0 rfl) ?_
    refine rg_M_X6_0_20 hC hK hP dX6_readOne_190 ?_
    refine lv_iload_n hx hb dX6_readOne_193 rfl (lv_at hl 1 rfl) ?_
    refine lv_iconst (v := (2 : Int32)) hx hb dX6_readOne_194 (by decide) ?_
    refine lv_iadd hx hb dX6_readOne_195 ?_
    refine rl_M_8 hC hK hP (And.left hw) dX6_readOne_196 ?_
    have hw := And.right hw
    refine lv_if_le (tgt := 204) hx hb dX6_readOne_197 (by decide) (fun hc => ?_) (fun hc => ?_)
    · have hw := And.left hw hc
      refine lv_iconst (v := (0 : Int32)) hx hb dX6_readOne_204 (by decide) ?_
      exact hret _ _ _ _ _ _ rfl hw hP hD hS dX6_readOne_205
    · have hw := And.right hw hc
      refine lv_iconst (v := (1 : Int32)) hx hb dX6_readOne_200 (by decide) ?_
      refine lv_goto (tgt := 205) hx hb dX6_readOne_201 (by decide) ?_
      exact hret _ _ _ _ _ _ rfl hw hP hD hS dX6_readOne_205
  have B146 : ∀ (x1 : Int32) (z0 : wSt) (H : Heap) (locs : List Loc) (ls : Array Slot), wpX6_readOne_146  post x1 z0 → va_P G.1 vwCl (wsM G h z0) H → va_D A (wsM G h z0) → va_S A s.heap H locs → lv_has ls 5 [(0, .ref (h 0)), (1, .int x1)] → W p l e R s m args below meth c H locs 0 0 Q (F0 m 146 ls []) := by
    intro x1 z0 H locs ls hw hP hD hS hl
    unfold wpX6_readOne_146 at hw
    refine lv_aload_n hx hb dX6_readOne_146 rfl (lv_at hl 0 rfl) ?_
    refine rg_M_X6_0_20 hC hK hP dX6_readOne_147 ?_
    refine lv_iload_n hx hb dX6_readOne_150 rfl (lv_at hl 1 rfl) ?_
    refine lv_iconst (v := (2 : Int32)) hx hb dX6_readOne_151 (by decide) ?_
    refine lv_iadd hx hb dX6_readOne_152 ?_
    refine lv_iconst (v := (1 : Int32)) hx hb dX6_readOne_153 (by decide) ?_
    refine rs_M_8 hC hK hP hD hS (And.left hw) dX6_readOne_154 (fun z1 H locs hz1 hP hD hS => ?_)
    have hw := And.right hw z1 hz1
    refine lv_aload_n hx hb dX6_readOne_155 rfl (lv_at hl 0 rfl) ?_
    refine xc_wi (wsz := fun q => (wsM G h q)) (f := fun u => u) (xr_V hC (cX6_nextByte_c (h := h) hw) ⟨rfl, rfl⟩ bw_761 calX6_nextByte ⟨Nat.le_trans (Nat.le_of_ble_eq_true rfl) hF, Nat.le_trans (Nat.le_of_ble_eq_true rfl) hL⟩ (rest := []) (xpV hK (cut_all_M) hP hD rfl rfl) rfl hl rfl (Nat.le_of_ble_eq_true rfl) dX6_readOne_156 ⟨Nat.zero_le _, Nat.zero_le _⟩) (cut_all_M) hP hD hS hA (fun r1 u z2 H locs hz1 hw hP hD hS => ?_)
    have hw := hw z2 hz1
    refine lv_bipush (v := (114 : Int32)) hx hb dX6_readOne_159 (by decide) ?_
    refine lv_icmp_ne (tgt := 189) hx hb dX6_readOne_161 (by decide) (fun hc => ?_) (fun hc => ?_)
    · have hw := And.left hw hc
      exact B189 x1 z2 _ _ _ hw hP hD hS (lv_sub hl [0, 1] rfl)
    · have hw := And.right hw hc
      refine lv_aload_n hx hb dX6_readOne_164 rfl (lv_at hl 0 rfl) ?_
      refine lv_dup hx hb dX6_readOne_165 rfl ?_
      refine rg_M_X6_0_18 hC hK hP dX6_readOne_166 ?_
      refine lv_iconst (v := (1 : Int32)) hx hb dX6_readOne_169 (by decide) ?_
      refine lv_iadd hx hb dX6_readOne_170 ?_
      refine rp_M_X6_0_18 hC hK hP hD hS dX6_readOne_171 (fun z3 H locs hz1 hP hD hS => ?_)
      have hw := hw z3 hz1
      refine lv_aload_n hx hb dX6_readOne_174 rfl (lv_at hl 0 rfl) ?_
      refine rg_M_X6_0_20 hC hK hP dX6_readOne_175 ?_
      refine lv_iload_n hx hb dX6_readOne_178 rfl (lv_at hl 1 rfl) ?_
      refine lv_iconst (v := (2 : Int32)) hx hb dX6_readOne_179 (by decide) ?_
      refine lv_iadd hx hb dX6_readOne_180 ?_
      refine lv_aload_n hx hb dX6_readOne_181 rfl (lv_at hl 0 rfl) ?_
      refine lv_iconst (v := (1 : Int32)) hx hb dX6_readOne_182 (by decide) ?_
      refine lv_bipush (v := (9 : Int32)) hx hb dX6_readOne_183 (by decide) ?_
      refine xc_wi (wsz := fun q => (wsM G h q)) (f := fun u => u) (xr_V hC (cX6_readDigit_c (h := h) hw) ⟨rfl, rfl⟩ bw_765 calX6_readDigit ⟨Nat.le_trans (Nat.le_of_ble_eq_true rfl) hF, Nat.le_trans (Nat.le_of_ble_eq_true rfl) hL⟩ (rest := [.int (x1 + (2 : Int32)), .ref (h 8)]) (xpV hK (cut_all_M) hP hD rfl rfl) rfl hl rfl (Nat.le_of_ble_eq_true rfl) dX6_readOne_185 ⟨Nat.zero_le _, Nat.zero_le _⟩) (cut_all_M) hP hD hS hA (fun r2 u z4 H locs hz1 hw hP hD hS => ?_)
      have hw := hw z4 hz1
      refine rs_M_8 hC hK hP hD hS (And.left hw) dX6_readOne_188 (fun z5 H locs hz1 hP hD hS => ?_)
      have hw := And.right hw z5 hz1
      exact B189 x1 z5 _ _ _ hw hP hD hS (lv_sub hl [0, 1] rfl)
  have B145 : ∀ (x1 : Int32) (t0 : Int32) (t1 : Int32) (z0 : wSt) (H : Heap) (locs : List Loc) (ls : Array Slot), wpX6_readOne_145  post x1 t0 t1 z0 → va_P G.1 vwCl (wsM G h z0) H → va_D A (wsM G h z0) → va_S A s.heap H locs → lv_has ls 5 [(0, .ref (h 0)), (1, .int x1)] → W p l e R s m args below meth c H locs 0 0 Q (F0 m 145 ls [.int t0, .int t1, .ref (h 8)]) := by
    intro x1 t0 t1 z0 H locs ls hw hP hD hS hl
    unfold wpX6_readOne_145 at hw
    refine rs_M_8 hC hK hP hD hS (And.left hw) dX6_readOne_145 (fun z1 H locs hz1 hP hD hS => ?_)
    have hw := And.right hw z1 hz1
    exact B146 x1 z1 _ _ _ hw hP hD hS (lv_sub hl [0, 1] rfl)
  have B99 : ∀ (x1 : Int32) (x3 : Int32) (z0 : wSt) (H : Heap) (locs : List Loc) (ls : Array Slot), wpX6_readOne_99  post x1 x3 z0 → va_P G.1 vwCl (wsM G h z0) H → va_D A (wsM G h z0) → va_S A s.heap H locs → lv_has ls 5 [(0, .ref (h 0)), (1, .int x1), (3, .int x3)] → W p l e R s m args below meth c H locs 0 0 Q (F0 m 99 ls []) := by
    intro x1 x3 z0 H locs ls hw hP hD hS hl
    unfold wpX6_readOne_99 at hw
    refine lv_aload_n hx hb dX6_readOne_99 rfl (lv_at hl 0 rfl) ?_
    refine lv_dup hx hb dX6_readOne_100 rfl ?_
    refine rg_M_X6_0_18 hC hK hP dX6_readOne_101 ?_
    refine lv_iconst (v := (1 : Int32)) hx hb dX6_readOne_104 (by decide) ?_
    refine lv_iadd hx hb dX6_readOne_105 ?_
    refine rp_M_X6_0_18 hC hK hP hD hS dX6_readOne_106 (fun z1 H locs hz1 hP hD hS => ?_)
    have hw := hw z1 hz1
    refine lv_aload_n hx hb dX6_readOne_109 rfl (lv_at hl 0 rfl) ?_
    refine lv_iconst (v := (0 : Int32)) hx hb dX6_readOne_110 (by decide) ?_
    refine lv_iconst (v := (3 : Int32)) hx hb dX6_readOne_111 (by decide) ?_
    refine xc_wi (wsz := fun q => (wsM G h q)) (f := fun u => u) (xr_V hC (cX6_readDigit_c (h := h) hw) ⟨rfl, rfl⟩ bw_765 calX6_readDigit ⟨Nat.le_trans (Nat.le_of_ble_eq_true rfl) hF, Nat.le_trans (Nat.le_of_ble_eq_true rfl) hL⟩ (rest := []) (xpV hK (cut_all_M) hP hD rfl rfl) rfl hl rfl (Nat.le_of_ble_eq_true rfl) dX6_readOne_112 ⟨Nat.zero_le _, Nat.zero_le _⟩) (cut_all_M) hP hD hS hA (fun r1 u z2 H locs hz1 hw hP hD hS => ?_)
    have hw := hw z2 hz1
    refine lv_istore (lv' := [(4, .int r1), (0, .ref (h 0)), (1, .int x1), (3, .int x3)]) hx hb dX6_readOne_115 hl (by decide) rfl (fun ls hl => ?_)
    refine lv_iload hx hb dX6_readOne_117 (lv_at hl 0 rfl) ?_
    refine lv_if_ge (tgt := 124) hx hb dX6_readOne_119 (by decide) (fun hc => ?_) (fun hc => ?_)
    · have hw := And.left hw hc
      refine lv_aload_n hx hb dX6_readOne_124 rfl (lv_at hl 1 rfl) ?_
      refine rg_M_X6_0_20 hC hK hP dX6_readOne_125 ?_
      refine lv_iload_n hx hb dX6_readOne_128 rfl (lv_at hl 2 rfl) ?_
      refine lv_iconst (v := (1 : Int32)) hx hb dX6_readOne_129 (by decide) ?_
      refine lv_iadd hx hb dX6_readOne_130 ?_
      refine lv_iload_n hx hb dX6_readOne_131 rfl (lv_at hl 3 rfl) ?_
      refine lv_bipush (v := (43 : Int32)) hx hb dX6_readOne_132 (by decide) ?_
      refine lv_icmp_ne (tgt := 142) hx hb dX6_readOne_134 (by decide) (fun hc => ?_) (fun hc => ?_)
      · have hw := And.left hw hc
        refine lv_iload hx hb dX6_readOne_142 (lv_at hl 0 rfl) ?_
        refine lv_ineg hx hb dX6_readOne_144 ?_
        exact B145 x1 (-r1) (x1 + (1 : Int32)) z2 _ _ _ hw hP hD hS (lv_sub hl [1, 2] rfl)
      · have hw := And.right hw hc
        refine lv_iload hx hb dX6_readOne_137 (lv_at hl 0 rfl) ?_
        refine lv_goto (tgt := 145) hx hb dX6_readOne_139 (by decide) ?_
        exact B145 x1 r1 (x1 + (1 : Int32)) z2 _ _ _ hw hP hD hS (lv_sub hl [1, 2] rfl)
    · have hw := And.right hw hc
      refine lv_iconst (v := (0 : Int32)) hx hb dX6_readOne_122 (by decide) ?_
      exact hret _ _ _ _ _ _ rfl hw hP hD hS dX6_readOne_123
  have B51 : ∀ (x1 : Int32) (t0 : Int32) (t1 : Int32) (z0 : wSt) (H : Heap) (locs : List Loc) (ls : Array Slot), wpX6_readOne_51  post x1 t0 t1 z0 → va_P G.1 vwCl (wsM G h z0) H → va_D A (wsM G h z0) → va_S A s.heap H locs → lv_has ls 5 [(0, .ref (h 0)), (1, .int x1)] → W p l e R s m args below meth c H locs 0 0 Q (F0 m 51 ls [.int t0, .int t1, .ref (h 8)]) := by
    intro x1 t0 t1 z0 H locs ls hw hP hD hS hl
    unfold wpX6_readOne_51 at hw
    refine rs_M_8 hC hK hP hD hS (And.left hw) dX6_readOne_51 (fun z1 H locs hz1 hP hD hS => ?_)
    have hw := And.right hw z1 hz1
    refine lv_aload_n hx hb dX6_readOne_52 rfl (lv_at hl 0 rfl) ?_
    refine rg_M_X6_0_20 hC hK hP dX6_readOne_53 ?_
    refine lv_iload_n hx hb dX6_readOne_56 rfl (lv_at hl 1 rfl) ?_
    refine rl_M_8 hC hK hP (And.left hw) dX6_readOne_57 ?_
    have hw := And.right hw
    refine lv_if_ge (tgt := 63) hx hb dX6_readOne_58 (by decide) (fun hc => ?_) (fun hc => ?_)
    · have hw := And.left hw hc
      refine lv_aload_n hx hb dX6_readOne_63 rfl (lv_at hl 0 rfl) ?_
      refine lv_dup hx hb dX6_readOne_64 rfl ?_
      refine rg_M_X6_0_18 hC hK hP dX6_readOne_65 ?_
      refine lv_iconst (v := (1 : Int32)) hx hb dX6_readOne_68 (by decide) ?_
      refine lv_iadd hx hb dX6_readOne_69 ?_
      refine rp_M_X6_0_18 hC hK hP hD hS dX6_readOne_70 (fun z2 H locs hz1 hP hD hS => ?_)
      have hw := hw z2 hz1
      refine lv_aload_n hx hb dX6_readOne_73 rfl (lv_at hl 0 rfl) ?_
      refine rg_M_X6_0_20 hC hK hP dX6_readOne_74 ?_
      refine lv_iload_n hx hb dX6_readOne_77 rfl (lv_at hl 1 rfl) ?_
      refine lv_iconst (v := (1 : Int32)) hx hb dX6_readOne_78 (by decide) ?_
      refine lv_iadd hx hb dX6_readOne_79 ?_
      refine lv_iconst (v := (0 : Int32)) hx hb dX6_readOne_80 (by decide) ?_
      refine rs_M_8 hC hK hP hD hS (And.left hw) dX6_readOne_81 (fun z3 H locs hz1 hP hD hS => ?_)
      have hw := And.right hw z3 hz1
      refine lv_aload_n hx hb dX6_readOne_82 rfl (lv_at hl 0 rfl) ?_
      refine xc_wi (wsz := fun q => (wsM G h q)) (f := fun u => u) (xr_V hC (cX6_nextByte_c (h := h) hw) ⟨rfl, rfl⟩ bw_761 calX6_nextByte ⟨Nat.le_trans (Nat.le_of_ble_eq_true rfl) hF, Nat.le_trans (Nat.le_of_ble_eq_true rfl) hL⟩ (rest := []) (xpV hK (cut_all_M) hP hD rfl rfl) rfl hl rfl (Nat.le_of_ble_eq_true rfl) dX6_readOne_83 ⟨Nat.zero_le _, Nat.zero_le _⟩) (cut_all_M) hP hD hS hA (fun r1 u z4 H locs hz1 hw hP hD hS => ?_)
      have hw := hw z4 hz1
      refine lv_istore_n (lv' := [(3, .int r1), (0, .ref (h 0)), (1, .int x1)]) hx hb dX6_readOne_86 rfl hl (by decide) rfl (fun ls hl => ?_)
      refine lv_iload_n hx hb dX6_readOne_87 rfl (lv_at hl 0 rfl) ?_
      refine lv_bipush (v := (43 : Int32)) hx hb dX6_readOne_88 (by decide) ?_
      refine lv_icmp_eq (tgt := 99) hx hb dX6_readOne_90 (by decide) (fun hc => ?_) (fun hc => ?_)
      · have hw := And.left hw hc
        exact B99 x1 r1 z4 _ _ _ hw hP hD hS (lv_sub hl [1, 2, 0] rfl)
      · have hw := And.right hw hc
        refine lv_iload_n hx hb dX6_readOne_93 rfl (lv_at hl 0 rfl) ?_
        refine lv_bipush (v := (45 : Int32)) hx hb dX6_readOne_94 (by decide) ?_
        refine lv_icmp_ne (tgt := 146) hx hb dX6_readOne_96 (by decide) (fun hc => ?_) (fun hc => ?_)
        · have hw := And.left hw hc
          exact B146 x1 z4 _ _ _ hw hP hD hS (lv_sub hl [1, 2] rfl)
        · have hw := And.right hw hc
          exact B99 x1 r1 z4 _ _ _ hw hP hD hS (lv_sub hl [1, 2, 0] rfl)
    · have hw := And.right hw hc
      refine lv_iconst (v := (0 : Int32)) hx hb dX6_readOne_61 (by decide) ?_
      exact hret _ _ _ _ _ _ rfl hw hP hD hS dX6_readOne_62
  unfold wpX6_readOne at hw
  refine lv_aload_n hx hb dX6_readOne_0 rfl (lv_at hl 0 rfl) ?_
  refine xc_wi (wsz := fun q => (wsM G h q)) (f := fun u => u) (xr_V hC (cX6_nextByte_c (h := h) hw) ⟨rfl, rfl⟩ bw_761 calX6_nextByte ⟨Nat.le_trans (Nat.le_of_ble_eq_true rfl) hF, Nat.le_trans (Nat.le_of_ble_eq_true rfl) hL⟩ (rest := []) (xpV hK (cut_all_M) hP hD rfl rfl) rfl hl rfl (Nat.le_of_ble_eq_true rfl) dX6_readOne_1 ⟨Nat.zero_le _, Nat.zero_le _⟩) (cut_all_M) hP hD hS hA (fun r1 u z1 H locs hz1 hw hP hD hS => ?_)
  have hw := hw z1 hz1
  refine lv_istore_n (lv' := [(2, .int r1), (0, .ref (h 0)), (1, .int x1)]) hx hb dX6_readOne_4 rfl hl (by decide) rfl (fun ls hl => ?_)
  refine lv_aload_n hx hb dX6_readOne_5 rfl (lv_at hl 1 rfl) ?_
  refine rg_M_X6_0_20 hC hK hP dX6_readOne_6 ?_
  refine lv_iload_n hx hb dX6_readOne_9 rfl (lv_at hl 2 rfl) ?_
  refine lv_iload_n hx hb dX6_readOne_10 rfl (lv_at hl 0 rfl) ?_
  refine lv_bipush (v := (112 : Int32)) hx hb dX6_readOne_11 (by decide) ?_
  refine lv_icmp_ne (tgt := 20) hx hb dX6_readOne_13 (by decide) (fun hc => ?_) (fun hc => ?_)
  · have hw := And.left hw hc
    refine lv_iload_n hx hb dX6_readOne_20 rfl (lv_at hl 0 rfl) ?_
    refine lv_bipush (v := (115 : Int32)) hx hb dX6_readOne_21 (by decide) ?_
    refine lv_icmp_ne (tgt := 30) hx hb dX6_readOne_23 (by decide) (fun hc => ?_) (fun hc => ?_)
    · have hw := And.left hw hc
      refine lv_iload_n hx hb dX6_readOne_30 rfl (lv_at hl 0 rfl) ?_
      refine lv_bipush (v := (118 : Int32)) hx hb dX6_readOne_31 (by decide) ?_
      refine lv_icmp_ne (tgt := 40) hx hb dX6_readOne_33 (by decide) (fun hc => ?_) (fun hc => ?_)
      · have hw := And.left hw hc
        refine lv_iload_n hx hb dX6_readOne_40 rfl (lv_at hl 0 rfl) ?_
        refine lv_bipush (v := (109 : Int32)) hx hb dX6_readOne_41 (by decide) ?_
        refine lv_icmp_ne (tgt := 50) hx hb dX6_readOne_43 (by decide) (fun hc => ?_) (fun hc => ?_)
        · have hw := And.left hw hc
          refine lv_iconst (v := (-1 : Int32)) hx hb dX6_readOne_50 (by decide) ?_
          exact B51 x1 (-1 : Int32) x1 z1 _ _ _ hw hP hD hS (lv_sub hl [1, 2] rfl)
        · have hw := And.right hw hc
          refine lv_iconst (v := (3 : Int32)) hx hb dX6_readOne_46 (by decide) ?_
          refine lv_goto (tgt := 51) hx hb dX6_readOne_47 (by decide) ?_
          exact B51 x1 (3 : Int32) x1 z1 _ _ _ hw hP hD hS (lv_sub hl [1, 2] rfl)
      · have hw := And.right hw hc
        refine lv_iconst (v := (2 : Int32)) hx hb dX6_readOne_36 (by decide) ?_
        refine lv_goto (tgt := 51) hx hb dX6_readOne_37 (by decide) ?_
        exact B51 x1 (2 : Int32) x1 z1 _ _ _ hw hP hD hS (lv_sub hl [1, 2] rfl)
    · have hw := And.right hw hc
      refine lv_iconst (v := (1 : Int32)) hx hb dX6_readOne_26 (by decide) ?_
      refine lv_goto (tgt := 51) hx hb dX6_readOne_27 (by decide) ?_
      exact B51 x1 (1 : Int32) x1 z1 _ _ _ hw hP hD hS (lv_sub hl [1, 2] rfl)
  · have hw := And.right hw hc
    refine lv_iconst (v := (0 : Int32)) hx hb dX6_readOne_16 (by decide) ?_
    refine lv_goto (tgt := 51) hx hb dX6_readOne_17 (by decide) ?_
    exact B51 x1 (0 : Int32) x1 z1 _ _ _ hw hP hD hS (lv_sub hl [1, 2] rfl)
def wpX6_readVillage_7 (k7 : Int32 → (wSt) → Prop) (post : Int32 → (wSt) → Prop) (x1 : Int32) (z0 : wSt) : Prop := (((6 : Int32) ≤ x1 → (post (0 : Int32) z0)) ∧ (¬ (6 : Int32) ≤ x1 → (wpX6_readOne ((3 : Int32) * x1) z0 (fun r1 u => ∀ z1 : wSt, z1 = u → ((¬ r1 = 0 → (∀ z2 : wSt, z2 = (w_si z1 19 (x1 + (1 : Int32))) → (wpX6_nextByte z2 (fun r2 u => ∀ z3 : wSt, z3 = u → ((0 ≤ r2 → ((¬ r2 = (44 : Int32) → (post (0 : Int32) z3)) ∧ (r2 = (44 : Int32) → ((¬ x1 = (5 : Int32) → (∀ z4 : wSt, z4 = (w_si z3 18 ((w_i z3 18) + (1 : Int32))) → (k7 (x1 + (1 : Int32)) z4))) ∧ (x1 = (5 : Int32) → (post (0 : Int32) z3)))))) ∧ (¬ 0 ≤ r2 → (post (1 : Int32) z3))))))) ∧ (r1 = 0 → (post (0 : Int32) z1)))))))
def wpX6_readVillage_L7  (post : Int32 → (wSt) → Prop) : Nat → Int32 → (wSt) → Prop
  | 0 => fun _ _ => False
  | n + 1 => fun x1 z0 => wpX6_readVillage_7  (wpX6_readVillage_L7  post n) post x1 z0
def wpX6_readVillage (z0 : wSt) (post : Int32 → (wSt) → Prop) : Prop := (∀ z1 : wSt, z1 = (w_si z0 18 (0 : Int32)) → (∃ n, wpX6_readVillage_L7  post n (0 : Int32) z1))
set_option maxHeartbeats 4000000 in
set_option maxRecDepth 100000 in
theorem cX6_readVillage_c {l : Launch} {G : wG} {h : Nat → Nat} {sz : Nat}  {post : Int32 → (wSt) → Prop} {z0 : wSt}  (hw : wpX6_readVillage z0 post) : Met l yX6_readVillage (.code yX6_readVillage cX6_readVillage 3 (some .boolean) :: BIG) { frames := 3, cells := 0, slots := 0, locals := 72 } (xPw G [.ref (h 0)] (wsM G h z0) sz) (xQi G post (fun q => (wsM G h q)) (va_A (wsM G h z0) sz)) 0 0 (va_A (wsM G h z0) sz) := by
  refine xm_wz (by decide) (Nat.le_of_ble_eq_true rfl) (fun p e s m args below meth c A ls R Q hC hK hA hP hD hS hl hF hL hret => ?_)
  have hx := hC.1
  have hb := hC.2.1
  have hl : lv_has ls 3 [(0, .ref (h 0))] := hl
  have B7 : ∀ n : Nat, ∀ (x1 : Int32) (z0 : wSt) (H : Heap) (locs : List Loc) (ls : Array Slot), wpX6_readVillage_L7  post n x1 z0 → va_P G.1 vwCl (wsM G h z0) H → va_D A (wsM G h z0) → va_S A s.heap H locs → lv_has ls 3 [(0, .ref (h 0)), (1, .int x1)] → W p l e R s m args below meth c H locs 0 0 Q (F0 m 7 ls []) := by
    intro n
    induction n with
    | zero => intro x1 z0 H locs ls hw hP hD hS hl; exact False.elim hw
    | succ n I7 =>
      intro x1 z0 H locs ls hw hP hD hS hl
      have hw : wpX6_readVillage_7  (wpX6_readVillage_L7  post n) post x1 z0 := hw
      unfold wpX6_readVillage_7 at hw
      refine lv_iload_n hx hb dX6_readVillage_7 rfl (lv_at hl 1 rfl) ?_
      refine lv_bipush (v := (6 : Int32)) hx hb dX6_readVillage_8 (by decide) ?_
      refine lv_icmp_ge (tgt := 72) hx hb dX6_readVillage_10 (by decide) (fun hc => ?_) (fun hc => ?_)
      · have hw := And.left hw hc
        refine lv_iconst (v := (0 : Int32)) hx hb dX6_readVillage_72 (by decide) ?_
        exact hret _ _ _ _ _ _ rfl hw hP hD hS dX6_readVillage_73
      · have hw := And.right hw hc
        refine lv_aload_n hx hb dX6_readVillage_13 rfl (lv_at hl 0 rfl) ?_
        refine lv_iconst (v := (3 : Int32)) hx hb dX6_readVillage_14 (by decide) ?_
        refine lv_iload_n hx hb dX6_readVillage_15 rfl (lv_at hl 1 rfl) ?_
        refine lv_imul hx hb dX6_readVillage_16 ?_
        refine xc_wi (wsz := fun q => (wsM G h q)) (f := fun u => u) (xr_V hC (cX6_readOne_c (h := h) hw) ⟨rfl, rfl⟩ bw_757 calX6_readOne ⟨Nat.le_trans (Nat.le_of_ble_eq_true rfl) hF, Nat.le_trans (Nat.le_of_ble_eq_true rfl) hL⟩ (rest := []) (xpV hK (cut_all_M) hP hD rfl rfl) rfl hl rfl (Nat.le_of_ble_eq_true rfl) dX6_readVillage_17 ⟨Nat.zero_le _, Nat.zero_le _⟩) (cut_all_M) hP hD hS hA (fun r1 u z1 H locs hz1 hw hP hD hS => ?_)
        have hw := hw z1 hz1
        refine lv_if_ne (tgt := 25) hx hb dX6_readVillage_20 (by decide) (fun hc => ?_) (fun hc => ?_)
        · have hw := And.left hw hc
          refine lv_aload_n hx hb dX6_readVillage_25 rfl (lv_at hl 0 rfl) ?_
          refine lv_iload_n hx hb dX6_readVillage_26 rfl (lv_at hl 1 rfl) ?_
          refine lv_iconst (v := (1 : Int32)) hx hb dX6_readVillage_27 (by decide) ?_
          refine lv_iadd hx hb dX6_readVillage_28 ?_
          refine rp_M_X6_0_19 hC hK hP hD hS dX6_readVillage_29 (fun z2 H locs hz1 hP hD hS => ?_)
          have hw := hw z2 hz1
          refine lv_aload_n hx hb dX6_readVillage_32 rfl (lv_at hl 0 rfl) ?_
          refine xc_wi (wsz := fun q => (wsM G h q)) (f := fun u => u) (xr_V hC (cX6_nextByte_c (h := h) hw) ⟨rfl, rfl⟩ bw_761 calX6_nextByte ⟨Nat.le_trans (Nat.le_of_ble_eq_true rfl) hF, Nat.le_trans (Nat.le_of_ble_eq_true rfl) hL⟩ (rest := []) (xpV hK (cut_all_M) hP hD rfl rfl) rfl hl rfl (Nat.le_of_ble_eq_true rfl) dX6_readVillage_33 ⟨Nat.zero_le _, Nat.zero_le _⟩) (cut_all_M) hP hD hS hA (fun r2 u z3 H locs hz1 hw hP hD hS => ?_)
          have hw := hw z3 hz1
          refine lv_istore_n (lv' := [(2, .int r2), (0, .ref (h 0)), (1, .int x1)]) hx hb dX6_readVillage_36 rfl hl (by decide) rfl (fun ls hl => ?_)
          refine lv_iload_n hx hb dX6_readVillage_37 rfl (lv_at hl 0 rfl) ?_
          refine lv_if_ge (tgt := 43) hx hb dX6_readVillage_38 (by decide) (fun hc => ?_) (fun hc => ?_)
          · have hw := And.left hw hc
            refine lv_iload_n hx hb dX6_readVillage_43 rfl (lv_at hl 0 rfl) ?_
            refine lv_bipush (v := (44 : Int32)) hx hb dX6_readVillage_44 (by decide) ?_
            refine lv_icmp_ne (tgt := 54) hx hb dX6_readVillage_46 (by decide) (fun hc => ?_) (fun hc => ?_)
            · have hw := And.left hw hc
              refine lv_iconst (v := (0 : Int32)) hx hb dX6_readVillage_54 (by decide) ?_
              exact hret _ _ _ _ _ _ rfl hw hP hD hS dX6_readVillage_55
            · have hw := And.right hw hc
              refine lv_iload_n hx hb dX6_readVillage_49 rfl (lv_at hl 2 rfl) ?_
              refine lv_iconst (v := (5 : Int32)) hx hb dX6_readVillage_50 (by decide) ?_
              refine lv_icmp_ne (tgt := 56) hx hb dX6_readVillage_51 (by decide) (fun hc => ?_) (fun hc => ?_)
              · have hw := And.left hw hc
                refine lv_aload_n hx hb dX6_readVillage_56 rfl (lv_at hl 1 rfl) ?_
                refine lv_dup hx hb dX6_readVillage_57 rfl ?_
                refine rg_M_X6_0_18 hC hK hP dX6_readVillage_58 ?_
                refine lv_iconst (v := (1 : Int32)) hx hb dX6_readVillage_61 (by decide) ?_
                refine lv_iadd hx hb dX6_readVillage_62 ?_
                refine rp_M_X6_0_18 hC hK hP hD hS dX6_readVillage_63 (fun z4 H locs hz1 hP hD hS => ?_)
                have hw := hw z4 hz1
                refine lv_iinc (v := (x1 + (1 : Int32))) (lv' := [(1, .int (x1 + (1 : Int32))), (2, .int r2), (0, .ref (h 0))]) hx hb dX6_readVillage_66 hl (k := 2) rfl rfl (by decide) rfl (fun ls hl => ?_)
                refine lv_goto (tgt := 7) hx hb dX6_readVillage_69 (by decide) ?_
                exact I7 (x1 + (1 : Int32)) z4 _ _ _ hw hP hD hS (lv_sub hl [2, 0] rfl)
              · have hw := And.right hw hc
                refine lv_iconst (v := (0 : Int32)) hx hb dX6_readVillage_54 (by decide) ?_
                exact hret _ _ _ _ _ _ rfl hw hP hD hS dX6_readVillage_55
          · have hw := And.right hw hc
            refine lv_iconst (v := (1 : Int32)) hx hb dX6_readVillage_41 (by decide) ?_
            exact hret _ _ _ _ _ _ rfl hw hP hD hS dX6_readVillage_42
        · have hw := And.right hw hc
          refine lv_iconst (v := (0 : Int32)) hx hb dX6_readVillage_23 (by decide) ?_
          exact hret _ _ _ _ _ _ rfl hw hP hD hS dX6_readVillage_24
  unfold wpX6_readVillage at hw
  refine lv_aload_n hx hb dX6_readVillage_0 rfl (lv_at hl 0 rfl) ?_
  refine lv_iconst (v := (0 : Int32)) hx hb dX6_readVillage_1 (by decide) ?_
  refine rp_M_X6_0_18 hC hK hP hD hS dX6_readVillage_2 (fun z1 H locs hz1 hP hD hS => ?_)
  have hw := hw z1 hz1
  refine lv_iconst (v := (0 : Int32)) hx hb dX6_readVillage_5 (by decide) ?_
  refine lv_istore_n (lv' := [(1, .int (0 : Int32)), (0, .ref (h 0))]) hx hb dX6_readVillage_6 rfl hl (by decide) rfl (fun ls hl => ?_)
  obtain ⟨n7, hw⟩ := hw
  exact B7 n7 (0 : Int32) z1 _ _ _ hw hP hD hS (lv_sub hl [1, 0] rfl)
def wpX6_village_49 (k49 : Int32 → (wSt) → Prop) (post : Int32 → (wSt) → Prop) (x2 : Int32) (z0 : wSt) : Prop := (((w_i z0 19) ≤ x2 → (post (w_i z0 5) z0)) ∧ (¬ (w_i z0 19) ≤ x2 → (vp_in ((3 : Int32) * x2) 24 ∧ (vp_in (((3 : Int32) * x2) + (1 : Int32)) 24 ∧ (vp_in (((3 : Int32) * x2) + (2 : Int32)) 24 ∧ (wpX6_add ((w_a z0 20) ((3 : Int32) * x2).toNatClampNeg) ((w_a z0 20) (((3 : Int32) * x2) + (1 : Int32)).toNatClampNeg) ((w_a z0 20) (((3 : Int32) * x2) + (2 : Int32)).toNatClampNeg) z0 (fun u => ∀ z1 : wSt, z1 = u → (k49 (x2 + (1 : Int32)) z1))))))))
def wpX6_village_L49  (post : Int32 → (wSt) → Prop) : Nat → Int32 → (wSt) → Prop
  | 0 => fun _ _ => False
  | n + 1 => fun x2 z0 => wpX6_village_49  (wpX6_village_L49  post n) post x2 z0
def wpX6_village_14  (post : Int32 → (wSt) → Prop) (x1 : Int32) (z0 : wSt) : Prop := (∀ z1 : wSt, z1 = (w_si z0 17 (0 : Int32)) → ((¬ x1 = 0 → (∀ z2 : wSt, z2 = (w_si z1 5 (0 : Int32)) → (∀ z3 : wSt, z3 = (w_si z2 14 (0 : Int32)) → (∀ z4 : wSt, z4 = (w_si z3 12 (9 : Int32)) → (∃ n, wpX6_village_L49  post n (0 : Int32) z4))))) ∧ (x1 = 0 → (post ((-20 : Int32) - (w_i z1 18)) z1))))
def wpX6_village (z0 : wSt) (post : Int32 → (wSt) → Prop) : Prop := (wpX6_readVillage z0 (fun r1 u => ∀ z1 : wSt, z1 = u → ((¬ r1 = 0 → (wpX6_village_14  post r1 z1)) ∧ (r1 = 0 → (wpX6_nextByte z1 (fun r2 u => ∀ z2 : wSt, z2 = u → (wpX6_village_14  post r1 z2)))))))
set_option maxHeartbeats 4000000 in
set_option maxRecDepth 100000 in
theorem cX6_village_c {l : Launch} {G : wG} {h : Nat → Nat} {sz : Nat}  {post : Int32 → (wSt) → Prop} {z0 : wSt}  (hw : wpX6_village z0 post) : Met l yX6_village (.code yX6_village cX6_village 3 (some .int) :: BIG) { frames := 4, cells := 0, slots := 0, locals := 94 } (xPw G [.ref (h 0)] (wsM G h z0) sz) (xQi G post (fun q => (wsM G h q)) (va_A (wsM G h z0) sz)) 0 0 (va_A (wsM G h z0) sz) := by
  refine xm_wi (by decide) (Nat.le_of_ble_eq_true rfl) (fun p e s m args below meth c A ls R Q hC hK hA hP hD hS hl hF hL hret => ?_)
  have hx := hC.1
  have hb := hC.2.1
  have hl : lv_has ls 3 [(0, .ref (h 0))] := hl
  have B49 : ∀ n : Nat, ∀ (x2 : Int32) (z0 : wSt) (H : Heap) (locs : List Loc) (ls : Array Slot), wpX6_village_L49  post n x2 z0 → va_P G.1 vwCl (wsM G h z0) H → va_D A (wsM G h z0) → va_S A s.heap H locs → lv_has ls 3 [(0, .ref (h 0)), (2, .int x2)] → W p l e R s m args below meth c H locs 0 0 Q (F0 m 49 ls []) := by
    intro n
    induction n with
    | zero => intro x2 z0 H locs ls hw hP hD hS hl; exact False.elim hw
    | succ n I49 =>
      intro x2 z0 H locs ls hw hP hD hS hl
      have hw : wpX6_village_49  (wpX6_village_L49  post n) post x2 z0 := hw
      unfold wpX6_village_49 at hw
      refine lv_iload_n hx hb dX6_village_49 rfl (lv_at hl 1 rfl) ?_
      refine lv_aload_n hx hb dX6_village_50 rfl (lv_at hl 0 rfl) ?_
      refine rg_M_X6_0_19 hC hK hP dX6_village_51 ?_
      refine lv_icmp_ge (tgt := 95) hx hb dX6_village_54 (by decide) (fun hc => ?_) (fun hc => ?_)
      · have hw := And.left hw hc
        refine lv_aload_n hx hb dX6_village_95 rfl (lv_at hl 0 rfl) ?_
        refine rg_M_X6_0_5 hC hK hP dX6_village_96 ?_
        exact hret _ _ _ _ _ _ hw hP hD hS dX6_village_99
      · have hw := And.right hw hc
        refine lv_aload_n hx hb dX6_village_57 rfl (lv_at hl 0 rfl) ?_
        refine lv_aload_n hx hb dX6_village_58 rfl (lv_at hl 0 rfl) ?_
        refine rg_M_X6_0_20 hC hK hP dX6_village_59 ?_
        refine lv_iconst (v := (3 : Int32)) hx hb dX6_village_62 (by decide) ?_
        refine lv_iload_n hx hb dX6_village_63 rfl (lv_at hl 1 rfl) ?_
        refine lv_imul hx hb dX6_village_64 ?_
        refine rl_M_8 hC hK hP (And.left hw) dX6_village_65 ?_
        have hw := And.right hw
        refine lv_aload_n hx hb dX6_village_66 rfl (lv_at hl 0 rfl) ?_
        refine rg_M_X6_0_20 hC hK hP dX6_village_67 ?_
        refine lv_iconst (v := (3 : Int32)) hx hb dX6_village_70 (by decide) ?_
        refine lv_iload_n hx hb dX6_village_71 rfl (lv_at hl 1 rfl) ?_
        refine lv_imul hx hb dX6_village_72 ?_
        refine lv_iconst (v := (1 : Int32)) hx hb dX6_village_73 (by decide) ?_
        refine lv_iadd hx hb dX6_village_74 ?_
        refine rl_M_8 hC hK hP (And.left hw) dX6_village_75 ?_
        have hw := And.right hw
        refine lv_aload_n hx hb dX6_village_76 rfl (lv_at hl 0 rfl) ?_
        refine rg_M_X6_0_20 hC hK hP dX6_village_77 ?_
        refine lv_iconst (v := (3 : Int32)) hx hb dX6_village_80 (by decide) ?_
        refine lv_iload_n hx hb dX6_village_81 rfl (lv_at hl 1 rfl) ?_
        refine lv_imul hx hb dX6_village_82 ?_
        refine lv_iconst (v := (2 : Int32)) hx hb dX6_village_83 (by decide) ?_
        refine lv_iadd hx hb dX6_village_84 ?_
        refine rl_M_8 hC hK hP (And.left hw) dX6_village_85 ?_
        have hw := And.right hw
        refine xc_wv (wsz := fun q => (wsM G h q)) (f := fun u => u) (xr_V hC (cX6_add_c (h := h) hw) ⟨rfl, rfl⟩ bw_705 calX6_add ⟨Nat.le_trans (Nat.le_of_ble_eq_true rfl) hF, Nat.le_trans (Nat.le_of_ble_eq_true rfl) hL⟩ (rest := []) (xpV hK (cut_all_M) hP hD rfl rfl) rfl hl rfl (Nat.le_of_ble_eq_true rfl) dX6_village_86 ⟨Nat.zero_le _, Nat.zero_le _⟩) (cut_all_M) hP hD hS hA (fun u z1 H locs hz1 hw hP hD hS => ?_)
        have hw := hw z1 hz1
        refine lv_iinc (v := (x2 + (1 : Int32))) (lv' := [(2, .int (x2 + (1 : Int32))), (0, .ref (h 0))]) hx hb dX6_village_89 hl (k := 1) rfl rfl (by decide) rfl (fun ls hl => ?_)
        refine lv_goto (tgt := 49) hx hb dX6_village_92 (by decide) ?_
        exact I49 (x2 + (1 : Int32)) z1 _ _ _ hw hP hD hS (lv_sub hl [1, 0] rfl)
  have B14 : ∀ (x1 : Int32) (z0 : wSt) (H : Heap) (locs : List Loc) (ls : Array Slot), wpX6_village_14  post x1 z0 → va_P G.1 vwCl (wsM G h z0) H → va_D A (wsM G h z0) → va_S A s.heap H locs → lv_has ls 3 [(0, .ref (h 0)), (1, .int x1)] → W p l e R s m args below meth c H locs 0 0 Q (F0 m 14 ls []) := by
    intro x1 z0 H locs ls hw hP hD hS hl
    unfold wpX6_village_14 at hw
    refine lv_aload_n hx hb dX6_village_14 rfl (lv_at hl 0 rfl) ?_
    refine lv_iconst (v := (0 : Int32)) hx hb dX6_village_15 (by decide) ?_
    refine rp_M_X6_0_17 hC hK hP hD hS dX6_village_16 (fun z1 H locs hz1 hP hD hS => ?_)
    have hw := hw z1 hz1
    refine lv_iload_n hx hb dX6_village_19 rfl (lv_at hl 1 rfl) ?_
    refine lv_if_ne (tgt := 31) hx hb dX6_village_20 (by decide) (fun hc => ?_) (fun hc => ?_)
    · have hw := And.left hw hc
      refine lv_aload_n hx hb dX6_village_31 rfl (lv_at hl 0 rfl) ?_
      refine lv_iconst (v := (0 : Int32)) hx hb dX6_village_32 (by decide) ?_
      refine rp_M_X6_0_5 hC hK hP hD hS dX6_village_33 (fun z2 H locs hz1 hP hD hS => ?_)
      have hw := hw z2 hz1
      refine lv_aload_n hx hb dX6_village_36 rfl (lv_at hl 0 rfl) ?_
      refine lv_iconst (v := (0 : Int32)) hx hb dX6_village_37 (by decide) ?_
      refine rp_M_X6_0_14 hC hK hP hD hS dX6_village_38 (fun z3 H locs hz1 hP hD hS => ?_)
      have hw := hw z3 hz1
      refine lv_aload_n hx hb dX6_village_41 rfl (lv_at hl 0 rfl) ?_
      refine lv_bipush (v := (9 : Int32)) hx hb dX6_village_42 (by decide) ?_
      refine rp_M_X6_0_12 hC hK hP hD hS dX6_village_44 (fun z4 H locs hz1 hP hD hS => ?_)
      have hw := hw z4 hz1
      refine lv_iconst (v := (0 : Int32)) hx hb dX6_village_47 (by decide) ?_
      refine lv_istore_n (lv' := [(2, .int (0 : Int32)), (0, .ref (h 0)), (1, .int x1)]) hx hb dX6_village_48 rfl hl (by decide) rfl (fun ls hl => ?_)
      obtain ⟨n49, hw⟩ := hw
      exact B49 n49 (0 : Int32) z4 _ _ _ hw hP hD hS (lv_sub hl [1, 0] rfl)
    · have hw := And.right hw hc
      refine lv_bipush (v := (-20 : Int32)) hx hb dX6_village_23 (by decide) ?_
      refine lv_aload_n hx hb dX6_village_25 rfl (lv_at hl 0 rfl) ?_
      refine rg_M_X6_0_18 hC hK hP dX6_village_26 ?_
      refine lv_isub hx hb dX6_village_29 ?_
      exact hret _ _ _ _ _ _ hw hP hD hS dX6_village_30
  unfold wpX6_village at hw
  refine lv_aload_n hx hb dX6_village_0 rfl (lv_at hl 0 rfl) ?_
  refine xc_wi (wsz := fun q => (wsM G h q)) (f := fun u => u) (xr_V hC (cX6_readVillage_c (h := h) hw) ⟨rfl, rfl⟩ bw_753 calX6_readVillage ⟨Nat.le_trans (Nat.le_of_ble_eq_true rfl) hF, Nat.le_trans (Nat.le_of_ble_eq_true rfl) hL⟩ (rest := []) (xpV hK (cut_all_M) hP hD rfl rfl) rfl hl rfl (Nat.le_of_ble_eq_true rfl) dX6_village_1 ⟨Nat.zero_le _, Nat.zero_le _⟩) (cut_all_M) hP hD hS hA (fun r1 u z1 H locs hz1 hw hP hD hS => ?_)
  have hw := hw z1 hz1
  refine lv_istore_n (lv' := [(1, .int r1), (0, .ref (h 0))]) hx hb dX6_village_4 rfl hl (by decide) rfl (fun ls hl => ?_)
  refine lv_iload_n hx hb dX6_village_5 rfl (lv_at hl 0 rfl) ?_
  refine lv_if_ne (tgt := 14) hx hb dX6_village_6 (by decide) (fun hc => ?_) (fun hc => ?_)
  · have hw := And.left hw hc
    exact B14 r1 z1 _ _ _ hw hP hD hS (lv_sub hl [1, 0] rfl)
  · have hw := And.right hw hc
    refine lv_aload_n hx hb dX6_village_9 rfl (lv_at hl 1 rfl) ?_
    refine xc_wi (wsz := fun q => (wsM G h q)) (f := fun u => u) (xr_V hC (cX6_nextByte_c (h := h) hw) ⟨rfl, rfl⟩ bw_761 calX6_nextByte ⟨Nat.le_trans (Nat.le_of_ble_eq_true rfl) hF, Nat.le_trans (Nat.le_of_ble_eq_true rfl) hL⟩ (rest := []) (xpV hK (cut_all_M) hP hD rfl rfl) rfl hl rfl (Nat.le_of_ble_eq_true rfl) dX6_village_10 ⟨Nat.zero_le _, Nat.zero_le _⟩) (cut_all_M) hP hD hS hA (fun r2 u z2 H locs hz1 hw hP hD hS => ?_)
    have hw := hw z2 hz1
    refine lv_pop hx hb dX6_village_13 rfl ?_
    exact B14 r1 z2 _ _ _ hw hP hD hS (lv_sub hl [1, 0] rfl)
def wpX6_readPlan_80 (k10 : (wSt) → Prop) (post : Int32 → (wSt) → Prop) (t0 : Int32) (t1 : Int32) (z0 : wSt) : Prop := (vp_in t1 24 ∧ ∀ z1 : wSt, z1 = (w_sa z0 20 (upd (w_a z0 20) t1.toNatClampNeg t0)) → (∀ z2 : wSt, z2 = (w_si z1 19 ((w_i z1 19) + (1 : Int32))) → (∀ z3 : wSt, z3 = (w_si z2 18 ((w_i z2 18) + (1 : Int32))) → (k10 z3))))
def wpX6_readPlan_46 (k10 : (wSt) → Prop) (post : Int32 → (wSt) → Prop) (x1 : Int32) (z0 : wSt) : Prop := ((¬ (w_i z0 19) = (24 : Int32) → ((¬ x1 = (46 : Int32) → (wpX6_readPlan_80 k10 post (x1 - (48 : Int32)) (w_i z0 19) z0)) ∧ (x1 = (46 : Int32) → (wpX6_readPlan_80 k10 post (9 : Int32) (w_i z0 19) z0)))) ∧ ((w_i z0 19) = (24 : Int32) → (post (0 : Int32) z0)))
def wpX6_readPlan_24 (k10 : (wSt) → Prop) (post : Int32 → (wSt) → Prop)  (z0 : wSt) : Prop := (wpX6_nextByte z0 (fun r1 u => ∀ z1 : wSt, z1 = u → ((r1 = (46 : Int32) → (wpX6_readPlan_46 k10 post r1 z1)) ∧ (¬ r1 = (46 : Int32) → (wpX6_isOne (r1 - (48 : Int32)) z1 (fun r2 => ((r2 = 0 → (post (0 : Int32) z1)) ∧ (¬ r2 = 0 → (wpX6_readPlan_46 k10 post r1 z1)))))))))
def wpX6_readPlan_10 (k10 : (wSt) → Prop) (post : Int32 → (wSt) → Prop)  (z0 : wSt) : Prop := (((w_i z0 19) = 0 → (wpX6_readPlan_24 k10 post z0)) ∧ (¬ (w_i z0 19) = 0 → (wpX6_nextByte z0 (fun r1 u => ∀ z1 : wSt, z1 = u → ((r1 < 0 → (post (1 : Int32) z1)) ∧ (¬ r1 < 0 → (wpX6_readPlan_24 k10 post z1)))))))
def wpX6_readPlan_L10  (post : Int32 → (wSt) → Prop) : Nat → (wSt) → Prop
  | 0 => fun _ => False
  | n + 1 => fun z0 => wpX6_readPlan_10  (wpX6_readPlan_L10  post n) post z0
def wpX6_readPlan (z0 : wSt) (post : Int32 → (wSt) → Prop) : Prop := (∀ z1 : wSt, z1 = (w_si z0 18 (0 : Int32)) → (∀ z2 : wSt, z2 = (w_si z1 19 (0 : Int32)) → (∃ n, wpX6_readPlan_L10  post n z2)))
set_option maxHeartbeats 4000000 in
set_option maxRecDepth 100000 in
theorem cX6_readPlan_c {l : Launch} {G : wG} {h : Nat → Nat} {sz : Nat}  {post : Int32 → (wSt) → Prop} {z0 : wSt}  (hw : wpX6_readPlan z0 post) : Met l yX6_readPlan (.code yX6_readPlan cX6_readPlan 2 (some .boolean) :: BIG) { frames := 2, cells := 0, slots := 0, locals := 46 } (xPw G [.ref (h 0)] (wsM G h z0) sz) (xQi G post (fun q => (wsM G h q)) (va_A (wsM G h z0) sz)) 0 0 (va_A (wsM G h z0) sz) := by
  refine xm_wz (by decide) (Nat.le_of_ble_eq_true rfl) (fun p e s m args below meth c A ls R Q hC hK hA hP hD hS hl hF hL hret => ?_)
  have hx := hC.1
  have hb := hC.2.1
  have hl : lv_has ls 2 [(0, .ref (h 0))] := hl
  have B10 : ∀ n : Nat, ∀  (z0 : wSt) (H : Heap) (locs : List Loc) (ls : Array Slot), wpX6_readPlan_L10  post n z0 → va_P G.1 vwCl (wsM G h z0) H → va_D A (wsM G h z0) → va_S A s.heap H locs → lv_has ls 2 [(0, .ref (h 0))] → W p l e R s m args below meth c H locs 0 0 Q (F0 m 10 ls []) := by
    intro n
    induction n with
    | zero => intro  z0 H locs ls hw hP hD hS hl; exact False.elim hw
    | succ n I10 =>
      have B80 : ∀ (t0 : Int32) (t1 : Int32) (z0 : wSt) (H : Heap) (locs : List Loc) (ls : Array Slot), wpX6_readPlan_80 (wpX6_readPlan_L10  post n) post t0 t1 z0 → va_P G.1 vwCl (wsM G h z0) H → va_D A (wsM G h z0) → va_S A s.heap H locs → lv_has ls 2 [(0, .ref (h 0))] → W p l e R s m args below meth c H locs 0 0 Q (F0 m 80 ls [.int t0, .int t1, .ref (h 8)]) := by
        intro t0 t1 z0 H locs ls hw hP hD hS hl
        unfold wpX6_readPlan_80 at hw
        refine rs_M_8 hC hK hP hD hS (And.left hw) dX6_readPlan_80 (fun z1 H locs hz1 hP hD hS => ?_)
        have hw := And.right hw z1 hz1
        refine lv_aload_n hx hb dX6_readPlan_81 rfl (lv_at hl 0 rfl) ?_
        refine lv_dup hx hb dX6_readPlan_82 rfl ?_
        refine rg_M_X6_0_19 hC hK hP dX6_readPlan_83 ?_
        refine lv_iconst (v := (1 : Int32)) hx hb dX6_readPlan_86 (by decide) ?_
        refine lv_iadd hx hb dX6_readPlan_87 ?_
        refine rp_M_X6_0_19 hC hK hP hD hS dX6_readPlan_88 (fun z2 H locs hz1 hP hD hS => ?_)
        have hw := hw z2 hz1
        refine lv_aload_n hx hb dX6_readPlan_91 rfl (lv_at hl 0 rfl) ?_
        refine lv_dup hx hb dX6_readPlan_92 rfl ?_
        refine rg_M_X6_0_18 hC hK hP dX6_readPlan_93 ?_
        refine lv_iconst (v := (1 : Int32)) hx hb dX6_readPlan_96 (by decide) ?_
        refine lv_iadd hx hb dX6_readPlan_97 ?_
        refine rp_M_X6_0_18 hC hK hP hD hS dX6_readPlan_98 (fun z3 H locs hz1 hP hD hS => ?_)
        have hw := hw z3 hz1
        refine lv_goto (tgt := 10) hx hb dX6_readPlan_101 (by decide) ?_
        exact I10 z3 _ _ _ hw hP hD hS (lv_sub hl [0] rfl)
      have B46 : ∀ (x1 : Int32) (z0 : wSt) (H : Heap) (locs : List Loc) (ls : Array Slot), wpX6_readPlan_46 (wpX6_readPlan_L10  post n) post x1 z0 → va_P G.1 vwCl (wsM G h z0) H → va_D A (wsM G h z0) → va_S A s.heap H locs → lv_has ls 2 [(0, .ref (h 0)), (1, .int x1)] → W p l e R s m args below meth c H locs 0 0 Q (F0 m 46 ls []) := by
        intro x1 z0 H locs ls hw hP hD hS hl
        unfold wpX6_readPlan_46 at hw
        refine lv_aload_n hx hb dX6_readPlan_46 rfl (lv_at hl 0 rfl) ?_
        refine rg_M_X6_0_19 hC hK hP dX6_readPlan_47 ?_
        refine lv_bipush (v := (24 : Int32)) hx hb dX6_readPlan_50 (by decide) ?_
        refine lv_icmp_ne (tgt := 57) hx hb dX6_readPlan_52 (by decide) (fun hc => ?_) (fun hc => ?_)
        · have hw := And.left hw hc
          refine lv_aload_n hx hb dX6_readPlan_57 rfl (lv_at hl 0 rfl) ?_
          refine rg_M_X6_0_20 hC hK hP dX6_readPlan_58 ?_
          refine lv_aload_n hx hb dX6_readPlan_61 rfl (lv_at hl 0 rfl) ?_
          refine rg_M_X6_0_19 hC hK hP dX6_readPlan_62 ?_
          refine lv_iload_n hx hb dX6_readPlan_65 rfl (lv_at hl 1 rfl) ?_
          refine lv_bipush (v := (46 : Int32)) hx hb dX6_readPlan_66 (by decide) ?_
          refine lv_icmp_ne (tgt := 76) hx hb dX6_readPlan_68 (by decide) (fun hc => ?_) (fun hc => ?_)
          · have hw := And.left hw hc
            refine lv_iload_n hx hb dX6_readPlan_76 rfl (lv_at hl 1 rfl) ?_
            refine lv_bipush (v := (48 : Int32)) hx hb dX6_readPlan_77 (by decide) ?_
            refine lv_isub hx hb dX6_readPlan_79 ?_
            exact B80 (x1 - (48 : Int32)) (w_i z0 19) z0 _ _ _ hw hP hD hS (lv_sub hl [0] rfl)
          · have hw := And.right hw hc
            refine lv_bipush (v := (9 : Int32)) hx hb dX6_readPlan_71 (by decide) ?_
            refine lv_goto (tgt := 80) hx hb dX6_readPlan_73 (by decide) ?_
            exact B80 (9 : Int32) (w_i z0 19) z0 _ _ _ hw hP hD hS (lv_sub hl [0] rfl)
        · have hw := And.right hw hc
          refine lv_iconst (v := (0 : Int32)) hx hb dX6_readPlan_55 (by decide) ?_
          exact hret _ _ _ _ _ _ rfl hw hP hD hS dX6_readPlan_56
      have B24 : ∀  (z0 : wSt) (H : Heap) (locs : List Loc) (ls : Array Slot), wpX6_readPlan_24 (wpX6_readPlan_L10  post n) post z0 → va_P G.1 vwCl (wsM G h z0) H → va_D A (wsM G h z0) → va_S A s.heap H locs → lv_has ls 2 [(0, .ref (h 0))] → W p l e R s m args below meth c H locs 0 0 Q (F0 m 24 ls []) := by
        intro  z0 H locs ls hw hP hD hS hl
        unfold wpX6_readPlan_24 at hw
        refine lv_aload_n hx hb dX6_readPlan_24 rfl (lv_at hl 0 rfl) ?_
        refine xc_wi (wsz := fun q => (wsM G h q)) (f := fun u => u) (xr_V hC (cX6_nextByte_c (h := h) hw) ⟨rfl, rfl⟩ bw_761 calX6_nextByte ⟨Nat.le_trans (Nat.le_of_ble_eq_true rfl) hF, Nat.le_trans (Nat.le_of_ble_eq_true rfl) hL⟩ (rest := []) (xpV hK (cut_all_M) hP hD rfl rfl) rfl hl rfl (Nat.le_of_ble_eq_true rfl) dX6_readPlan_25 ⟨Nat.zero_le _, Nat.zero_le _⟩) (cut_all_M) hP hD hS hA (fun r1 u z1 H locs hz1 hw hP hD hS => ?_)
        have hw := hw z1 hz1
        refine lv_istore_n (lv' := [(1, .int r1), (0, .ref (h 0))]) hx hb dX6_readPlan_28 rfl hl (by decide) rfl (fun ls hl => ?_)
        refine lv_iload_n hx hb dX6_readPlan_29 rfl (lv_at hl 0 rfl) ?_
        refine lv_bipush (v := (46 : Int32)) hx hb dX6_readPlan_30 (by decide) ?_
        refine lv_icmp_eq (tgt := 46) hx hb dX6_readPlan_32 (by decide) (fun hc => ?_) (fun hc => ?_)
        · have hw := And.left hw hc
          exact B46 r1 z1 _ _ _ hw hP hD hS (lv_sub hl [1, 0] rfl)
        · have hw := And.right hw hc
          refine lv_aload_n hx hb dX6_readPlan_35 rfl (lv_at hl 1 rfl) ?_
          refine lv_iload_n hx hb dX6_readPlan_36 rfl (lv_at hl 0 rfl) ?_
          refine lv_bipush (v := (48 : Int32)) hx hb dX6_readPlan_37 (by decide) ?_
          refine lv_isub hx hb dX6_readPlan_39 ?_
          refine vp_callSi (xro (xr_V hC (cX6_isOne_c (h := h) hw) ⟨rfl, rfl⟩ bw_713 calX6_isOne ⟨Nat.le_trans (Nat.le_of_ble_eq_true rfl) hF, Nat.le_trans (Nat.le_of_ble_eq_true rfl) hL⟩ (rest := []) (xpR hK hP rfl rfl) rfl hl rfl (Nat.le_of_ble_eq_true rfl) dX6_readPlan_40 ⟨Nat.zero_le _, Nat.zero_le _⟩)) (fun r2 hw => ?_)
          refine lv_if_eq (tgt := 55) hx hb dX6_readPlan_43 (by decide) (fun hc => ?_) (fun hc => ?_)
          · have hw := And.left hw hc
            refine lv_iconst (v := (0 : Int32)) hx hb dX6_readPlan_55 (by decide) ?_
            exact hret _ _ _ _ _ _ rfl hw hP hD hS dX6_readPlan_56
          · have hw := And.right hw hc
            exact B46 r1 z1 _ _ _ hw hP hD hS (lv_sub hl [1, 0] rfl)
      intro  z0 H locs ls hw hP hD hS hl
      have hw : wpX6_readPlan_10  (wpX6_readPlan_L10  post n) post z0 := hw
      unfold wpX6_readPlan_10 at hw
      refine lv_aload_n hx hb dX6_readPlan_10 rfl (lv_at hl 0 rfl) ?_
      refine rg_M_X6_0_19 hC hK hP dX6_readPlan_11 ?_
      refine lv_if_eq (tgt := 24) hx hb dX6_readPlan_14 (by decide) (fun hc => ?_) (fun hc => ?_)
      · have hw := And.left hw hc
        exact B24 z0 _ _ _ hw hP hD hS (lv_sub hl [0] rfl)
      · have hw := And.right hw hc
        refine lv_aload_n hx hb dX6_readPlan_17 rfl (lv_at hl 0 rfl) ?_
        refine xc_wi (wsz := fun q => (wsM G h q)) (f := fun u => u) (xr_V hC (cX6_nextByte_c (h := h) hw) ⟨rfl, rfl⟩ bw_761 calX6_nextByte ⟨Nat.le_trans (Nat.le_of_ble_eq_true rfl) hF, Nat.le_trans (Nat.le_of_ble_eq_true rfl) hL⟩ (rest := []) (xpV hK (cut_all_M) hP hD rfl rfl) rfl hl rfl (Nat.le_of_ble_eq_true rfl) dX6_readPlan_18 ⟨Nat.zero_le _, Nat.zero_le _⟩) (cut_all_M) hP hD hS hA (fun r1 u z1 H locs hz1 hw hP hD hS => ?_)
        have hw := hw z1 hz1
        refine lv_if_lt (tgt := 104) hx hb dX6_readPlan_21 (by decide) (fun hc => ?_) (fun hc => ?_)
        · have hw := And.left hw hc
          refine lv_iconst (v := (1 : Int32)) hx hb dX6_readPlan_104 (by decide) ?_
          exact hret _ _ _ _ _ _ rfl hw hP hD hS dX6_readPlan_105
        · have hw := And.right hw hc
          exact B24 z1 _ _ _ hw hP hD hS (lv_sub hl [0] rfl)
  unfold wpX6_readPlan at hw
  refine lv_aload_n hx hb dX6_readPlan_0 rfl (lv_at hl 0 rfl) ?_
  refine lv_iconst (v := (0 : Int32)) hx hb dX6_readPlan_1 (by decide) ?_
  refine rp_M_X6_0_18 hC hK hP hD hS dX6_readPlan_2 (fun z1 H locs hz1 hP hD hS => ?_)
  have hw := hw z1 hz1
  refine lv_aload_n hx hb dX6_readPlan_5 rfl (lv_at hl 0 rfl) ?_
  refine lv_iconst (v := (0 : Int32)) hx hb dX6_readPlan_6 (by decide) ?_
  refine rp_M_X6_0_19 hC hK hP hD hS dX6_readPlan_7 (fun z2 H locs hz1 hP hD hS => ?_)
  have hw := hw z2 hz1
  obtain ⟨n10, hw⟩ := hw
  exact B10 n10 z2 _ _ _ hw hP hD hS (lv_sub hl [0] rfl)
def wpX6_plan_41 (k41 : Int32 → (wSt) → Prop) (post : Int32 → (wSt) → Prop) (x2 : Int32) (z0 : wSt) : Prop := (((w_i z0 19) ≤ x2 → (post (w_i z0 14) z0)) ∧ (¬ (w_i z0 19) ≤ x2 → (vp_in x2 24 ∧ (vp_in x2 24 ∧ ∀ z1 : wSt, z1 = (w_sa z0 13 (upd (w_a z0 13) x2.toNatClampNeg ((w_a z0 20) x2.toNatClampNeg))) → (k41 (x2 + (1 : Int32)) z1)))))
def wpX6_plan_L41  (post : Int32 → (wSt) → Prop) : Nat → Int32 → (wSt) → Prop
  | 0 => fun _ _ => False
  | n + 1 => fun x2 z0 => wpX6_plan_41  (wpX6_plan_L41  post n) post x2 z0
def wpX6_plan_14  (post : Int32 → (wSt) → Prop) (x1 : Int32) (z0 : wSt) : Prop := (∀ z1 : wSt, z1 = (w_si z0 17 (0 : Int32)) → ((¬ x1 = 0 → (∀ z2 : wSt, z2 = (w_si z1 14 (w_i z1 19)) → (∃ n, wpX6_plan_L41  post n (0 : Int32) z2))) ∧ (x1 = 0 → (post ((-20 : Int32) - (w_i z1 18)) z1))))
def wpX6_plan (z0 : wSt) (post : Int32 → (wSt) → Prop) : Prop := (wpX6_readPlan z0 (fun r1 u => ∀ z1 : wSt, z1 = u → ((¬ r1 = 0 → (wpX6_plan_14  post r1 z1)) ∧ (r1 = 0 → (wpX6_nextByte z1 (fun r2 u => ∀ z2 : wSt, z2 = u → (wpX6_plan_14  post r1 z2)))))))
set_option maxHeartbeats 4000000 in
set_option maxRecDepth 100000 in
theorem cX6_plan_c {l : Launch} {G : wG} {h : Nat → Nat} {sz : Nat}  {post : Int32 → (wSt) → Prop} {z0 : wSt}  (hw : wpX6_plan z0 post) : Met l yX6_plan (.code yX6_plan cX6_plan 3 (some .int) :: BIG) { frames := 3, cells := 0, slots := 0, locals := 67 } (xPw G [.ref (h 0)] (wsM G h z0) sz) (xQi G post (fun q => (wsM G h q)) (va_A (wsM G h z0) sz)) 0 0 (va_A (wsM G h z0) sz) := by
  refine xm_wi (by decide) (Nat.le_of_ble_eq_true rfl) (fun p e s m args below meth c A ls R Q hC hK hA hP hD hS hl hF hL hret => ?_)
  have hx := hC.1
  have hb := hC.2.1
  have hl : lv_has ls 3 [(0, .ref (h 0))] := hl
  have B41 : ∀ n : Nat, ∀ (x2 : Int32) (z0 : wSt) (H : Heap) (locs : List Loc) (ls : Array Slot), wpX6_plan_L41  post n x2 z0 → va_P G.1 vwCl (wsM G h z0) H → va_D A (wsM G h z0) → va_S A s.heap H locs → lv_has ls 3 [(0, .ref (h 0)), (2, .int x2)] → W p l e R s m args below meth c H locs 0 0 Q (F0 m 41 ls []) := by
    intro n
    induction n with
    | zero => intro x2 z0 H locs ls hw hP hD hS hl; exact False.elim hw
    | succ n I41 =>
      intro x2 z0 H locs ls hw hP hD hS hl
      have hw : wpX6_plan_41  (wpX6_plan_L41  post n) post x2 z0 := hw
      unfold wpX6_plan_41 at hw
      refine lv_iload_n hx hb dX6_plan_41 rfl (lv_at hl 1 rfl) ?_
      refine lv_aload_n hx hb dX6_plan_42 rfl (lv_at hl 0 rfl) ?_
      refine rg_M_X6_0_19 hC hK hP dX6_plan_43 ?_
      refine lv_icmp_ge (tgt := 67) hx hb dX6_plan_46 (by decide) (fun hc => ?_) (fun hc => ?_)
      · have hw := And.left hw hc
        refine lv_aload_n hx hb dX6_plan_67 rfl (lv_at hl 0 rfl) ?_
        refine rg_M_X6_0_14 hC hK hP dX6_plan_68 ?_
        exact hret _ _ _ _ _ _ hw hP hD hS dX6_plan_71
      · have hw := And.right hw hc
        refine lv_aload_n hx hb dX6_plan_49 rfl (lv_at hl 0 rfl) ?_
        refine rg_M_X6_0_13 hC hK hP dX6_plan_50 ?_
        refine lv_iload_n hx hb dX6_plan_53 rfl (lv_at hl 1 rfl) ?_
        refine lv_aload_n hx hb dX6_plan_54 rfl (lv_at hl 0 rfl) ?_
        refine rg_M_X6_0_20 hC hK hP dX6_plan_55 ?_
        refine lv_iload_n hx hb dX6_plan_58 rfl (lv_at hl 1 rfl) ?_
        refine rl_M_8 hC hK hP (And.left hw) dX6_plan_59 ?_
        have hw := And.right hw
        refine rs_M_6 hC hK hP hD hS (And.left hw) dX6_plan_60 (fun z1 H locs hz1 hP hD hS => ?_)
        have hw := And.right hw z1 hz1
        refine lv_iinc (v := (x2 + (1 : Int32))) (lv' := [(2, .int (x2 + (1 : Int32))), (0, .ref (h 0))]) hx hb dX6_plan_61 hl (k := 1) rfl rfl (by decide) rfl (fun ls hl => ?_)
        refine lv_goto (tgt := 41) hx hb dX6_plan_64 (by decide) ?_
        exact I41 (x2 + (1 : Int32)) z1 _ _ _ hw hP hD hS (lv_sub hl [1, 0] rfl)
  have B14 : ∀ (x1 : Int32) (z0 : wSt) (H : Heap) (locs : List Loc) (ls : Array Slot), wpX6_plan_14  post x1 z0 → va_P G.1 vwCl (wsM G h z0) H → va_D A (wsM G h z0) → va_S A s.heap H locs → lv_has ls 3 [(0, .ref (h 0)), (1, .int x1)] → W p l e R s m args below meth c H locs 0 0 Q (F0 m 14 ls []) := by
    intro x1 z0 H locs ls hw hP hD hS hl
    unfold wpX6_plan_14 at hw
    refine lv_aload_n hx hb dX6_plan_14 rfl (lv_at hl 0 rfl) ?_
    refine lv_iconst (v := (0 : Int32)) hx hb dX6_plan_15 (by decide) ?_
    refine rp_M_X6_0_17 hC hK hP hD hS dX6_plan_16 (fun z1 H locs hz1 hP hD hS => ?_)
    have hw := hw z1 hz1
    refine lv_iload_n hx hb dX6_plan_19 rfl (lv_at hl 1 rfl) ?_
    refine lv_if_ne (tgt := 31) hx hb dX6_plan_20 (by decide) (fun hc => ?_) (fun hc => ?_)
    · have hw := And.left hw hc
      refine lv_aload_n hx hb dX6_plan_31 rfl (lv_at hl 0 rfl) ?_
      refine lv_aload_n hx hb dX6_plan_32 rfl (lv_at hl 0 rfl) ?_
      refine rg_M_X6_0_19 hC hK hP dX6_plan_33 ?_
      refine rp_M_X6_0_14 hC hK hP hD hS dX6_plan_36 (fun z2 H locs hz1 hP hD hS => ?_)
      have hw := hw z2 hz1
      refine lv_iconst (v := (0 : Int32)) hx hb dX6_plan_39 (by decide) ?_
      refine lv_istore_n (lv' := [(2, .int (0 : Int32)), (0, .ref (h 0)), (1, .int x1)]) hx hb dX6_plan_40 rfl hl (by decide) rfl (fun ls hl => ?_)
      obtain ⟨n41, hw⟩ := hw
      exact B41 n41 (0 : Int32) z2 _ _ _ hw hP hD hS (lv_sub hl [1, 0] rfl)
    · have hw := And.right hw hc
      refine lv_bipush (v := (-20 : Int32)) hx hb dX6_plan_23 (by decide) ?_
      refine lv_aload_n hx hb dX6_plan_25 rfl (lv_at hl 0 rfl) ?_
      refine rg_M_X6_0_18 hC hK hP dX6_plan_26 ?_
      refine lv_isub hx hb dX6_plan_29 ?_
      exact hret _ _ _ _ _ _ hw hP hD hS dX6_plan_30
  unfold wpX6_plan at hw
  refine lv_aload_n hx hb dX6_plan_0 rfl (lv_at hl 0 rfl) ?_
  refine xc_wi (wsz := fun q => (wsM G h q)) (f := fun u => u) (xr_V hC (cX6_readPlan_c (h := h) hw) ⟨rfl, rfl⟩ bw_773 calX6_readPlan ⟨Nat.le_trans (Nat.le_of_ble_eq_true rfl) hF, Nat.le_trans (Nat.le_of_ble_eq_true rfl) hL⟩ (rest := []) (xpV hK (cut_all_M) hP hD rfl rfl) rfl hl rfl (Nat.le_of_ble_eq_true rfl) dX6_plan_1 ⟨Nat.zero_le _, Nat.zero_le _⟩) (cut_all_M) hP hD hS hA (fun r1 u z1 H locs hz1 hw hP hD hS => ?_)
  have hw := hw z1 hz1
  refine lv_istore_n (lv' := [(1, .int r1), (0, .ref (h 0))]) hx hb dX6_plan_4 rfl hl (by decide) rfl (fun ls hl => ?_)
  refine lv_iload_n hx hb dX6_plan_5 rfl (lv_at hl 0 rfl) ?_
  refine lv_if_ne (tgt := 14) hx hb dX6_plan_6 (by decide) (fun hc => ?_) (fun hc => ?_)
  · have hw := And.left hw hc
    exact B14 r1 z1 _ _ _ hw hP hD hS (lv_sub hl [1, 0] rfl)
  · have hw := And.right hw hc
    refine lv_aload_n hx hb dX6_plan_9 rfl (lv_at hl 1 rfl) ?_
    refine xc_wi (wsz := fun q => (wsM G h q)) (f := fun u => u) (xr_V hC (cX6_nextByte_c (h := h) hw) ⟨rfl, rfl⟩ bw_761 calX6_nextByte ⟨Nat.le_trans (Nat.le_of_ble_eq_true rfl) hF, Nat.le_trans (Nat.le_of_ble_eq_true rfl) hL⟩ (rest := []) (xpV hK (cut_all_M) hP hD rfl rfl) rfl hl rfl (Nat.le_of_ble_eq_true rfl) dX6_plan_10 ⟨Nat.zero_le _, Nat.zero_le _⟩) (cut_all_M) hP hD hS hA (fun r2 u z2 H locs hz1 hw hP hD hS => ?_)
    have hw := hw z2 hz1
    refine lv_pop hx hb dX6_plan_13 rfl ?_
    exact B14 r1 z2 _ _ _ hw hP hD hS (lv_sub hl [1, 0] rfl)
def wpX6_pailsOf_25  (post : Int32 → Prop) (t0 : Int32) : Prop := ((0 ≤ t0 → ((t0 ≤ (9 : Int32) → (post t0)) ∧ (¬ t0 ≤ (9 : Int32) → (post (9 : Int32))))) ∧ (¬ 0 ≤ t0 → (post (0 : Int32))))
def wpX6_pailsOf (x0 : Int32) (x1 : Int32) (post : Int32 → Prop) : Prop := ((¬ x0 = (1 : Int32) → ((¬ x0 = (3 : Int32) → (wpX6_pailsOf_25  post ((4 : Int32) + x1))) ∧ (x0 = (3 : Int32) → (wpX6_pailsOf_25  post ((2 : Int32) + x1))))) ∧ (x0 = (1 : Int32) → (wpX6_pailsOf_25  post ((5 : Int32) + x1))))
set_option maxHeartbeats 4000000 in
set_option maxRecDepth 100000 in
theorem cX6_pailsOf_c {l : Launch} {G : wG} {x0 : Int32} {x1 : Int32} {post : Int32 → Prop}  (hw : wpX6_pailsOf x0 x1 post) : Met l yX6_pailsOf (.code yX6_pailsOf cX6_pailsOf 3 (some .int) :: BIG) { frames := 0, cells := 0, slots := 0, locals := 0 } (xPr G [.int x0, .int x1] ([] : va_W)) (vp_Si post) 0 0 (fun _ => False) := by
  refine xm_ri (by decide) (Nat.le_of_ble_eq_true rfl) (fun p e s m args below meth c ls R Q hC hK hP hl hF hL hret => ?_)
  have hx := hC.1
  have hb := hC.2.1
  have hl : lv_has ls 3 [(0, .int x0), (1, .int x1)] := hl
  have B25 : ∀ (t0 : Int32) (ls : Array Slot), wpX6_pailsOf_25  post t0 → lv_has ls 3 [] → W p l e R s m args below meth c s.heap [] 0 0 Q (F0 m 25 ls [.int t0]) := by
    intro t0 ls hw hl
    unfold wpX6_pailsOf_25 at hw
    refine lv_istore_n (lv' := [(2, .int t0)]) hx hb dX6_pailsOf_25 rfl hl (by decide) rfl (fun ls hl => ?_)
    refine lv_iload_n hx hb dX6_pailsOf_26 rfl (lv_at hl 0 rfl) ?_
    refine lv_if_ge (tgt := 34) hx hb dX6_pailsOf_27 (by decide) (fun hc => ?_) (fun hc => ?_)
    · have hw := And.left hw hc
      refine lv_iload_n hx hb dX6_pailsOf_34 rfl (lv_at hl 0 rfl) ?_
      refine lv_bipush (v := (9 : Int32)) hx hb dX6_pailsOf_35 (by decide) ?_
      refine lv_icmp_le (tgt := 45) hx hb dX6_pailsOf_37 (by decide) (fun hc => ?_) (fun hc => ?_)
      · have hw := And.left hw hc
        refine lv_iload_n hx hb dX6_pailsOf_45 rfl (lv_at hl 0 rfl) ?_
        exact hret _ _ _ hw dX6_pailsOf_46
      · have hw := And.right hw hc
        refine lv_bipush (v := (9 : Int32)) hx hb dX6_pailsOf_40 (by decide) ?_
        refine lv_goto (tgt := 46) hx hb dX6_pailsOf_42 (by decide) ?_
        exact hret _ _ _ hw dX6_pailsOf_46
    · have hw := And.right hw hc
      refine lv_iconst (v := (0 : Int32)) hx hb dX6_pailsOf_30 (by decide) ?_
      refine lv_goto (tgt := 46) hx hb dX6_pailsOf_31 (by decide) ?_
      exact hret _ _ _ hw dX6_pailsOf_46
  unfold wpX6_pailsOf at hw
  refine lv_iload_n hx hb dX6_pailsOf_0 rfl (lv_at hl 0 rfl) ?_
  refine lv_iconst (v := (1 : Int32)) hx hb dX6_pailsOf_1 (by decide) ?_
  refine lv_icmp_ne (tgt := 11) hx hb dX6_pailsOf_2 (by decide) (fun hc => ?_) (fun hc => ?_)
  · have hw := And.left hw hc
    refine lv_iload_n hx hb dX6_pailsOf_11 rfl (lv_at hl 0 rfl) ?_
    refine lv_iconst (v := (3 : Int32)) hx hb dX6_pailsOf_12 (by decide) ?_
    refine lv_icmp_ne (tgt := 22) hx hb dX6_pailsOf_13 (by decide) (fun hc => ?_) (fun hc => ?_)
    · have hw := And.left hw hc
      refine lv_iconst (v := (4 : Int32)) hx hb dX6_pailsOf_22 (by decide) ?_
      refine lv_iload_n hx hb dX6_pailsOf_23 rfl (lv_at hl 1 rfl) ?_
      refine lv_iadd hx hb dX6_pailsOf_24 ?_
      exact B25 ((4 : Int32) + x1) _ hw (lv_sub hl [] rfl)
    · have hw := And.right hw hc
      refine lv_iconst (v := (2 : Int32)) hx hb dX6_pailsOf_16 (by decide) ?_
      refine lv_iload_n hx hb dX6_pailsOf_17 rfl (lv_at hl 1 rfl) ?_
      refine lv_iadd hx hb dX6_pailsOf_18 ?_
      refine lv_goto (tgt := 25) hx hb dX6_pailsOf_19 (by decide) ?_
      exact B25 ((2 : Int32) + x1) _ hw (lv_sub hl [] rfl)
  · have hw := And.right hw hc
    refine lv_iconst (v := (5 : Int32)) hx hb dX6_pailsOf_5 (by decide) ?_
    refine lv_iload_n hx hb dX6_pailsOf_6 rfl (lv_at hl 1 rfl) ?_
    refine lv_iadd hx hb dX6_pailsOf_7 ?_
    refine lv_goto (tgt := 25) hx hb dX6_pailsOf_8 (by decide) ?_
    exact B25 ((5 : Int32) + x1) _ hw (lv_sub hl [] rfl)
def wpX6_isSweet_13  (post : Int32 → Prop)  : Prop := (post (1 : Int32))
def wpX6_isSweet (x0 : Int32) (x1 : Int32) (post : Int32 → Prop) : Prop := ((x0 = (1 : Int32) → (wpX6_isSweet_13  post )) ∧ (¬ x0 = (1 : Int32) → ((¬ x0 = 0 → (post (0 : Int32))) ∧ (x0 = 0 → ((x1 < 0 → (post (0 : Int32))) ∧ (¬ x1 < 0 → (wpX6_isSweet_13  post )))))))
set_option maxHeartbeats 4000000 in
set_option maxRecDepth 100000 in
theorem cX6_isSweet_c {l : Launch} {G : wG} {x0 : Int32} {x1 : Int32} {post : Int32 → Prop}  (hw : wpX6_isSweet x0 x1 post) : Met l yX6_isSweet (.code yX6_isSweet cX6_isSweet 2 (some .boolean) :: BIG) { frames := 0, cells := 0, slots := 0, locals := 0 } (xPr G [.int x0, .int x1] ([] : va_W)) (vp_Si post) 0 0 (fun _ => False) := by
  refine xm_rz (by decide) (Nat.le_of_ble_eq_true rfl) (fun p e s m args below meth c ls R Q hC hK hP hl hF hL hret => ?_)
  have hx := hC.1
  have hb := hC.2.1
  have hl : lv_has ls 2 [(0, .int x0), (1, .int x1)] := hl
  have B13 : ∀  (ls : Array Slot), wpX6_isSweet_13  post  → lv_has ls 2 [] → W p l e R s m args below meth c s.heap [] 0 0 Q (F0 m 13 ls []) := by
    intro  ls hw hl
    unfold wpX6_isSweet_13 at hw
    refine lv_iconst (v := (1 : Int32)) hx hb dX6_isSweet_13 (by decide) ?_
    refine lv_goto (tgt := 18) hx hb dX6_isSweet_14 (by decide) ?_
    exact hret _ _ _ rfl hw dX6_isSweet_18
  unfold wpX6_isSweet at hw
  refine lv_iload_n hx hb dX6_isSweet_0 rfl (lv_at hl 0 rfl) ?_
  refine lv_iconst (v := (1 : Int32)) hx hb dX6_isSweet_1 (by decide) ?_
  refine lv_icmp_eq (tgt := 13) hx hb dX6_isSweet_2 (by decide) (fun hc => ?_) (fun hc => ?_)
  · have hw := And.left hw hc
    exact B13  _ hw (lv_sub hl [] rfl)
  · have hw := And.right hw hc
    refine lv_iload_n hx hb dX6_isSweet_5 rfl (lv_at hl 0 rfl) ?_
    refine lv_if_ne (tgt := 17) hx hb dX6_isSweet_6 (by decide) (fun hc => ?_) (fun hc => ?_)
    · have hw := And.left hw hc
      refine lv_iconst (v := (0 : Int32)) hx hb dX6_isSweet_17 (by decide) ?_
      exact hret _ _ _ rfl hw dX6_isSweet_18
    · have hw := And.right hw hc
      refine lv_iload_n hx hb dX6_isSweet_9 rfl (lv_at hl 1 rfl) ?_
      refine lv_if_lt (tgt := 17) hx hb dX6_isSweet_10 (by decide) (fun hc => ?_) (fun hc => ?_)
      · have hw := And.left hw hc
        refine lv_iconst (v := (0 : Int32)) hx hb dX6_isSweet_17 (by decide) ?_
        exact hret _ _ _ rfl hw dX6_isSweet_18
      · have hw := And.right hw hc
        exact B13  _ hw (lv_sub hl [] rfl)
def wpX6_most9 (x0 : Int32) (post : Int32 → Prop) : Prop := ((x0 ≤ (9 : Int32) → (((-9 : Int32) ≤ x0 → (post x0)) ∧ (¬ (-9 : Int32) ≤ x0 → (post (-9 : Int32))))) ∧ (¬ x0 ≤ (9 : Int32) → (post (9 : Int32))))
set_option maxHeartbeats 4000000 in
set_option maxRecDepth 100000 in
theorem cX6_most9_c {l : Launch} {G : wG} {x0 : Int32} {post : Int32 → Prop}  (hw : wpX6_most9 x0 post) : Met l yX6_most9 (.code yX6_most9 cX6_most9 1 (some .int) :: BIG) { frames := 0, cells := 0, slots := 0, locals := 0 } (xPr G [.int x0] ([] : va_W)) (vp_Si post) 0 0 (fun _ => False) := by
  refine xm_ri (by decide) (Nat.le_of_ble_eq_true rfl) (fun p e s m args below meth c ls R Q hC hK hP hl hF hL hret => ?_)
  have hx := hC.1
  have hb := hC.2.1
  have hl : lv_has ls 1 [(0, .int x0)] := hl
  unfold wpX6_most9 at hw
  refine lv_iload_n hx hb dX6_most9_0 rfl (lv_at hl 0 rfl) ?_
  refine lv_bipush (v := (9 : Int32)) hx hb dX6_most9_1 (by decide) ?_
  refine lv_icmp_le (tgt := 11) hx hb dX6_most9_3 (by decide) (fun hc => ?_) (fun hc => ?_)
  · have hw := And.left hw hc
    refine lv_iload_n hx hb dX6_most9_11 rfl (lv_at hl 0 rfl) ?_
    refine lv_bipush (v := (-9 : Int32)) hx hb dX6_most9_12 (by decide) ?_
    refine lv_icmp_ge (tgt := 22) hx hb dX6_most9_14 (by decide) (fun hc => ?_) (fun hc => ?_)
    · have hw := And.left hw hc
      refine lv_iload_n hx hb dX6_most9_22 rfl (lv_at hl 0 rfl) ?_
      exact hret _ _ _ hw dX6_most9_23
    · have hw := And.right hw hc
      refine lv_bipush (v := (-9 : Int32)) hx hb dX6_most9_17 (by decide) ?_
      refine lv_goto (tgt := 23) hx hb dX6_most9_19 (by decide) ?_
      exact hret _ _ _ hw dX6_most9_23
  · have hw := And.right hw hc
    refine lv_bipush (v := (9 : Int32)) hx hb dX6_most9_6 (by decide) ?_
    refine lv_goto (tgt := 23) hx hb dX6_most9_8 (by decide) ?_
    exact hret _ _ _ hw dX6_most9_23
def wpX6_wane (x0 : Int32) (post : Int32 → Prop) : Prop := ((x0 ≤ 0 → ((0 ≤ x0 → (post (0 : Int32))) ∧ (¬ 0 ≤ x0 → (post (x0 + (1 : Int32)))))) ∧ (¬ x0 ≤ 0 → (post (x0 - (1 : Int32)))))
set_option maxHeartbeats 4000000 in
set_option maxRecDepth 100000 in
theorem cX6_wane_c {l : Launch} {G : wG} {x0 : Int32} {post : Int32 → Prop}  (hw : wpX6_wane x0 post) : Met l yX6_wane (.code yX6_wane cX6_wane 1 (some .int) :: BIG) { frames := 0, cells := 0, slots := 0, locals := 0 } (xPr G [.int x0] ([] : va_W)) (vp_Si post) 0 0 (fun _ => False) := by
  refine xm_ri (by decide) (Nat.le_of_ble_eq_true rfl) (fun p e s m args below meth c ls R Q hC hK hP hl hF hL hret => ?_)
  have hx := hC.1
  have hb := hC.2.1
  have hl : lv_has ls 1 [(0, .int x0)] := hl
  unfold wpX6_wane at hw
  refine lv_iload_n hx hb dX6_wane_0 rfl (lv_at hl 0 rfl) ?_
  refine lv_if_le (tgt := 10) hx hb dX6_wane_1 (by decide) (fun hc => ?_) (fun hc => ?_)
  · have hw := And.left hw hc
    refine lv_iload_n hx hb dX6_wane_10 rfl (lv_at hl 0 rfl) ?_
    refine lv_if_ge (tgt := 20) hx hb dX6_wane_11 (by decide) (fun hc => ?_) (fun hc => ?_)
    · have hw := And.left hw hc
      refine lv_iconst (v := (0 : Int32)) hx hb dX6_wane_20 (by decide) ?_
      exact hret _ _ _ hw dX6_wane_21
    · have hw := And.right hw hc
      refine lv_iload_n hx hb dX6_wane_14 rfl (lv_at hl 0 rfl) ?_
      refine lv_iconst (v := (1 : Int32)) hx hb dX6_wane_15 (by decide) ?_
      refine lv_iadd hx hb dX6_wane_16 ?_
      refine lv_goto (tgt := 21) hx hb dX6_wane_17 (by decide) ?_
      exact hret _ _ _ hw dX6_wane_21
  · have hw := And.right hw hc
    refine lv_iload_n hx hb dX6_wane_4 rfl (lv_at hl 0 rfl) ?_
    refine lv_iconst (v := (1 : Int32)) hx hb dX6_wane_5 (by decide) ?_
    refine lv_isub hx hb dX6_wane_6 ?_
    refine lv_goto (tgt := 21) hx hb dX6_wane_7 (by decide) ?_
    exact hret _ _ _ hw dX6_wane_21
def wpX6_feltBy (x1 : Int32) (z0 : wSt) (post : Int32 → Prop) : Prop := (vp_in x1 6 ∧ ((¬ ((w_a z0 0) x1.toNatClampNeg) = (3 : Int32) → (vp_in x1 6 ∧ (post ((w_a z0 1) x1.toNatClampNeg)))) ∧ (((w_a z0 0) x1.toNatClampNeg) = (3 : Int32) → (vp_in x1 6 ∧ (post (-((w_a z0 1) x1.toNatClampNeg)))))))
set_option maxHeartbeats 4000000 in
set_option maxRecDepth 100000 in
theorem cX6_feltBy_c {l : Launch} {G : wG} {h : Nat → Nat} {x1 : Int32} {post : Int32 → Prop} {z0 : wSt}  (hw : wpX6_feltBy x1 z0 post) : Met l yX6_feltBy (.code yX6_feltBy cX6_feltBy 2 (some .int) :: BIG) { frames := 0, cells := 0, slots := 0, locals := 0 } (xPr G [.ref (h 0), .int x1] (wsM G h z0)) (vp_Si post) 0 0 (fun _ => False) := by
  refine xm_ri (by decide) (Nat.le_of_ble_eq_true rfl) (fun p e s m args below meth c ls R Q hC hK hP hl hF hL hret => ?_)
  have hx := hC.1
  have hb := hC.2.1
  have hl : lv_has ls 2 [(0, .ref (h 0)), (1, .int x1)] := hl
  unfold wpX6_feltBy at hw
  refine lv_aload_n hx hb dX6_feltBy_0 rfl (lv_at hl 0 rfl) ?_
  refine rg_M_X6_0_0 hC hK hP dX6_feltBy_1 ?_
  refine lv_iload_n hx hb dX6_feltBy_4 rfl (lv_at hl 1 rfl) ?_
  refine rl_M_1 hC hK hP (And.left hw) dX6_feltBy_5 ?_
  have hw := And.right hw
  refine lv_iconst (v := (3 : Int32)) hx hb dX6_feltBy_6 (by decide) ?_
  refine lv_icmp_ne (tgt := 20) hx hb dX6_feltBy_7 (by decide) (fun hc => ?_) (fun hc => ?_)
  · have hw := And.left hw hc
    refine lv_aload_n hx hb dX6_feltBy_20 rfl (lv_at hl 0 rfl) ?_
    refine rg_M_X6_0_1 hC hK hP dX6_feltBy_21 ?_
    refine lv_iload_n hx hb dX6_feltBy_24 rfl (lv_at hl 1 rfl) ?_
    refine rl_M_2 hC hK hP (And.left hw) dX6_feltBy_25 ?_
    have hw := And.right hw
    exact hret _ _ _ hw dX6_feltBy_26
  · have hw := And.right hw hc
    refine lv_aload_n hx hb dX6_feltBy_10 rfl (lv_at hl 0 rfl) ?_
    refine rg_M_X6_0_1 hC hK hP dX6_feltBy_11 ?_
    refine lv_iload_n hx hb dX6_feltBy_14 rfl (lv_at hl 1 rfl) ?_
    refine rl_M_2 hC hK hP (And.left hw) dX6_feltBy_15 ?_
    have hw := And.right hw
    refine lv_ineg hx hb dX6_feltBy_16 ?_
    refine lv_goto (tgt := 26) hx hb dX6_feltBy_17 (by decide) ?_
    exact hret _ _ _ hw dX6_feltBy_26
def wpX6_begin_34 (k34 : Int32 → (wSt) → Prop) (post : (wSt) → Prop) (x1 : Int32) (z0 : wSt) : Prop := (((6 : Int32) ≤ x1 → (post z0)) ∧ (¬ (6 : Int32) ≤ x1 → (vp_in x1 6 ∧ (vp_in x1 6 ∧ ∀ z1 : wSt, z1 = (w_sa z0 27 (upd (w_a z0 27) x1.toNatClampNeg ((w_a z0 4) x1.toNatClampNeg))) → (k34 (x1 + (1 : Int32)) z1)))))
def wpX6_begin_L34  (post : (wSt) → Prop) : Nat → Int32 → (wSt) → Prop
  | 0 => fun _ _ => False
  | n + 1 => fun x1 z0 => wpX6_begin_34  (wpX6_begin_L34  post n) post x1 z0
def wpX6_begin (z0 : wSt) (post : (wSt) → Prop) : Prop := (∀ z1 : wSt, z1 = (w_si z0 21 (w_i z0 6)) → (∀ z2 : wSt, z2 = (w_si z1 22 (w_i z1 7)) → (∀ z3 : wSt, z3 = (w_si z2 23 (w_i z2 11)) → (∀ z4 : wSt, z4 = (w_si z3 24 (w_i z3 12)) → (∃ n, wpX6_begin_L34  post n (0 : Int32) z4)))))
set_option maxHeartbeats 4000000 in
set_option maxRecDepth 100000 in
theorem cX6_begin_c {l : Launch} {G : wG} {h : Nat → Nat} {sz : Nat}  {post : (wSt) → Prop} {z0 : wSt}  (hw : wpX6_begin z0 post) : Met l yX6_begin (.code yX6_begin cX6_begin 2 none :: BIG) { frames := 0, cells := 0, slots := 0, locals := 0 } (xPw G [.ref (h 0)] (wsM G h z0) sz) (xQv G post (fun q => (wsM G h q)) (va_A (wsM G h z0) sz)) 0 0 (va_A (wsM G h z0) sz) := by
  refine xm_wv (by decide) (Nat.le_of_ble_eq_true rfl) (fun p e s m args below meth c A ls R Q hC hK hA hP hD hS hl hF hL hret => ?_)
  have hx := hC.1
  have hb := hC.2.1
  have hl : lv_has ls 2 [(0, .ref (h 0))] := hl
  have B34 : ∀ n : Nat, ∀ (x1 : Int32) (z0 : wSt) (H : Heap) (locs : List Loc) (ls : Array Slot), wpX6_begin_L34  post n x1 z0 → va_P G.1 vwCl (wsM G h z0) H → va_D A (wsM G h z0) → va_S A s.heap H locs → lv_has ls 2 [(0, .ref (h 0)), (1, .int x1)] → W p l e R s m args below meth c H locs 0 0 Q (F0 m 34 ls []) := by
    intro n
    induction n with
    | zero => intro x1 z0 H locs ls hw hP hD hS hl; exact False.elim hw
    | succ n I34 =>
      intro x1 z0 H locs ls hw hP hD hS hl
      have hw : wpX6_begin_34  (wpX6_begin_L34  post n) post x1 z0 := hw
      unfold wpX6_begin_34 at hw
      refine lv_iload_n hx hb dX6_begin_34 rfl (lv_at hl 1 rfl) ?_
      refine lv_bipush (v := (6 : Int32)) hx hb dX6_begin_35 (by decide) ?_
      refine lv_icmp_ge (tgt := 58) hx hb dX6_begin_37 (by decide) (fun hc => ?_) (fun hc => ?_)
      · have hw := And.left hw hc
        exact hret _ _ _ _ _ hw hP hD hS dX6_begin_58
      · have hw := And.right hw hc
        refine lv_aload_n hx hb dX6_begin_40 rfl (lv_at hl 0 rfl) ?_
        refine rg_M_X6_0_27 hC hK hP dX6_begin_41 ?_
        refine lv_iload_n hx hb dX6_begin_44 rfl (lv_at hl 1 rfl) ?_
        refine lv_aload_n hx hb dX6_begin_45 rfl (lv_at hl 0 rfl) ?_
        refine rg_M_X6_0_4 hC hK hP dX6_begin_46 ?_
        refine lv_iload_n hx hb dX6_begin_49 rfl (lv_at hl 1 rfl) ?_
        refine rl_M_5 hC hK hP (And.left hw) dX6_begin_50 ?_
        have hw := And.right hw
        refine rs_M_9 hC hK hP hD hS (And.left hw) dX6_begin_51 (fun z1 H locs hz1 hP hD hS => ?_)
        have hw := And.right hw z1 hz1
        refine lv_iinc (v := (x1 + (1 : Int32))) (lv' := [(1, .int (x1 + (1 : Int32))), (0, .ref (h 0))]) hx hb dX6_begin_52 hl (k := 1) rfl rfl (by decide) rfl (fun ls hl => ?_)
        refine lv_goto (tgt := 34) hx hb dX6_begin_55 (by decide) ?_
        exact I34 (x1 + (1 : Int32)) z1 _ _ _ hw hP hD hS (lv_sub hl [1, 0] rfl)
  unfold wpX6_begin at hw
  refine lv_aload_n hx hb dX6_begin_0 rfl (lv_at hl 0 rfl) ?_
  refine lv_aload_n hx hb dX6_begin_1 rfl (lv_at hl 0 rfl) ?_
  refine rg_M_X6_0_6 hC hK hP dX6_begin_2 ?_
  refine rp_M_X6_0_21 hC hK hP hD hS dX6_begin_5 (fun z1 H locs hz1 hP hD hS => ?_)
  have hw := hw z1 hz1
  refine lv_aload_n hx hb dX6_begin_8 rfl (lv_at hl 0 rfl) ?_
  refine lv_aload_n hx hb dX6_begin_9 rfl (lv_at hl 0 rfl) ?_
  refine rg_M_X6_0_7 hC hK hP dX6_begin_10 ?_
  refine rp_M_X6_0_22 hC hK hP hD hS dX6_begin_13 (fun z2 H locs hz1 hP hD hS => ?_)
  have hw := hw z2 hz1
  refine lv_aload_n hx hb dX6_begin_16 rfl (lv_at hl 0 rfl) ?_
  refine lv_aload_n hx hb dX6_begin_17 rfl (lv_at hl 0 rfl) ?_
  refine rg_M_X6_0_11 hC hK hP dX6_begin_18 ?_
  refine rp_M_X6_0_23 hC hK hP hD hS dX6_begin_21 (fun z3 H locs hz1 hP hD hS => ?_)
  have hw := hw z3 hz1
  refine lv_aload_n hx hb dX6_begin_24 rfl (lv_at hl 0 rfl) ?_
  refine lv_aload_n hx hb dX6_begin_25 rfl (lv_at hl 0 rfl) ?_
  refine rg_M_X6_0_12 hC hK hP dX6_begin_26 ?_
  refine rp_M_X6_0_24 hC hK hP hD hS dX6_begin_29 (fun z4 H locs hz1 hP hD hS => ?_)
  have hw := hw z4 hz1
  refine lv_iconst (v := (0 : Int32)) hx hb dX6_begin_32 (by decide) ?_
  refine lv_istore_n (lv' := [(1, .int (0 : Int32)), (0, .ref (h 0))]) hx hb dX6_begin_33 rfl hl (by decide) rfl (fun ls hl => ?_)
  obtain ⟨n34, hw⟩ := hw
  exact B34 n34 (0 : Int32) z4 _ _ _ hw hP hD hS (lv_sub hl [1, 0] rfl)
def wpX6_tryOne_215  (post : Int32 → (wSt) → Prop) (t0 : Int32) (z0 : wSt) : Prop := (∀ z1 : wSt, z1 = (w_si z0 22 t0) → (∀ z2 : wSt, z2 = (w_si z1 23 ((w_i z1 23) + (1 : Int32))) → (post (1 : Int32) z2)))
def wpX6_tryOne_168  (post : Int32 → (wSt) → Prop) (x1 : Int32) (z0 : wSt) : Prop := (∀ z1 : wSt, z1 = (w_si z0 24 x1) → (wpX6_wane (w_i z1 21) (fun r1 => (∀ z2 : wSt, z2 = (w_si z1 21 r1) → ((((w_i z2 22) + (w_i z2 8)) ≤ (999 : Int32) → (wpX6_tryOne_215  post ((w_i z2 22) + (w_i z2 8)) z2)) ∧ (¬ ((w_i z2 22) + (w_i z2 8)) ≤ (999 : Int32) → (wpX6_tryOne_215  post (999 : Int32) z2)))))))
def wpX6_tryOne_101  (post : Int32 → (wSt) → Prop) (x1 : Int32) (t0 : Int32) (z0 : wSt) : Prop := (∀ z1 : wSt, z1 = (w_si z0 25 t0) → (vp_in x1 6 ∧ (wpX6_isSweet ((w_a z1 0) x1.toNatClampNeg) (w_i z1 21) (fun r1 => (w_zb r1 ∧ (∀ z2 : wSt, z2 = (w_si z1 26 r1) → (∀ z3 : wSt, z3 = (w_si z2 22 ((w_i z2 22) - (w_i z2 25))) → (wpX6_feltBy x1 z3 (fun r2 => (wpX6_most9 ((w_i z3 21) + r2) (fun r3 => (∀ z4 : wSt, z4 = (w_si z3 21 r3) → (vp_in x1 6 ∧ (vp_in x1 6 ∧ ∀ z5 : wSt, z5 = (w_sa z4 27 (upd (w_a z4 27) x1.toNatClampNeg ((w_i z4 23) + ((w_a z4 2) x1.toNatClampNeg)))) → (wpX6_tryOne_168  post x1 z5)))))))))))))))
def wpX6_tryOne_61  (post : Int32 → (wSt) → Prop) (x1 : Int32) (t0 : Int32) (z0 : wSt) : Prop := (vp_in x1 6 ∧ (wpX6_pailsOf ((w_a z0 0) x1.toNatClampNeg) (w_i z0 21) (fun r1 => ((t0 = 0 → (((w_i z0 22) ≤ r1 → (wpX6_tryOne_101  post x1 (w_i z0 22) z0)) ∧ (¬ (w_i z0 22) ≤ r1 → (wpX6_tryOne_101  post x1 r1 z0)))) ∧ (¬ t0 = 0 → (wpX6_tryOne_101  post x1 (0 : Int32) z0))))))
def wpX6_tryOne_60  (post : Int32 → (wSt) → Prop) (x1 : Int32) (z0 : wSt) : Prop := (wpX6_tryOne_61  post x1 (0 : Int32) z0)
def wpX6_tryOne (x1 : Int32) (z0 : wSt) (post : Int32 → (wSt) → Prop) : Prop := (∀ z1 : wSt, z1 = (w_si z0 25 (0 : Int32)) → (∀ z2 : wSt, z2 = (w_si z1 26 (0 : Int32)) → ((x1 = (9 : Int32) → (wpX6_tryOne_168  post x1 z2)) ∧ (¬ x1 = (9 : Int32) → (vp_in x1 6 ∧ ((((w_a z2 27) x1.toNatClampNeg) ≤ (w_i z2 23) → (((w_i z2 24) = (9 : Int32) → (wpX6_tryOne_60  post x1 z2)) ∧ (¬ (w_i z2 24) = (9 : Int32) → (vp_in x1 6 ∧ (wpX6_has ((w_a z2 3) x1.toNatClampNeg) (w_i z2 24) (fun r1 => ((r1 = 0 → (wpX6_tryOne_60  post x1 z2)) ∧ (¬ r1 = 0 → (wpX6_tryOne_61  post x1 (1 : Int32) z2))))))))) ∧ (¬ ((w_a z2 27) x1.toNatClampNeg) ≤ (w_i z2 23) → (post (0 : Int32) z2))))))))
set_option maxHeartbeats 4000000 in
set_option maxRecDepth 100000 in
theorem cX6_tryOne_c {l : Launch} {G : wG} {h : Nat → Nat} {sz : Nat} {x1 : Int32} {post : Int32 → (wSt) → Prop} {z0 : wSt}  (hw : wpX6_tryOne x1 z0 post) : Met l yX6_tryOne (.code yX6_tryOne cX6_tryOne 4 (some .boolean) :: BIG) { frames := 1, cells := 0, slots := 0, locals := 22 } (xPw G [.ref (h 0), .int x1] (wsM G h z0) sz) (xQi G post (fun q => (wsM G h q)) (va_A (wsM G h z0) sz)) 0 0 (va_A (wsM G h z0) sz) := by
  refine xm_wz (by decide) (Nat.le_of_ble_eq_true rfl) (fun p e s m args below meth c A ls R Q hC hK hA hP hD hS hl hF hL hret => ?_)
  have hx := hC.1
  have hb := hC.2.1
  have hl : lv_has ls 4 [(0, .ref (h 0)), (1, .int x1)] := hl
  have B215 : ∀ (t0 : Int32) (z0 : wSt) (H : Heap) (locs : List Loc) (ls : Array Slot), wpX6_tryOne_215  post t0 z0 → va_P G.1 vwCl (wsM G h z0) H → va_D A (wsM G h z0) → va_S A s.heap H locs → lv_has ls 4 [(0, .ref (h 0))] → W p l e R s m args below meth c H locs 0 0 Q (F0 m 215 ls [.int t0, .ref (h 0)]) := by
    intro t0 z0 H locs ls hw hP hD hS hl
    unfold wpX6_tryOne_215 at hw
    refine rp_M_X6_0_22 hC hK hP hD hS dX6_tryOne_215 (fun z1 H locs hz1 hP hD hS => ?_)
    have hw := hw z1 hz1
    refine lv_aload_n hx hb dX6_tryOne_218 rfl (lv_at hl 0 rfl) ?_
    refine lv_dup hx hb dX6_tryOne_219 rfl ?_
    refine rg_M_X6_0_23 hC hK hP dX6_tryOne_220 ?_
    refine lv_iconst (v := (1 : Int32)) hx hb dX6_tryOne_223 (by decide) ?_
    refine lv_iadd hx hb dX6_tryOne_224 ?_
    refine rp_M_X6_0_23 hC hK hP hD hS dX6_tryOne_225 (fun z2 H locs hz1 hP hD hS => ?_)
    have hw := hw z2 hz1
    refine lv_iconst (v := (1 : Int32)) hx hb dX6_tryOne_228 (by decide) ?_
    exact hret _ _ _ _ _ _ rfl hw hP hD hS dX6_tryOne_229
  have B168 : ∀ (x1 : Int32) (z0 : wSt) (H : Heap) (locs : List Loc) (ls : Array Slot), wpX6_tryOne_168  post x1 z0 → va_P G.1 vwCl (wsM G h z0) H → va_D A (wsM G h z0) → va_S A s.heap H locs → lv_has ls 4 [(0, .ref (h 0)), (1, .int x1)] → W p l e R s m args below meth c H locs 0 0 Q (F0 m 168 ls []) := by
    intro x1 z0 H locs ls hw hP hD hS hl
    unfold wpX6_tryOne_168 at hw
    refine lv_aload_n hx hb dX6_tryOne_168 rfl (lv_at hl 0 rfl) ?_
    refine lv_iload_n hx hb dX6_tryOne_169 rfl (lv_at hl 1 rfl) ?_
    refine rp_M_X6_0_24 hC hK hP hD hS dX6_tryOne_170 (fun z1 H locs hz1 hP hD hS => ?_)
    have hw := hw z1 hz1
    refine lv_aload_n hx hb dX6_tryOne_173 rfl (lv_at hl 0 rfl) ?_
    refine lv_aload_n hx hb dX6_tryOne_174 rfl (lv_at hl 0 rfl) ?_
    refine rg_M_X6_0_21 hC hK hP dX6_tryOne_175 ?_
    refine vp_callSi (xro (xr_S hC (cX6_wane_c hw) ⟨rfl, rfl⟩ bw_813 calX6_wane ⟨Nat.le_trans (Nat.le_of_ble_eq_true rfl) hF, Nat.le_trans (Nat.le_of_ble_eq_true rfl) hL⟩ (rest := [.ref (h 0)]) (xpS hK) rfl hl rfl (Nat.le_of_ble_eq_true rfl) dX6_tryOne_178 ⟨Nat.zero_le _, Nat.zero_le _⟩)) (fun r1 hw => ?_)
    refine rp_M_X6_0_21 hC hK hP hD hS dX6_tryOne_181 (fun z2 H locs hz1 hP hD hS => ?_)
    have hw := hw z2 hz1
    refine lv_aload_n hx hb dX6_tryOne_184 rfl (lv_at hl 0 rfl) ?_
    refine lv_aload_n hx hb dX6_tryOne_185 rfl (lv_at hl 0 rfl) ?_
    refine rg_M_X6_0_22 hC hK hP dX6_tryOne_186 ?_
    refine lv_aload_n hx hb dX6_tryOne_189 rfl (lv_at hl 0 rfl) ?_
    refine rg_M_X6_0_8 hC hK hP dX6_tryOne_190 ?_
    refine lv_iadd hx hb dX6_tryOne_193 ?_
    refine lv_sipush (v := (999 : Int32)) hx hb dX6_tryOne_194 (by decide) ?_
    refine lv_icmp_le (tgt := 206) hx hb dX6_tryOne_197 (by decide) (fun hc => ?_) (fun hc => ?_)
    · have hw := And.left hw hc
      refine lv_aload_n hx hb dX6_tryOne_206 rfl (lv_at hl 0 rfl) ?_
      refine rg_M_X6_0_22 hC hK hP dX6_tryOne_207 ?_
      refine lv_aload_n hx hb dX6_tryOne_210 rfl (lv_at hl 0 rfl) ?_
      refine rg_M_X6_0_8 hC hK hP dX6_tryOne_211 ?_
      refine lv_iadd hx hb dX6_tryOne_214 ?_
      exact B215 ((w_i z2 22) + (w_i z2 8)) z2 _ _ _ hw hP hD hS (lv_sub hl [0] rfl)
    · have hw := And.right hw hc
      refine lv_sipush (v := (999 : Int32)) hx hb dX6_tryOne_200 (by decide) ?_
      refine lv_goto (tgt := 215) hx hb dX6_tryOne_203 (by decide) ?_
      exact B215 (999 : Int32) z2 _ _ _ hw hP hD hS (lv_sub hl [0] rfl)
  have B101 : ∀ (x1 : Int32) (t0 : Int32) (z0 : wSt) (H : Heap) (locs : List Loc) (ls : Array Slot), wpX6_tryOne_101  post x1 t0 z0 → va_P G.1 vwCl (wsM G h z0) H → va_D A (wsM G h z0) → va_S A s.heap H locs → lv_has ls 4 [(0, .ref (h 0)), (1, .int x1)] → W p l e R s m args below meth c H locs 0 0 Q (F0 m 101 ls [.int t0, .ref (h 0)]) := by
    intro x1 t0 z0 H locs ls hw hP hD hS hl
    unfold wpX6_tryOne_101 at hw
    refine rp_M_X6_0_25 hC hK hP hD hS dX6_tryOne_101 (fun z1 H locs hz1 hP hD hS => ?_)
    have hw := hw z1 hz1
    refine lv_aload_n hx hb dX6_tryOne_104 rfl (lv_at hl 0 rfl) ?_
    refine lv_aload_n hx hb dX6_tryOne_105 rfl (lv_at hl 0 rfl) ?_
    refine rg_M_X6_0_0 hC hK hP dX6_tryOne_106 ?_
    refine lv_iload_n hx hb dX6_tryOne_109 rfl (lv_at hl 1 rfl) ?_
    refine rl_M_1 hC hK hP (And.left hw) dX6_tryOne_110 ?_
    have hw := And.right hw
    refine lv_aload_n hx hb dX6_tryOne_111 rfl (lv_at hl 0 rfl) ?_
    refine rg_M_X6_0_21 hC hK hP dX6_tryOne_112 ?_
    refine vp_callSi (xro (xr_S hC (cX6_isSweet_c hw) ⟨rfl, rfl⟩ bw_803 calX6_isSweet ⟨Nat.le_trans (Nat.le_of_ble_eq_true rfl) hF, Nat.le_trans (Nat.le_of_ble_eq_true rfl) hL⟩ (rest := [.ref (h 0)]) (xpS hK) rfl hl rfl (Nat.le_of_ble_eq_true rfl) dX6_tryOne_115 ⟨Nat.zero_le _, Nat.zero_le _⟩)) (fun r1 hw => ?_)
    refine rp_M_X6_0_26 (And.left hw) hC hK hP hD hS dX6_tryOne_118 (fun z2 H locs hz1 hP hD hS => ?_)
    have hw := And.right hw z2 hz1
    refine lv_aload_n hx hb dX6_tryOne_121 rfl (lv_at hl 0 rfl) ?_
    refine lv_dup hx hb dX6_tryOne_122 rfl ?_
    refine rg_M_X6_0_22 hC hK hP dX6_tryOne_123 ?_
    refine lv_aload_n hx hb dX6_tryOne_126 rfl (lv_at hl 0 rfl) ?_
    refine rg_M_X6_0_25 hC hK hP dX6_tryOne_127 ?_
    refine lv_isub hx hb dX6_tryOne_130 ?_
    refine rp_M_X6_0_22 hC hK hP hD hS dX6_tryOne_131 (fun z3 H locs hz1 hP hD hS => ?_)
    have hw := hw z3 hz1
    refine lv_aload_n hx hb dX6_tryOne_134 rfl (lv_at hl 0 rfl) ?_
    refine lv_aload_n hx hb dX6_tryOne_135 rfl (lv_at hl 0 rfl) ?_
    refine rg_M_X6_0_21 hC hK hP dX6_tryOne_136 ?_
    refine lv_aload_n hx hb dX6_tryOne_139 rfl (lv_at hl 0 rfl) ?_
    refine lv_iload_n hx hb dX6_tryOne_140 rfl (lv_at hl 1 rfl) ?_
    refine vp_callSi (xro (xr_V hC (cX6_feltBy_c (h := h) hw) ⟨rfl, rfl⟩ bw_806 calX6_feltBy ⟨Nat.le_trans (Nat.le_of_ble_eq_true rfl) hF, Nat.le_trans (Nat.le_of_ble_eq_true rfl) hL⟩ (rest := [.int (w_i z3 21), .ref (h 0)]) (xpR hK hP rfl rfl) rfl hl rfl (Nat.le_of_ble_eq_true rfl) dX6_tryOne_141 ⟨Nat.zero_le _, Nat.zero_le _⟩)) (fun r2 hw => ?_)
    refine lv_iadd hx hb dX6_tryOne_144 ?_
    refine vp_callSi (xro (xr_S hC (cX6_most9_c hw) ⟨rfl, rfl⟩ bw_810 calX6_most9 ⟨Nat.le_trans (Nat.le_of_ble_eq_true rfl) hF, Nat.le_trans (Nat.le_of_ble_eq_true rfl) hL⟩ (rest := [.ref (h 0)]) (xpS hK) rfl hl rfl (Nat.le_of_ble_eq_true rfl) dX6_tryOne_145 ⟨Nat.zero_le _, Nat.zero_le _⟩)) (fun r3 hw => ?_)
    refine rp_M_X6_0_21 hC hK hP hD hS dX6_tryOne_148 (fun z4 H locs hz1 hP hD hS => ?_)
    have hw := hw z4 hz1
    refine lv_aload_n hx hb dX6_tryOne_151 rfl (lv_at hl 0 rfl) ?_
    refine rg_M_X6_0_27 hC hK hP dX6_tryOne_152 ?_
    refine lv_iload_n hx hb dX6_tryOne_155 rfl (lv_at hl 1 rfl) ?_
    refine lv_aload_n hx hb dX6_tryOne_156 rfl (lv_at hl 0 rfl) ?_
    refine rg_M_X6_0_23 hC hK hP dX6_tryOne_157 ?_
    refine lv_aload_n hx hb dX6_tryOne_160 rfl (lv_at hl 0 rfl) ?_
    refine rg_M_X6_0_2 hC hK hP dX6_tryOne_161 ?_
    refine lv_iload_n hx hb dX6_tryOne_164 rfl (lv_at hl 1 rfl) ?_
    refine rl_M_3 hC hK hP (And.left hw) dX6_tryOne_165 ?_
    have hw := And.right hw
    refine lv_iadd hx hb dX6_tryOne_166 ?_
    refine rs_M_9 hC hK hP hD hS (And.left hw) dX6_tryOne_167 (fun z5 H locs hz1 hP hD hS => ?_)
    have hw := And.right hw z5 hz1
    exact B168 x1 z5 _ _ _ hw hP hD hS (lv_sub hl [0, 1] rfl)
  have B61 : ∀ (x1 : Int32) (t0 : Int32) (z0 : wSt) (H : Heap) (locs : List Loc) (ls : Array Slot), wpX6_tryOne_61  post x1 t0 z0 → va_P G.1 vwCl (wsM G h z0) H → va_D A (wsM G h z0) → va_S A s.heap H locs → lv_has ls 4 [(0, .ref (h 0)), (1, .int x1)] → W p l e R s m args below meth c H locs 0 0 Q (F0 m 61 ls [.int t0]) := by
    intro x1 t0 z0 H locs ls hw hP hD hS hl
    unfold wpX6_tryOne_61 at hw
    refine lv_istore_n (lv' := [(2, .int t0), (0, .ref (h 0)), (1, .int x1)]) hx hb dX6_tryOne_61 rfl hl (by decide) rfl (fun ls hl => ?_)
    refine lv_aload_n hx hb dX6_tryOne_62 rfl (lv_at hl 1 rfl) ?_
    refine rg_M_X6_0_0 hC hK hP dX6_tryOne_63 ?_
    refine lv_iload_n hx hb dX6_tryOne_66 rfl (lv_at hl 2 rfl) ?_
    refine rl_M_1 hC hK hP (And.left hw) dX6_tryOne_67 ?_
    have hw := And.right hw
    refine lv_aload_n hx hb dX6_tryOne_68 rfl (lv_at hl 1 rfl) ?_
    refine rg_M_X6_0_21 hC hK hP dX6_tryOne_69 ?_
    refine vp_callSi (xro (xr_S hC (cX6_pailsOf_c hw) ⟨rfl, rfl⟩ bw_800 calX6_pailsOf ⟨Nat.le_trans (Nat.le_of_ble_eq_true rfl) hF, Nat.le_trans (Nat.le_of_ble_eq_true rfl) hL⟩ (rest := []) (xpS hK) rfl hl rfl (Nat.le_of_ble_eq_true rfl) dX6_tryOne_72 ⟨Nat.zero_le _, Nat.zero_le _⟩)) (fun r1 hw => ?_)
    refine lv_istore_n (lv' := [(3, .int r1), (2, .int t0), (0, .ref (h 0)), (1, .int x1)]) hx hb dX6_tryOne_75 rfl hl (by decide) rfl (fun ls hl => ?_)
    refine lv_aload_n hx hb dX6_tryOne_76 rfl (lv_at hl 2 rfl) ?_
    refine lv_iload_n hx hb dX6_tryOne_77 rfl (lv_at hl 1 rfl) ?_
    refine lv_if_eq (tgt := 85) hx hb dX6_tryOne_78 (by decide) (fun hc => ?_) (fun hc => ?_)
    · have hw := And.left hw hc
      refine lv_iload_n hx hb dX6_tryOne_85 rfl (lv_at hl 0 rfl) ?_
      refine lv_aload_n hx hb dX6_tryOne_86 rfl (lv_at hl 2 rfl) ?_
      refine rg_M_X6_0_22 hC hK hP dX6_tryOne_87 ?_
      refine lv_icmp_ge (tgt := 97) hx hb dX6_tryOne_90 (by decide) (fun hc => ?_) (fun hc => ?_)
      · have hw := And.left hw hc
        refine lv_aload_n hx hb dX6_tryOne_97 rfl (lv_at hl 2 rfl) ?_
        refine rg_M_X6_0_22 hC hK hP dX6_tryOne_98 ?_
        exact B101 x1 (w_i z0 22) z0 _ _ _ hw hP hD hS (lv_sub hl [2, 3] rfl)
      · have hw := And.right hw hc
        refine lv_iload_n hx hb dX6_tryOne_93 rfl (lv_at hl 0 rfl) ?_
        refine lv_goto (tgt := 101) hx hb dX6_tryOne_94 (by decide) ?_
        exact B101 x1 r1 z0 _ _ _ hw hP hD hS (lv_sub hl [2, 3] rfl)
    · have hw := And.right hw hc
      refine lv_iconst (v := (0 : Int32)) hx hb dX6_tryOne_81 (by decide) ?_
      refine lv_goto (tgt := 101) hx hb dX6_tryOne_82 (by decide) ?_
      exact B101 x1 (0 : Int32) z0 _ _ _ hw hP hD hS (lv_sub hl [2, 3] rfl)
  have B60 : ∀ (x1 : Int32) (z0 : wSt) (H : Heap) (locs : List Loc) (ls : Array Slot), wpX6_tryOne_60  post x1 z0 → va_P G.1 vwCl (wsM G h z0) H → va_D A (wsM G h z0) → va_S A s.heap H locs → lv_has ls 4 [(0, .ref (h 0)), (1, .int x1)] → W p l e R s m args below meth c H locs 0 0 Q (F0 m 60 ls []) := by
    intro x1 z0 H locs ls hw hP hD hS hl
    unfold wpX6_tryOne_60 at hw
    refine lv_iconst (v := (0 : Int32)) hx hb dX6_tryOne_60 (by decide) ?_
    exact B61 x1 (0 : Int32) z0 _ _ _ hw hP hD hS (lv_sub hl [0, 1] rfl)
  unfold wpX6_tryOne at hw
  refine lv_aload_n hx hb dX6_tryOne_0 rfl (lv_at hl 0 rfl) ?_
  refine lv_iconst (v := (0 : Int32)) hx hb dX6_tryOne_1 (by decide) ?_
  refine rp_M_X6_0_25 hC hK hP hD hS dX6_tryOne_2 (fun z1 H locs hz1 hP hD hS => ?_)
  have hw := hw z1 hz1
  refine lv_aload_n hx hb dX6_tryOne_5 rfl (lv_at hl 0 rfl) ?_
  refine lv_iconst (v := (0 : Int32)) hx hb dX6_tryOne_6 (by decide) ?_
  refine rp_M_X6_0_26 (⟨rfl, rfl⟩) hC hK hP hD hS dX6_tryOne_7 (fun z2 H locs hz1 hP hD hS => ?_)
  have hw := hw z2 hz1
  refine lv_iload_n hx hb dX6_tryOne_10 rfl (lv_at hl 1 rfl) ?_
  refine lv_bipush (v := (9 : Int32)) hx hb dX6_tryOne_11 (by decide) ?_
  refine lv_icmp_eq (tgt := 168) hx hb dX6_tryOne_13 (by decide) (fun hc => ?_) (fun hc => ?_)
  · have hw := And.left hw hc
    exact B168 x1 z2 _ _ _ hw hP hD hS (lv_sub hl [0, 1] rfl)
  · have hw := And.right hw hc
    refine lv_aload_n hx hb dX6_tryOne_16 rfl (lv_at hl 0 rfl) ?_
    refine rg_M_X6_0_27 hC hK hP dX6_tryOne_17 ?_
    refine lv_iload_n hx hb dX6_tryOne_20 rfl (lv_at hl 1 rfl) ?_
    refine rl_M_9 hC hK hP (And.left hw) dX6_tryOne_21 ?_
    have hw := And.right hw
    refine lv_aload_n hx hb dX6_tryOne_22 rfl (lv_at hl 0 rfl) ?_
    refine rg_M_X6_0_23 hC hK hP dX6_tryOne_23 ?_
    refine lv_icmp_le (tgt := 31) hx hb dX6_tryOne_26 (by decide) (fun hc => ?_) (fun hc => ?_)
    · have hw := And.left hw hc
      refine lv_aload_n hx hb dX6_tryOne_31 rfl (lv_at hl 0 rfl) ?_
      refine rg_M_X6_0_24 hC hK hP dX6_tryOne_32 ?_
      refine lv_bipush (v := (9 : Int32)) hx hb dX6_tryOne_35 (by decide) ?_
      refine lv_icmp_eq (tgt := 60) hx hb dX6_tryOne_37 (by decide) (fun hc => ?_) (fun hc => ?_)
      · have hw := And.left hw hc
        exact B60 x1 z2 _ _ _ hw hP hD hS (lv_sub hl [0, 1] rfl)
      · have hw := And.right hw hc
        refine lv_aload_n hx hb dX6_tryOne_40 rfl (lv_at hl 0 rfl) ?_
        refine rg_M_X6_0_3 hC hK hP dX6_tryOne_41 ?_
        refine lv_iload_n hx hb dX6_tryOne_44 rfl (lv_at hl 1 rfl) ?_
        refine rl_M_4 hC hK hP (And.left hw) dX6_tryOne_45 ?_
        have hw := And.right hw
        refine lv_aload_n hx hb dX6_tryOne_46 rfl (lv_at hl 0 rfl) ?_
        refine rg_M_X6_0_24 hC hK hP dX6_tryOne_47 ?_
        refine vp_callSi (xro (xr_S hC (cX6_has_c hw) ⟨rfl, rfl⟩ bw_797 calX6_has ⟨Nat.le_trans (Nat.le_of_ble_eq_true rfl) hF, Nat.le_trans (Nat.le_of_ble_eq_true rfl) hL⟩ (rest := []) (xpS hK) rfl hl rfl (Nat.le_of_ble_eq_true rfl) dX6_tryOne_50 ⟨Nat.zero_le _, Nat.zero_le _⟩)) (fun r1 hw => ?_)
        refine lv_if_eq (tgt := 60) hx hb dX6_tryOne_53 (by decide) (fun hc => ?_) (fun hc => ?_)
        · have hw := And.left hw hc
          exact B60 x1 z2 _ _ _ hw hP hD hS (lv_sub hl [0, 1] rfl)
        · have hw := And.right hw hc
          refine lv_iconst (v := (1 : Int32)) hx hb dX6_tryOne_56 (by decide) ?_
          refine lv_goto (tgt := 61) hx hb dX6_tryOne_57 (by decide) ?_
          exact B61 x1 (1 : Int32) z2 _ _ _ hw hP hD hS (lv_sub hl [0, 1] rfl)
    · have hw := And.right hw hc
      refine lv_iconst (v := (0 : Int32)) hx hb dX6_tryOne_29 (by decide) ?_
      exact hret _ _ _ _ _ _ rfl hw hP hD hS dX6_tryOne_30
def wpX6_keep_82 (k82 : Int32 → (wSt) → Prop) (post : (wSt) → Prop) (x1 : Int32) (z0 : wSt) : Prop := (((6 : Int32) ≤ x1 → (post z0)) ∧ (¬ (6 : Int32) ≤ x1 → (vp_in x1 6 ∧ (vp_in x1 6 ∧ ∀ z1 : wSt, z1 = (w_sa z0 4 (upd (w_a z0 4) x1.toNatClampNeg ((w_a z0 27) x1.toNatClampNeg))) → (k82 (x1 + (1 : Int32)) z1)))))
def wpX6_keep_L82  (post : (wSt) → Prop) : Nat → Int32 → (wSt) → Prop
  | 0 => fun _ _ => False
  | n + 1 => fun x1 z0 => wpX6_keep_82  (wpX6_keep_L82  post n) post x1 z0
def wpX6_keep_76  (post : (wSt) → Prop) (t0 : Int32) (t1 : Int32) (z0 : wSt) : Prop := (∀ z1 : wSt, z1 = (w_si z0 10 (t1 + t0)) → (∃ n, wpX6_keep_L82  post n (0 : Int32) z1))
def wpX6_keep_52  (post : (wSt) → Prop) (t0 : Int32) (t1 : Int32) (z0 : wSt) : Prop := (∀ z1 : wSt, z1 = (w_si z0 9 (t1 + t0)) → (((w_i z1 26) = 0 → (wpX6_keep_76  post (w_i z1 25) (w_i z1 10) z1)) ∧ (¬ (w_i z1 26) = 0 → (wpX6_keep_76  post (0 : Int32) (w_i z1 10) z1))))
def wpX6_keep (z0 : wSt) (post : (wSt) → Prop) : Prop := (∀ z1 : wSt, z1 = (w_si z0 6 (w_i z0 21)) → (∀ z2 : wSt, z2 = (w_si z1 7 (w_i z1 22)) → (∀ z3 : wSt, z3 = (w_si z2 11 (w_i z2 23)) → (∀ z4 : wSt, z4 = (w_si z3 12 (w_i z3 24)) → (((w_i z4 26) = 0 → (wpX6_keep_52  post (0 : Int32) (w_i z4 9) z4)) ∧ (¬ (w_i z4 26) = 0 → (wpX6_keep_52  post (w_i z4 25) (w_i z4 9) z4)))))))
set_option maxHeartbeats 4000000 in
set_option maxRecDepth 100000 in
theorem cX6_keep_c {l : Launch} {G : wG} {h : Nat → Nat} {sz : Nat}  {post : (wSt) → Prop} {z0 : wSt}  (hw : wpX6_keep z0 post) : Met l yX6_keep (.code yX6_keep cX6_keep 2 none :: BIG) { frames := 0, cells := 0, slots := 0, locals := 0 } (xPw G [.ref (h 0)] (wsM G h z0) sz) (xQv G post (fun q => (wsM G h q)) (va_A (wsM G h z0) sz)) 0 0 (va_A (wsM G h z0) sz) := by
  refine xm_wv (by decide) (Nat.le_of_ble_eq_true rfl) (fun p e s m args below meth c A ls R Q hC hK hA hP hD hS hl hF hL hret => ?_)
  have hx := hC.1
  have hb := hC.2.1
  have hl : lv_has ls 2 [(0, .ref (h 0))] := hl
  have B82 : ∀ n : Nat, ∀ (x1 : Int32) (z0 : wSt) (H : Heap) (locs : List Loc) (ls : Array Slot), wpX6_keep_L82  post n x1 z0 → va_P G.1 vwCl (wsM G h z0) H → va_D A (wsM G h z0) → va_S A s.heap H locs → lv_has ls 2 [(0, .ref (h 0)), (1, .int x1)] → W p l e R s m args below meth c H locs 0 0 Q (F0 m 82 ls []) := by
    intro n
    induction n with
    | zero => intro x1 z0 H locs ls hw hP hD hS hl; exact False.elim hw
    | succ n I82 =>
      intro x1 z0 H locs ls hw hP hD hS hl
      have hw : wpX6_keep_82  (wpX6_keep_L82  post n) post x1 z0 := hw
      unfold wpX6_keep_82 at hw
      refine lv_iload_n hx hb dX6_keep_82 rfl (lv_at hl 1 rfl) ?_
      refine lv_bipush (v := (6 : Int32)) hx hb dX6_keep_83 (by decide) ?_
      refine lv_icmp_ge (tgt := 106) hx hb dX6_keep_85 (by decide) (fun hc => ?_) (fun hc => ?_)
      · have hw := And.left hw hc
        exact hret _ _ _ _ _ hw hP hD hS dX6_keep_106
      · have hw := And.right hw hc
        refine lv_aload_n hx hb dX6_keep_88 rfl (lv_at hl 0 rfl) ?_
        refine rg_M_X6_0_4 hC hK hP dX6_keep_89 ?_
        refine lv_iload_n hx hb dX6_keep_92 rfl (lv_at hl 1 rfl) ?_
        refine lv_aload_n hx hb dX6_keep_93 rfl (lv_at hl 0 rfl) ?_
        refine rg_M_X6_0_27 hC hK hP dX6_keep_94 ?_
        refine lv_iload_n hx hb dX6_keep_97 rfl (lv_at hl 1 rfl) ?_
        refine rl_M_9 hC hK hP (And.left hw) dX6_keep_98 ?_
        have hw := And.right hw
        refine rs_M_5 hC hK hP hD hS (And.left hw) dX6_keep_99 (fun z1 H locs hz1 hP hD hS => ?_)
        have hw := And.right hw z1 hz1
        refine lv_iinc (v := (x1 + (1 : Int32))) (lv' := [(1, .int (x1 + (1 : Int32))), (0, .ref (h 0))]) hx hb dX6_keep_100 hl (k := 1) rfl rfl (by decide) rfl (fun ls hl => ?_)
        refine lv_goto (tgt := 82) hx hb dX6_keep_103 (by decide) ?_
        exact I82 (x1 + (1 : Int32)) z1 _ _ _ hw hP hD hS (lv_sub hl [1, 0] rfl)
  have B76 : ∀ (t0 : Int32) (t1 : Int32) (z0 : wSt) (H : Heap) (locs : List Loc) (ls : Array Slot), wpX6_keep_76  post t0 t1 z0 → va_P G.1 vwCl (wsM G h z0) H → va_D A (wsM G h z0) → va_S A s.heap H locs → lv_has ls 2 [(0, .ref (h 0))] → W p l e R s m args below meth c H locs 0 0 Q (F0 m 76 ls [.int t0, .int t1, .ref (h 0)]) := by
    intro t0 t1 z0 H locs ls hw hP hD hS hl
    unfold wpX6_keep_76 at hw
    refine lv_iadd hx hb dX6_keep_76 ?_
    refine rp_M_X6_0_10 hC hK hP hD hS dX6_keep_77 (fun z1 H locs hz1 hP hD hS => ?_)
    have hw := hw z1 hz1
    refine lv_iconst (v := (0 : Int32)) hx hb dX6_keep_80 (by decide) ?_
    refine lv_istore_n (lv' := [(1, .int (0 : Int32)), (0, .ref (h 0))]) hx hb dX6_keep_81 rfl hl (by decide) rfl (fun ls hl => ?_)
    obtain ⟨n82, hw⟩ := hw
    exact B82 n82 (0 : Int32) z1 _ _ _ hw hP hD hS (lv_sub hl [1, 0] rfl)
  have B52 : ∀ (t0 : Int32) (t1 : Int32) (z0 : wSt) (H : Heap) (locs : List Loc) (ls : Array Slot), wpX6_keep_52  post t0 t1 z0 → va_P G.1 vwCl (wsM G h z0) H → va_D A (wsM G h z0) → va_S A s.heap H locs → lv_has ls 2 [(0, .ref (h 0))] → W p l e R s m args below meth c H locs 0 0 Q (F0 m 52 ls [.int t0, .int t1, .ref (h 0)]) := by
    intro t0 t1 z0 H locs ls hw hP hD hS hl
    unfold wpX6_keep_52 at hw
    refine lv_iadd hx hb dX6_keep_52 ?_
    refine rp_M_X6_0_9 hC hK hP hD hS dX6_keep_53 (fun z1 H locs hz1 hP hD hS => ?_)
    have hw := hw z1 hz1
    refine lv_aload_n hx hb dX6_keep_56 rfl (lv_at hl 0 rfl) ?_
    refine lv_dup hx hb dX6_keep_57 rfl ?_
    refine rg_M_X6_0_10 hC hK hP dX6_keep_58 ?_
    refine lv_aload_n hx hb dX6_keep_61 rfl (lv_at hl 0 rfl) ?_
    refine rg_M_X6_0_26 hC hK hP dX6_keep_62 ?_
    refine lv_if_eq (tgt := 72) hx hb dX6_keep_65 (by decide) (fun hc => ?_) (fun hc => ?_)
    · have hw := And.left hw hc
      refine lv_aload_n hx hb dX6_keep_72 rfl (lv_at hl 0 rfl) ?_
      refine rg_M_X6_0_25 hC hK hP dX6_keep_73 ?_
      exact B76 (w_i z1 25) (w_i z1 10) z1 _ _ _ hw hP hD hS (lv_sub hl [0] rfl)
    · have hw := And.right hw hc
      refine lv_iconst (v := (0 : Int32)) hx hb dX6_keep_68 (by decide) ?_
      refine lv_goto (tgt := 76) hx hb dX6_keep_69 (by decide) ?_
      exact B76 (0 : Int32) (w_i z1 10) z1 _ _ _ hw hP hD hS (lv_sub hl [0] rfl)
  unfold wpX6_keep at hw
  refine lv_aload_n hx hb dX6_keep_0 rfl (lv_at hl 0 rfl) ?_
  refine lv_aload_n hx hb dX6_keep_1 rfl (lv_at hl 0 rfl) ?_
  refine rg_M_X6_0_21 hC hK hP dX6_keep_2 ?_
  refine rp_M_X6_0_6 hC hK hP hD hS dX6_keep_5 (fun z1 H locs hz1 hP hD hS => ?_)
  have hw := hw z1 hz1
  refine lv_aload_n hx hb dX6_keep_8 rfl (lv_at hl 0 rfl) ?_
  refine lv_aload_n hx hb dX6_keep_9 rfl (lv_at hl 0 rfl) ?_
  refine rg_M_X6_0_22 hC hK hP dX6_keep_10 ?_
  refine rp_M_X6_0_7 hC hK hP hD hS dX6_keep_13 (fun z2 H locs hz1 hP hD hS => ?_)
  have hw := hw z2 hz1
  refine lv_aload_n hx hb dX6_keep_16 rfl (lv_at hl 0 rfl) ?_
  refine lv_aload_n hx hb dX6_keep_17 rfl (lv_at hl 0 rfl) ?_
  refine rg_M_X6_0_23 hC hK hP dX6_keep_18 ?_
  refine rp_M_X6_0_11 hC hK hP hD hS dX6_keep_21 (fun z3 H locs hz1 hP hD hS => ?_)
  have hw := hw z3 hz1
  refine lv_aload_n hx hb dX6_keep_24 rfl (lv_at hl 0 rfl) ?_
  refine lv_aload_n hx hb dX6_keep_25 rfl (lv_at hl 0 rfl) ?_
  refine rg_M_X6_0_24 hC hK hP dX6_keep_26 ?_
  refine rp_M_X6_0_12 hC hK hP hD hS dX6_keep_29 (fun z4 H locs hz1 hP hD hS => ?_)
  have hw := hw z4 hz1
  refine lv_aload_n hx hb dX6_keep_32 rfl (lv_at hl 0 rfl) ?_
  refine lv_dup hx hb dX6_keep_33 rfl ?_
  refine rg_M_X6_0_9 hC hK hP dX6_keep_34 ?_
  refine lv_aload_n hx hb dX6_keep_37 rfl (lv_at hl 0 rfl) ?_
  refine rg_M_X6_0_26 hC hK hP dX6_keep_38 ?_
  refine lv_if_eq (tgt := 51) hx hb dX6_keep_41 (by decide) (fun hc => ?_) (fun hc => ?_)
  · have hw := And.left hw hc
    refine lv_iconst (v := (0 : Int32)) hx hb dX6_keep_51 (by decide) ?_
    exact B52 (0 : Int32) (w_i z4 9) z4 _ _ _ hw hP hD hS (lv_sub hl [0] rfl)
  · have hw := And.right hw hc
    refine lv_aload_n hx hb dX6_keep_44 rfl (lv_at hl 0 rfl) ?_
    refine rg_M_X6_0_25 hC hK hP dX6_keep_45 ?_
    refine lv_goto (tgt := 52) hx hb dX6_keep_48 (by decide) ?_
    exact B52 (w_i z4 25) (w_i z4 9) z4 _ _ _ hw hP hD hS (lv_sub hl [0] rfl)
def wpX6_goOn (x1 : Int32) (z0 : wSt) (post : Int32 → (wSt) → Prop) : Prop := (wpX6_begin z0 (fun u => ∀ z1 : wSt, z1 = u → (wpX6_tryOne x1 z1 (fun r1 u => ∀ z2 : wSt, z2 = u → ((¬ r1 = 0 → (wpX6_keep z2 (fun u => ∀ z3 : wSt, z3 = u → (post (w_i z3 25) z3)))) ∧ (r1 = 0 → (post (-2 : Int32) z2)))))))
set_option maxHeartbeats 4000000 in
set_option maxRecDepth 100000 in
theorem cX6_goOn_c {l : Launch} {G : wG} {h : Nat → Nat} {sz : Nat} {x1 : Int32} {post : Int32 → (wSt) → Prop} {z0 : wSt}  (hw : wpX6_goOn x1 z0 post) : Met l yX6_goOn (.code yX6_goOn cX6_goOn 2 (some .int) :: BIG) { frames := 2, cells := 0, slots := 0, locals := 45 } (xPw G [.ref (h 0), .int x1] (wsM G h z0) sz) (xQi G post (fun q => (wsM G h q)) (va_A (wsM G h z0) sz)) 0 0 (va_A (wsM G h z0) sz) := by
  refine xm_wi (by decide) (Nat.le_of_ble_eq_true rfl) (fun p e s m args below meth c A ls R Q hC hK hA hP hD hS hl hF hL hret => ?_)
  have hx := hC.1
  have hb := hC.2.1
  have hl : lv_has ls 2 [(0, .ref (h 0)), (1, .int x1)] := hl
  unfold wpX6_goOn at hw
  refine lv_aload_n hx hb dX6_goOn_0 rfl (lv_at hl 0 rfl) ?_
  refine xc_wv (wsz := fun q => (wsM G h q)) (f := fun u => u) (xr_V hC (cX6_begin_c (h := h) hw) ⟨rfl, rfl⟩ bw_789 calX6_begin ⟨Nat.le_trans (Nat.le_of_ble_eq_true rfl) hF, Nat.le_trans (Nat.le_of_ble_eq_true rfl) hL⟩ (rest := []) (xpV hK (cut_all_M) hP hD rfl rfl) rfl hl rfl (Nat.le_of_ble_eq_true rfl) dX6_goOn_1 ⟨Nat.zero_le _, Nat.zero_le _⟩) (cut_all_M) hP hD hS hA (fun u z1 H locs hz1 hw hP hD hS => ?_)
  have hw := hw z1 hz1
  refine lv_aload_n hx hb dX6_goOn_4 rfl (lv_at hl 0 rfl) ?_
  refine lv_iload_n hx hb dX6_goOn_5 rfl (lv_at hl 1 rfl) ?_
  refine xc_wi (wsz := fun q => (wsM G h q)) (f := fun u => u) (xr_V hC (cX6_tryOne_c (h := h) hw) ⟨rfl, rfl⟩ bw_793 calX6_tryOne ⟨Nat.le_trans (Nat.le_of_ble_eq_true rfl) hF, Nat.le_trans (Nat.le_of_ble_eq_true rfl) hL⟩ (rest := []) (xpV hK (cut_all_M) hP hD rfl rfl) rfl hl rfl (Nat.le_of_ble_eq_true rfl) dX6_goOn_6 ⟨Nat.zero_le _, Nat.zero_le _⟩) (cut_all_M) hP hD hS hA (fun r1 u z2 H locs hz1 hw hP hD hS => ?_)
  have hw := hw z2 hz1
  refine lv_if_ne (tgt := 15) hx hb dX6_goOn_9 (by decide) (fun hc => ?_) (fun hc => ?_)
  · have hw := And.left hw hc
    refine lv_aload_n hx hb dX6_goOn_15 rfl (lv_at hl 0 rfl) ?_
    refine xc_wv (wsz := fun q => (wsM G h q)) (f := fun u => u) (xr_V hC (cX6_keep_c (h := h) hw) ⟨rfl, rfl⟩ bw_816 calX6_keep ⟨Nat.le_trans (Nat.le_of_ble_eq_true rfl) hF, Nat.le_trans (Nat.le_of_ble_eq_true rfl) hL⟩ (rest := []) (xpV hK (cut_all_M) hP hD rfl rfl) rfl hl rfl (Nat.le_of_ble_eq_true rfl) dX6_goOn_16 ⟨Nat.zero_le _, Nat.zero_le _⟩) (cut_all_M) hP hD hS hA (fun u z3 H locs hz1 hw hP hD hS => ?_)
    have hw := hw z3 hz1
    refine lv_aload_n hx hb dX6_goOn_19 rfl (lv_at hl 0 rfl) ?_
    refine rg_M_X6_0_25 hC hK hP dX6_goOn_20 ?_
    exact hret _ _ _ _ _ _ hw hP hD hS dX6_goOn_23
  · have hw := And.right hw hc
    refine lv_bipush (v := (-2 : Int32)) hx hb dX6_goOn_12 (by decide) ?_
    exact hret _ _ _ _ _ _ hw hP hD hS dX6_goOn_14
def wpX6_may_33 (k4 : Int32 → Int32 → Prop) (z0 : wSt) (post : Int32 → Prop) (x2 : Int32) (t0 : Int32) (t1 : Int32) : Prop := (k4 (t1 ||| t0) (x2 + (1 : Int32)))
def wpX6_may_4 (k4 : Int32 → Int32 → Prop) (z0 : wSt) (post : Int32 → Prop) (x1 : Int32) (x2 : Int32) : Prop := (((w_i z0 5) ≤ x2 → (post x1)) ∧ (¬ (w_i z0 5) ≤ x2 → (vp_in x2 6 ∧ (((w_i z0 11) < ((w_a z0 4) x2.toNatClampNeg) → (wpX6_may_33 k4 z0 post x2 (0 : Int32) x1)) ∧ (¬ (w_i z0 11) < ((w_a z0 4) x2.toNatClampNeg) → (wpX6_may_33 k4 z0 post x2 ((1 : Int32) <<< (x2 &&& 31)) x1))))))
def wpX6_may_L4  (z0 : wSt) (post : Int32 → Prop) : Nat → Int32 → Int32 → Prop
  | 0 => fun _ _ => False
  | n + 1 => fun x1 x2 => wpX6_may_4  (wpX6_may_L4  z0 post n) z0 post x1 x2
def wpX6_may (z0 : wSt) (post : Int32 → Prop) : Prop := (∃ n, wpX6_may_L4  z0 post n (0 : Int32) (0 : Int32))
set_option maxHeartbeats 4000000 in
set_option maxRecDepth 100000 in
theorem cX6_may_c {l : Launch} {G : wG} {h : Nat → Nat}  {post : Int32 → Prop} {z0 : wSt}  (hw : wpX6_may z0 post) : Met l yX6_may (.code yX6_may cX6_may 3 (some .int) :: BIG) { frames := 0, cells := 0, slots := 0, locals := 0 } (xPr G [.ref (h 0)] (wsM G h z0)) (vp_Si post) 0 0 (fun _ => False) := by
  refine xm_ri (by decide) (Nat.le_of_ble_eq_true rfl) (fun p e s m args below meth c ls R Q hC hK hP hl hF hL hret => ?_)
  have hx := hC.1
  have hb := hC.2.1
  have hl : lv_has ls 3 [(0, .ref (h 0))] := hl
  have B4 : ∀ n : Nat, ∀ (x1 : Int32) (x2 : Int32) (ls : Array Slot), wpX6_may_L4  z0 post n x1 x2 → lv_has ls 3 [(0, .ref (h 0)), (1, .int x1), (2, .int x2)] → W p l e R s m args below meth c s.heap [] 0 0 Q (F0 m 4 ls []) := by
    intro n
    induction n with
    | zero => intro x1 x2 ls hw hl; exact False.elim hw
    | succ n I4 =>
      have B33 : ∀ (x2 : Int32) (t0 : Int32) (t1 : Int32) (ls : Array Slot), wpX6_may_33 (wpX6_may_L4  z0 post n) z0 post x2 t0 t1 → lv_has ls 3 [(0, .ref (h 0)), (2, .int x2)] → W p l e R s m args below meth c s.heap [] 0 0 Q (F0 m 33 ls [.int t0, .int t1]) := by
        intro x2 t0 t1 ls hw hl
        unfold wpX6_may_33 at hw
        refine lv_ior hx hb dX6_may_33 ?_
        refine lv_istore_n (lv' := [(1, .int (t1 ||| t0)), (0, .ref (h 0)), (2, .int x2)]) hx hb dX6_may_34 rfl hl (by decide) rfl (fun ls hl => ?_)
        refine lv_iinc (v := (x2 + (1 : Int32))) (lv' := [(2, .int (x2 + (1 : Int32))), (1, .int (t1 ||| t0)), (0, .ref (h 0))]) hx hb dX6_may_35 hl (k := 2) rfl rfl (by decide) rfl (fun ls hl => ?_)
        refine lv_goto (tgt := 4) hx hb dX6_may_38 (by decide) ?_
        exact I4 (t1 ||| t0) (x2 + (1 : Int32)) _ hw (lv_sub hl [2, 1, 0] rfl)
      intro x1 x2 ls hw hl
      have hw : wpX6_may_4  (wpX6_may_L4  z0 post n) z0 post x1 x2 := hw
      unfold wpX6_may_4 at hw
      refine lv_iload_n hx hb dX6_may_4 rfl (lv_at hl 2 rfl) ?_
      refine lv_aload_n hx hb dX6_may_5 rfl (lv_at hl 0 rfl) ?_
      refine rg_M_X6_0_5 hC hK hP dX6_may_6 ?_
      refine lv_icmp_ge (tgt := 41) hx hb dX6_may_9 (by decide) (fun hc => ?_) (fun hc => ?_)
      · have hw := And.left hw hc
        refine lv_iload_n hx hb dX6_may_41 rfl (lv_at hl 1 rfl) ?_
        exact hret _ _ _ hw dX6_may_42
      · have hw := And.right hw hc
        refine lv_iload_n hx hb dX6_may_12 rfl (lv_at hl 1 rfl) ?_
        refine lv_aload_n hx hb dX6_may_13 rfl (lv_at hl 0 rfl) ?_
        refine rg_M_X6_0_4 hC hK hP dX6_may_14 ?_
        refine lv_iload_n hx hb dX6_may_17 rfl (lv_at hl 2 rfl) ?_
        refine rl_M_5 hC hK hP (And.left hw) dX6_may_18 ?_
        have hw := And.right hw
        refine lv_aload_n hx hb dX6_may_19 rfl (lv_at hl 0 rfl) ?_
        refine rg_M_X6_0_11 hC hK hP dX6_may_20 ?_
        refine lv_icmp_gt (tgt := 32) hx hb dX6_may_23 (by decide) (fun hc => ?_) (fun hc => ?_)
        · have hw := And.left hw hc
          refine lv_iconst (v := (0 : Int32)) hx hb dX6_may_32 (by decide) ?_
          exact B33 x2 (0 : Int32) x1 _ hw (lv_sub hl [0, 2] rfl)
        · have hw := And.right hw hc
          refine lv_iconst (v := (1 : Int32)) hx hb dX6_may_26 (by decide) ?_
          refine lv_iload_n hx hb dX6_may_27 rfl (lv_at hl 2 rfl) ?_
          refine lv_ishl hx hb dX6_may_28 ?_
          refine lv_goto (tgt := 33) hx hb dX6_may_29 (by decide) ?_
          exact B33 x2 ((1 : Int32) <<< (x2 &&& 31)) x1 _ hw (lv_sub hl [0, 2] rfl)
  unfold wpX6_may at hw
  refine lv_iconst (v := (0 : Int32)) hx hb dX6_may_0 (by decide) ?_
  refine lv_istore_n (lv' := [(1, .int (0 : Int32)), (0, .ref (h 0))]) hx hb dX6_may_1 rfl hl (by decide) rfl (fun ls hl => ?_)
  refine lv_iconst (v := (0 : Int32)) hx hb dX6_may_2 (by decide) ?_
  refine lv_istore_n (lv' := [(2, .int (0 : Int32)), (1, .int (0 : Int32)), (0, .ref (h 0))]) hx hb dX6_may_3 rfl hl (by decide) rfl (fun ls hl => ?_)
  obtain ⟨n4, hw⟩ := hw
  exact B4 n4 (0 : Int32) (0 : Int32) _ hw (lv_sub hl [2, 1, 0] rfl)
def wpX6_draw_38  (post : Int32 → (wSt) → Prop) (x1 : Int32) (z0 : wSt) : Prop := ((¬ (w_i z0 11) = (9999 : Int32) → (wpX6_goOn x1 z0 (fun r1 u => ∀ z1 : wSt, z1 = u → (post r1 z1)))) ∧ ((w_i z0 11) = (9999 : Int32) → (post (-3 : Int32) z0)))
def wpX6_draw_16  (post : Int32 → (wSt) → Prop) (x1 : Int32) (z0 : wSt) : Prop := ((x1 = (9 : Int32) → (wpX6_draw_38  post x1 z0)) ∧ (¬ x1 = (9 : Int32) → (vp_in x1 6 ∧ ((((w_a z0 4) x1.toNatClampNeg) ≤ (w_i z0 11) → (wpX6_draw_38  post x1 z0)) ∧ (¬ ((w_a z0 4) x1.toNatClampNeg) ≤ (w_i z0 11) → (post (-2 : Int32) z0))))))
def wpX6_draw (x1 : Int32) (z0 : wSt) (post : Int32 → (wSt) → Prop) : Prop := ((x1 = (9 : Int32) → (wpX6_draw_16  post x1 z0)) ∧ (¬ x1 = (9 : Int32) → (wpX6_isOne x1 z0 (fun r1 => ((¬ r1 = 0 → (wpX6_draw_16  post x1 z0)) ∧ (r1 = 0 → (post (-1 : Int32) z0)))))))
set_option maxHeartbeats 4000000 in
set_option maxRecDepth 100000 in
theorem cX6_draw_c {l : Launch} {G : wG} {h : Nat → Nat} {sz : Nat} {x1 : Int32} {post : Int32 → (wSt) → Prop} {z0 : wSt}  (hw : wpX6_draw x1 z0 post) : Met l yX6_draw (.code yX6_draw cX6_draw 2 (some .int) :: BIG) { frames := 3, cells := 0, slots := 0, locals := 66 } (xPw G [.ref (h 0), .int x1] (wsM G h z0) sz) (xQi G post (fun q => (wsM G h q)) (va_A (wsM G h z0) sz)) 0 0 (va_A (wsM G h z0) sz) := by
  refine xm_wi (by decide) (Nat.le_of_ble_eq_true rfl) (fun p e s m args below meth c A ls R Q hC hK hA hP hD hS hl hF hL hret => ?_)
  have hx := hC.1
  have hb := hC.2.1
  have hl : lv_has ls 2 [(0, .ref (h 0)), (1, .int x1)] := hl
  have B38 : ∀ (x1 : Int32) (z0 : wSt) (H : Heap) (locs : List Loc) (ls : Array Slot), wpX6_draw_38  post x1 z0 → va_P G.1 vwCl (wsM G h z0) H → va_D A (wsM G h z0) → va_S A s.heap H locs → lv_has ls 2 [(0, .ref (h 0)), (1, .int x1)] → W p l e R s m args below meth c H locs 0 0 Q (F0 m 38 ls []) := by
    intro x1 z0 H locs ls hw hP hD hS hl
    unfold wpX6_draw_38 at hw
    refine lv_aload_n hx hb dX6_draw_38 rfl (lv_at hl 0 rfl) ?_
    refine rg_M_X6_0_11 hC hK hP dX6_draw_39 ?_
    refine lv_sipush (v := (9999 : Int32)) hx hb dX6_draw_42 (by decide) ?_
    refine lv_icmp_ne (tgt := 53) hx hb dX6_draw_45 (by decide) (fun hc => ?_) (fun hc => ?_)
    · have hw := And.left hw hc
      refine lv_aload_n hx hb dX6_draw_53 rfl (lv_at hl 0 rfl) ?_
      refine lv_iload_n hx hb dX6_draw_54 rfl (lv_at hl 1 rfl) ?_
      refine xc_wi (wsz := fun q => (wsM G h q)) (f := fun u => u) (xr_V hC (cX6_goOn_c (h := h) hw) ⟨rfl, rfl⟩ bw_785 calX6_goOn ⟨Nat.le_trans (Nat.le_of_ble_eq_true rfl) hF, Nat.le_trans (Nat.le_of_ble_eq_true rfl) hL⟩ (rest := []) (xpV hK (cut_all_M) hP hD rfl rfl) rfl hl rfl (Nat.le_of_ble_eq_true rfl) dX6_draw_55 ⟨Nat.zero_le _, Nat.zero_le _⟩) (cut_all_M) hP hD hS hA (fun r1 u z1 H locs hz1 hw hP hD hS => ?_)
      have hw := hw z1 hz1
      exact hret _ _ _ _ _ _ hw hP hD hS dX6_draw_58
    · have hw := And.right hw hc
      refine lv_bipush (v := (-3 : Int32)) hx hb dX6_draw_48 (by decide) ?_
      refine lv_goto (tgt := 58) hx hb dX6_draw_50 (by decide) ?_
      exact hret _ _ _ _ _ _ hw hP hD hS dX6_draw_58
  have B16 : ∀ (x1 : Int32) (z0 : wSt) (H : Heap) (locs : List Loc) (ls : Array Slot), wpX6_draw_16  post x1 z0 → va_P G.1 vwCl (wsM G h z0) H → va_D A (wsM G h z0) → va_S A s.heap H locs → lv_has ls 2 [(0, .ref (h 0)), (1, .int x1)] → W p l e R s m args below meth c H locs 0 0 Q (F0 m 16 ls []) := by
    intro x1 z0 H locs ls hw hP hD hS hl
    unfold wpX6_draw_16 at hw
    refine lv_iload_n hx hb dX6_draw_16 rfl (lv_at hl 1 rfl) ?_
    refine lv_bipush (v := (9 : Int32)) hx hb dX6_draw_17 (by decide) ?_
    refine lv_icmp_eq (tgt := 38) hx hb dX6_draw_19 (by decide) (fun hc => ?_) (fun hc => ?_)
    · have hw := And.left hw hc
      exact B38 x1 z0 _ _ _ hw hP hD hS (lv_sub hl [0, 1] rfl)
    · have hw := And.right hw hc
      refine lv_aload_n hx hb dX6_draw_22 rfl (lv_at hl 0 rfl) ?_
      refine rg_M_X6_0_4 hC hK hP dX6_draw_23 ?_
      refine lv_iload_n hx hb dX6_draw_26 rfl (lv_at hl 1 rfl) ?_
      refine rl_M_5 hC hK hP (And.left hw) dX6_draw_27 ?_
      have hw := And.right hw
      refine lv_aload_n hx hb dX6_draw_28 rfl (lv_at hl 0 rfl) ?_
      refine rg_M_X6_0_11 hC hK hP dX6_draw_29 ?_
      refine lv_icmp_le (tgt := 38) hx hb dX6_draw_32 (by decide) (fun hc => ?_) (fun hc => ?_)
      · have hw := And.left hw hc
        exact B38 x1 z0 _ _ _ hw hP hD hS (lv_sub hl [0, 1] rfl)
      · have hw := And.right hw hc
        refine lv_bipush (v := (-2 : Int32)) hx hb dX6_draw_35 (by decide) ?_
        exact hret _ _ _ _ _ _ hw hP hD hS dX6_draw_37
  unfold wpX6_draw at hw
  refine lv_iload_n hx hb dX6_draw_0 rfl (lv_at hl 1 rfl) ?_
  refine lv_bipush (v := (9 : Int32)) hx hb dX6_draw_1 (by decide) ?_
  refine lv_icmp_eq (tgt := 16) hx hb dX6_draw_3 (by decide) (fun hc => ?_) (fun hc => ?_)
  · have hw := And.left hw hc
    exact B16 x1 z0 _ _ _ hw hP hD hS (lv_sub hl [0, 1] rfl)
  · have hw := And.right hw hc
    refine lv_aload_n hx hb dX6_draw_6 rfl (lv_at hl 0 rfl) ?_
    refine lv_iload_n hx hb dX6_draw_7 rfl (lv_at hl 1 rfl) ?_
    refine vp_callSi (xro (xr_V hC (cX6_isOne_c (h := h) hw) ⟨rfl, rfl⟩ bw_713 calX6_isOne ⟨Nat.le_trans (Nat.le_of_ble_eq_true rfl) hF, Nat.le_trans (Nat.le_of_ble_eq_true rfl) hL⟩ (rest := []) (xpR hK hP rfl rfl) rfl hl rfl (Nat.le_of_ble_eq_true rfl) dX6_draw_8 ⟨Nat.zero_le _, Nat.zero_le _⟩)) (fun r1 hw => ?_)
    refine lv_if_ne (tgt := 16) hx hb dX6_draw_11 (by decide) (fun hc => ?_) (fun hc => ?_)
    · have hw := And.left hw hc
      exact B16 x1 z0 _ _ _ hw hP hD hS (lv_sub hl [0, 1] rfl)
    · have hw := And.right hw hc
      refine lv_iconst (v := (-1 : Int32)) hx hb dX6_draw_14 (by decide) ?_
      exact hret _ _ _ _ _ _ hw hP hD hS dX6_draw_15
def wpX6_pass_31 (k31 : Int32 → Int32 → (wSt) → Prop) (post : Int32 → (wSt) → Prop) (x1 : Int32) (x2 : Int32) (z0 : wSt) : Prop := ((x1 ≤ x2 → (post (w_i z0 11) z0)) ∧ (¬ x1 ≤ x2 → (wpX6_goOn (9 : Int32) z0 (fun r1 u => ∀ z1 : wSt, z1 = u → (k31 x1 (x2 + (1 : Int32)) z1)))))
def wpX6_pass_L31  (post : Int32 → (wSt) → Prop) : Nat → Int32 → Int32 → (wSt) → Prop
  | 0 => fun _ _ _ => False
  | n + 1 => fun x1 x2 z0 => wpX6_pass_31  (wpX6_pass_L31  post n) post x1 x2 z0
def wpX6_pass (x1 : Int32) (z0 : wSt) (post : Int32 → (wSt) → Prop) : Prop := (wpX6_in (x1.toInt64) (1 : Int64) (60 : Int64) (fun r1 => ((¬ r1 = 0 → ((((w_i z0 11) + x1) ≤ (9999 : Int32) → (∃ n, wpX6_pass_L31  post n x1 (0 : Int32) z0)) ∧ (¬ ((w_i z0 11) + x1) ≤ (9999 : Int32) → (post (-3 : Int32) z0)))) ∧ (r1 = 0 → (post (-1 : Int32) z0)))))
set_option maxHeartbeats 4000000 in
set_option maxRecDepth 100000 in
theorem cX6_pass_c {l : Launch} {G : wG} {h : Nat → Nat} {sz : Nat} {x1 : Int32} {post : Int32 → (wSt) → Prop} {z0 : wSt}  (hw : wpX6_pass x1 z0 post) : Met l yX6_pass (.code yX6_pass cX6_pass 3 (some .int) :: BIG) { frames := 3, cells := 0, slots := 0, locals := 66 } (xPw G [.ref (h 0), .int x1] (wsM G h z0) sz) (xQi G post (fun q => (wsM G h q)) (va_A (wsM G h z0) sz)) 0 0 (va_A (wsM G h z0) sz) := by
  refine xm_wi (by decide) (Nat.le_of_ble_eq_true rfl) (fun p e s m args below meth c A ls R Q hC hK hA hP hD hS hl hF hL hret => ?_)
  have hx := hC.1
  have hb := hC.2.1
  have hl : lv_has ls 3 [(0, .ref (h 0)), (1, .int x1)] := hl
  have B31 : ∀ n : Nat, ∀ (x1 : Int32) (x2 : Int32) (z0 : wSt) (H : Heap) (locs : List Loc) (ls : Array Slot), wpX6_pass_L31  post n x1 x2 z0 → va_P G.1 vwCl (wsM G h z0) H → va_D A (wsM G h z0) → va_S A s.heap H locs → lv_has ls 3 [(0, .ref (h 0)), (1, .int x1), (2, .int x2)] → W p l e R s m args below meth c H locs 0 0 Q (F0 m 31 ls []) := by
    intro n
    induction n with
    | zero => intro x1 x2 z0 H locs ls hw hP hD hS hl; exact False.elim hw
    | succ n I31 =>
      intro x1 x2 z0 H locs ls hw hP hD hS hl
      have hw : wpX6_pass_31  (wpX6_pass_L31  post n) post x1 x2 z0 := hw
      unfold wpX6_pass_31 at hw
      refine lv_iload_n hx hb dX6_pass_31 rfl (lv_at hl 2 rfl) ?_
      refine lv_iload_n hx hb dX6_pass_32 rfl (lv_at hl 1 rfl) ?_
      refine lv_icmp_ge (tgt := 49) hx hb dX6_pass_33 (by decide) (fun hc => ?_) (fun hc => ?_)
      · have hw := And.left hw hc
        refine lv_aload_n hx hb dX6_pass_49 rfl (lv_at hl 0 rfl) ?_
        refine rg_M_X6_0_11 hC hK hP dX6_pass_50 ?_
        exact hret _ _ _ _ _ _ hw hP hD hS dX6_pass_53
      · have hw := And.right hw hc
        refine lv_aload_n hx hb dX6_pass_36 rfl (lv_at hl 0 rfl) ?_
        refine lv_bipush (v := (9 : Int32)) hx hb dX6_pass_37 (by decide) ?_
        refine xc_wi (wsz := fun q => (wsM G h q)) (f := fun u => u) (xr_V hC (cX6_goOn_c (h := h) hw) ⟨rfl, rfl⟩ bw_785 calX6_goOn ⟨Nat.le_trans (Nat.le_of_ble_eq_true rfl) hF, Nat.le_trans (Nat.le_of_ble_eq_true rfl) hL⟩ (rest := []) (xpV hK (cut_all_M) hP hD rfl rfl) rfl hl rfl (Nat.le_of_ble_eq_true rfl) dX6_pass_39 ⟨Nat.zero_le _, Nat.zero_le _⟩) (cut_all_M) hP hD hS hA (fun r1 u z1 H locs hz1 hw hP hD hS => ?_)
        have hw := hw z1 hz1
        refine lv_pop hx hb dX6_pass_42 rfl ?_
        refine lv_iinc (v := (x2 + (1 : Int32))) (lv' := [(2, .int (x2 + (1 : Int32))), (0, .ref (h 0)), (1, .int x1)]) hx hb dX6_pass_43 hl (k := 2) rfl rfl (by decide) rfl (fun ls hl => ?_)
        refine lv_goto (tgt := 31) hx hb dX6_pass_46 (by decide) ?_
        exact I31 x1 (x2 + (1 : Int32)) z1 _ _ _ hw hP hD hS (lv_sub hl [1, 2, 0] rfl)
  unfold wpX6_pass at hw
  refine lv_iload_n hx hb dX6_pass_0 rfl (lv_at hl 1 rfl) ?_
  refine lv_i2l (v := (x1.toInt64)) hx hb dX6_pass_1 rfl ?_
  refine lv_lconst (v := (1 : Int64)) hx hb dX6_pass_2 (by decide) ?_
  refine lv_ldc2 (v := (60 : Int64)) hx hb hC.2.2.2.1 (hC.2.2.2.2 _ bw_824) dX6_pass_3 ?_
  refine vp_callSi (xro (xr_S hC (cX6_in_c hw) ⟨rfl, rfl⟩ bw_700 calX6_in ⟨Nat.le_trans (Nat.le_of_ble_eq_true rfl) hF, Nat.le_trans (Nat.le_of_ble_eq_true rfl) hL⟩ (rest := []) (xpS hK) rfl hl rfl (Nat.le_of_ble_eq_true rfl) dX6_pass_6 ⟨Nat.zero_le _, Nat.zero_le _⟩)) (fun r1 hw => ?_)
  refine lv_if_ne (tgt := 14) hx hb dX6_pass_9 (by decide) (fun hc => ?_) (fun hc => ?_)
  · have hw := And.left hw hc
    refine lv_aload_n hx hb dX6_pass_14 rfl (lv_at hl 0 rfl) ?_
    refine rg_M_X6_0_11 hC hK hP dX6_pass_15 ?_
    refine lv_iload_n hx hb dX6_pass_18 rfl (lv_at hl 1 rfl) ?_
    refine lv_iadd hx hb dX6_pass_19 ?_
    refine lv_sipush (v := (9999 : Int32)) hx hb dX6_pass_20 (by decide) ?_
    refine lv_icmp_le (tgt := 29) hx hb dX6_pass_23 (by decide) (fun hc => ?_) (fun hc => ?_)
    · have hw := And.left hw hc
      refine lv_iconst (v := (0 : Int32)) hx hb dX6_pass_29 (by decide) ?_
      refine lv_istore_n (lv' := [(2, .int (0 : Int32)), (0, .ref (h 0)), (1, .int x1)]) hx hb dX6_pass_30 rfl hl (by decide) rfl (fun ls hl => ?_)
      obtain ⟨n31, hw⟩ := hw
      exact B31 n31 x1 (0 : Int32) z0 _ _ _ hw hP hD hS (lv_sub hl [1, 2, 0] rfl)
    · have hw := And.right hw hc
      refine lv_bipush (v := (-3 : Int32)) hx hb dX6_pass_26 (by decide) ?_
      exact hret _ _ _ _ _ _ hw hP hD hS dX6_pass_28
  · have hw := And.right hw hc
    refine lv_iconst (v := (-1 : Int32)) hx hb dX6_pass_12 (by decide) ?_
    exact hret _ _ _ _ _ _ hw hP hD hS dX6_pass_13
def wpX6_run_20 (k20 : Int32 → (wSt) → Prop) (post : Int32 → (wSt) → Prop) (x1 : Int32) (z0 : wSt) : Prop := (((w_i z0 14) ≤ x1 → (post x1 z0)) ∧ (¬ (w_i z0 14) ≤ x1 → (vp_in x1 24 ∧ (wpX6_goOn ((w_a z0 13) x1.toNatClampNeg) z0 (fun r1 u => ∀ z1 : wSt, z1 = u → ((r1 < 0 → (post x1 z1)) ∧ (¬ r1 < 0 → (k20 (x1 + (1 : Int32)) z1))))))))
def wpX6_run_L20  (post : Int32 → (wSt) → Prop) : Nat → Int32 → (wSt) → Prop
  | 0 => fun _ _ => False
  | n + 1 => fun x1 z0 => wpX6_run_20  (wpX6_run_L20  post n) post x1 z0
def wpX6_run (z0 : wSt) (post : Int32 → (wSt) → Prop) : Prop := ((((w_i z0 11) + (w_i z0 14)) ≤ (9999 : Int32) → (∃ n, wpX6_run_L20  post n (0 : Int32) z0)) ∧ (¬ ((w_i z0 11) + (w_i z0 14)) ≤ (9999 : Int32) → (post (-3 : Int32) z0)))
set_option maxHeartbeats 4000000 in
set_option maxRecDepth 100000 in
theorem cX6_run_c {l : Launch} {G : wG} {h : Nat → Nat} {sz : Nat}  {post : Int32 → (wSt) → Prop} {z0 : wSt}  (hw : wpX6_run z0 post) : Met l yX6_run (.code yX6_run cX6_run 2 (some .int) :: BIG) { frames := 3, cells := 0, slots := 0, locals := 66 } (xPw G [.ref (h 0)] (wsM G h z0) sz) (xQi G post (fun q => (wsM G h q)) (va_A (wsM G h z0) sz)) 0 0 (va_A (wsM G h z0) sz) := by
  refine xm_wi (by decide) (Nat.le_of_ble_eq_true rfl) (fun p e s m args below meth c A ls R Q hC hK hA hP hD hS hl hF hL hret => ?_)
  have hx := hC.1
  have hb := hC.2.1
  have hl : lv_has ls 2 [(0, .ref (h 0))] := hl
  have B20 : ∀ n : Nat, ∀ (x1 : Int32) (z0 : wSt) (H : Heap) (locs : List Loc) (ls : Array Slot), wpX6_run_L20  post n x1 z0 → va_P G.1 vwCl (wsM G h z0) H → va_D A (wsM G h z0) → va_S A s.heap H locs → lv_has ls 2 [(0, .ref (h 0)), (1, .int x1)] → W p l e R s m args below meth c H locs 0 0 Q (F0 m 20 ls []) := by
    intro n
    induction n with
    | zero => intro x1 z0 H locs ls hw hP hD hS hl; exact False.elim hw
    | succ n I20 =>
      intro x1 z0 H locs ls hw hP hD hS hl
      have hw : wpX6_run_20  (wpX6_run_L20  post n) post x1 z0 := hw
      unfold wpX6_run_20 at hw
      refine lv_iload_n hx hb dX6_run_20 rfl (lv_at hl 1 rfl) ?_
      refine lv_aload_n hx hb dX6_run_21 rfl (lv_at hl 0 rfl) ?_
      refine rg_M_X6_0_14 hC hK hP dX6_run_22 ?_
      refine lv_icmp_ge (tgt := 47) hx hb dX6_run_25 (by decide) (fun hc => ?_) (fun hc => ?_)
      · have hw := And.left hw hc
        refine lv_iload_n hx hb dX6_run_47 rfl (lv_at hl 1 rfl) ?_
        exact hret _ _ _ _ _ _ hw hP hD hS dX6_run_48
      · have hw := And.right hw hc
        refine lv_aload_n hx hb dX6_run_28 rfl (lv_at hl 0 rfl) ?_
        refine lv_aload_n hx hb dX6_run_29 rfl (lv_at hl 0 rfl) ?_
        refine rg_M_X6_0_13 hC hK hP dX6_run_30 ?_
        refine lv_iload_n hx hb dX6_run_33 rfl (lv_at hl 1 rfl) ?_
        refine rl_M_6 hC hK hP (And.left hw) dX6_run_34 ?_
        have hw := And.right hw
        refine xc_wi (wsz := fun q => (wsM G h q)) (f := fun u => u) (xr_V hC (cX6_goOn_c (h := h) hw) ⟨rfl, rfl⟩ bw_785 calX6_goOn ⟨Nat.le_trans (Nat.le_of_ble_eq_true rfl) hF, Nat.le_trans (Nat.le_of_ble_eq_true rfl) hL⟩ (rest := []) (xpV hK (cut_all_M) hP hD rfl rfl) rfl hl rfl (Nat.le_of_ble_eq_true rfl) dX6_run_35 ⟨Nat.zero_le _, Nat.zero_le _⟩) (cut_all_M) hP hD hS hA (fun r1 u z1 H locs hz1 hw hP hD hS => ?_)
        have hw := hw z1 hz1
        refine lv_if_lt (tgt := 47) hx hb dX6_run_38 (by decide) (fun hc => ?_) (fun hc => ?_)
        · have hw := And.left hw hc
          refine lv_iload_n hx hb dX6_run_47 rfl (lv_at hl 1 rfl) ?_
          exact hret _ _ _ _ _ _ hw hP hD hS dX6_run_48
        · have hw := And.right hw hc
          refine lv_iinc (v := (x1 + (1 : Int32))) (lv' := [(1, .int (x1 + (1 : Int32))), (0, .ref (h 0))]) hx hb dX6_run_41 hl (k := 1) rfl rfl (by decide) rfl (fun ls hl => ?_)
          refine lv_goto (tgt := 20) hx hb dX6_run_44 (by decide) ?_
          exact I20 (x1 + (1 : Int32)) z1 _ _ _ hw hP hD hS (lv_sub hl [1, 0] rfl)
  unfold wpX6_run at hw
  refine lv_aload_n hx hb dX6_run_0 rfl (lv_at hl 0 rfl) ?_
  refine rg_M_X6_0_11 hC hK hP dX6_run_1 ?_
  refine lv_aload_n hx hb dX6_run_4 rfl (lv_at hl 0 rfl) ?_
  refine rg_M_X6_0_14 hC hK hP dX6_run_5 ?_
  refine lv_iadd hx hb dX6_run_8 ?_
  refine lv_sipush (v := (9999 : Int32)) hx hb dX6_run_9 (by decide) ?_
  refine lv_icmp_le (tgt := 18) hx hb dX6_run_12 (by decide) (fun hc => ?_) (fun hc => ?_)
  · have hw := And.left hw hc
    refine lv_iconst (v := (0 : Int32)) hx hb dX6_run_18 (by decide) ?_
    refine lv_istore_n (lv' := [(1, .int (0 : Int32)), (0, .ref (h 0))]) hx hb dX6_run_19 rfl hl (by decide) rfl (fun ls hl => ?_)
    obtain ⟨n20, hw⟩ := hw
    exact B20 n20 (0 : Int32) z0 _ _ _ hw hP hD hS (lv_sub hl [1, 0] rfl)
  · have hw := And.right hw hc
    refine lv_bipush (v := (-3 : Int32)) hx hb dX6_run_15 (by decide) ?_
    exact hret _ _ _ _ _ _ hw hP hD hS dX6_run_17
def wpX6_nextRow_4 (k4 : Int32 → (wSt) → Prop) (post : Int32 → (wSt) → Prop) (x2 : Int32) (z0 : wSt) : Prop := ((x2 < 0 → (post (0 : Int32) z0)) ∧ (¬ x2 < 0 → (vp_in x2 5 ∧ (vp_in x2 5 ∧ ∀ z1 : wSt, z1 = (w_sa z0 28 (upd (w_a z0 28) x2.toNatClampNeg (((w_a z0 28) x2.toNatClampNeg) + (1 : Int32)))) → (vp_in x2 5 ∧ (((w_i z1 5) < ((w_a z1 28) x2.toNatClampNeg) → (vp_in x2 5 ∧ ∀ z2 : wSt, z2 = (w_sa z1 28 (upd (w_a z1 28) x2.toNatClampNeg (0 : Int32))) → (k4 (x2 + (-1 : Int32)) z2))) ∧ (¬ (w_i z1 5) < ((w_a z1 28) x2.toNatClampNeg) → (post (1 : Int32) z1))))))))
def wpX6_nextRow_L4  (post : Int32 → (wSt) → Prop) : Nat → Int32 → (wSt) → Prop
  | 0 => fun _ _ => False
  | n + 1 => fun x2 z0 => wpX6_nextRow_4  (wpX6_nextRow_L4  post n) post x2 z0
def wpX6_nextRow (x1 : Int32) (z0 : wSt) (post : Int32 → (wSt) → Prop) : Prop := (∃ n, wpX6_nextRow_L4  post n (x1 - (1 : Int32)) z0)
set_option maxHeartbeats 4000000 in
set_option maxRecDepth 100000 in
theorem cX6_nextRow_c {l : Launch} {G : wG} {h : Nat → Nat} {sz : Nat} {x1 : Int32} {post : Int32 → (wSt) → Prop} {z0 : wSt}  (hw : wpX6_nextRow x1 z0 post) : Met l yX6_nextRow (.code yX6_nextRow cX6_nextRow 3 (some .boolean) :: BIG) { frames := 0, cells := 0, slots := 0, locals := 0 } (xPw G [.ref (h 0), .int x1] (wsM G h z0) sz) (xQi G post (fun q => (wsM G h q)) (va_A (wsM G h z0) sz)) 0 0 (va_A (wsM G h z0) sz) := by
  refine xm_wz (by decide) (Nat.le_of_ble_eq_true rfl) (fun p e s m args below meth c A ls R Q hC hK hA hP hD hS hl hF hL hret => ?_)
  have hx := hC.1
  have hb := hC.2.1
  have hl : lv_has ls 3 [(0, .ref (h 0)), (1, .int x1)] := hl
  have B4 : ∀ n : Nat, ∀ (x2 : Int32) (z0 : wSt) (H : Heap) (locs : List Loc) (ls : Array Slot), wpX6_nextRow_L4  post n x2 z0 → va_P G.1 vwCl (wsM G h z0) H → va_D A (wsM G h z0) → va_S A s.heap H locs → lv_has ls 3 [(0, .ref (h 0)), (2, .int x2)] → W p l e R s m args below meth c H locs 0 0 Q (F0 m 4 ls []) := by
    intro n
    induction n with
    | zero => intro x2 z0 H locs ls hw hP hD hS hl; exact False.elim hw
    | succ n I4 =>
      intro x2 z0 H locs ls hw hP hD hS hl
      have hw : wpX6_nextRow_4  (wpX6_nextRow_L4  post n) post x2 z0 := hw
      unfold wpX6_nextRow_4 at hw
      refine lv_iload_n hx hb dX6_nextRow_4 rfl (lv_at hl 1 rfl) ?_
      refine lv_if_lt (tgt := 46) hx hb dX6_nextRow_5 (by decide) (fun hc => ?_) (fun hc => ?_)
      · have hw := And.left hw hc
        refine lv_iconst (v := (0 : Int32)) hx hb dX6_nextRow_46 (by decide) ?_
        exact hret _ _ _ _ _ _ rfl hw hP hD hS dX6_nextRow_47
      · have hw := And.right hw hc
        refine lv_aload_n hx hb dX6_nextRow_8 rfl (lv_at hl 0 rfl) ?_
        refine rg_M_X6_0_28 hC hK hP dX6_nextRow_9 ?_
        refine lv_iload_n hx hb dX6_nextRow_12 rfl (lv_at hl 1 rfl) ?_
        refine lv_dup2_11 hx hb dX6_nextRow_13 rfl rfl ?_
        refine rl_M_10 hC hK hP (And.left hw) dX6_nextRow_14 ?_
        have hw := And.right hw
        refine lv_iconst (v := (1 : Int32)) hx hb dX6_nextRow_15 (by decide) ?_
        refine lv_iadd hx hb dX6_nextRow_16 ?_
        refine rs_M_10 hC hK hP hD hS (And.left hw) dX6_nextRow_17 (fun z1 H locs hz1 hP hD hS => ?_)
        have hw := And.right hw z1 hz1
        refine lv_aload_n hx hb dX6_nextRow_18 rfl (lv_at hl 0 rfl) ?_
        refine rg_M_X6_0_28 hC hK hP dX6_nextRow_19 ?_
        refine lv_iload_n hx hb dX6_nextRow_22 rfl (lv_at hl 1 rfl) ?_
        refine rl_M_10 hC hK hP (And.left hw) dX6_nextRow_23 ?_
        have hw := And.right hw
        refine lv_aload_n hx hb dX6_nextRow_24 rfl (lv_at hl 0 rfl) ?_
        refine rg_M_X6_0_5 hC hK hP dX6_nextRow_25 ?_
        refine lv_icmp_gt (tgt := 33) hx hb dX6_nextRow_28 (by decide) (fun hc => ?_) (fun hc => ?_)
        · have hw := And.left hw hc
          refine lv_aload_n hx hb dX6_nextRow_33 rfl (lv_at hl 0 rfl) ?_
          refine rg_M_X6_0_28 hC hK hP dX6_nextRow_34 ?_
          refine lv_iload_n hx hb dX6_nextRow_37 rfl (lv_at hl 1 rfl) ?_
          refine lv_iconst (v := (0 : Int32)) hx hb dX6_nextRow_38 (by decide) ?_
          refine rs_M_10 hC hK hP hD hS (And.left hw) dX6_nextRow_39 (fun z2 H locs hz1 hP hD hS => ?_)
          have hw := And.right hw z2 hz1
          refine lv_iinc (v := (x2 + (-1 : Int32))) (lv' := [(2, .int (x2 + (-1 : Int32))), (0, .ref (h 0))]) hx hb dX6_nextRow_40 hl (k := 1) rfl rfl (by decide) rfl (fun ls hl => ?_)
          refine lv_goto (tgt := 4) hx hb dX6_nextRow_43 (by decide) ?_
          exact I4 (x2 + (-1 : Int32)) z2 _ _ _ hw hP hD hS (lv_sub hl [1, 0] rfl)
        · have hw := And.right hw hc
          refine lv_iconst (v := (1 : Int32)) hx hb dX6_nextRow_31 (by decide) ?_
          exact hret _ _ _ _ _ _ rfl hw hP hD hS dX6_nextRow_32
  unfold wpX6_nextRow at hw
  refine lv_iload_n hx hb dX6_nextRow_0 rfl (lv_at hl 1 rfl) ?_
  refine lv_iconst (v := (1 : Int32)) hx hb dX6_nextRow_1 (by decide) ?_
  refine lv_isub hx hb dX6_nextRow_2 ?_
  refine lv_istore_n (lv' := [(2, .int (x1 - (1 : Int32))), (0, .ref (h 0)), (1, .int x1)]) hx hb dX6_nextRow_3 rfl hl (by decide) rfl (fun ls hl => ?_)
  obtain ⟨n4, hw⟩ := hw
  exact B4 n4 (x1 - (1 : Int32)) z0 _ _ _ hw hP hD hS (lv_sub hl [1, 0] rfl)
def wpX6_findMost_184 (k25 : Int32 → Int32 → Int32 → Int32 → (wSt) → Prop) (post : Int32 → (wSt) → Prop) (x1 : Int32) (x2 : Int32) (x3 : Int32) (z0 : wSt) : Prop := (wpX6_nextRow x1 z0 (fun r1 u => ∀ z1 : wSt, z1 = u → (k25 x1 x2 x3 r1 z1)))
def wpX6_findMost_177 (k25 : Int32 → Int32 → Int32 → Int32 → (wSt) → Prop) (k139 : Int32 → Int32 → Int32 → Int32 → (wSt) → Prop) (post : Int32 → (wSt) → Prop) (x1 : Int32) (x2 : Int32) (x3 : Int32) (x7 : Int32) (t0 : Int32) (t1 : Int32) (z0 : wSt) : Prop := (vp_in t1 5 ∧ ∀ z1 : wSt, z1 = (w_sa z0 29 (upd (w_a z0 29) t1.toNatClampNeg t0)) → (k139 x1 x2 x3 (x7 + (1 : Int32)) z1))
def wpX6_findMost_139 (k25 : Int32 → Int32 → Int32 → Int32 → (wSt) → Prop) (k139 : Int32 → Int32 → Int32 → Int32 → (wSt) → Prop) (post : Int32 → (wSt) → Prop) (x1 : Int32) (x2 : Int32) (x3 : Int32) (x7 : Int32) (z0 : wSt) : Prop := ((x1 ≤ x7 → (wpX6_findMost_184 k25 post x1 x2 x3 z0)) ∧ (¬ x1 ≤ x7 → (vp_in x7 5 ∧ ((¬ ((w_a z0 28) x7.toNatClampNeg) = (w_i z0 5) → (vp_in x7 5 ∧ (wpX6_findMost_177 k25 k139 post x1 x2 x3 x7 ((w_a z0 28) x7.toNatClampNeg) x7 z0))) ∧ (((w_a z0 28) x7.toNatClampNeg) = (w_i z0 5) → (wpX6_findMost_177 k25 k139 post x1 x2 x3 x7 (9 : Int32) x7 z0))))))
def wpX6_findMost_L139 (k25 : Int32 → Int32 → Int32 → Int32 → (wSt) → Prop) (post : Int32 → (wSt) → Prop) : Nat → Int32 → Int32 → Int32 → Int32 → (wSt) → Prop
  | 0 => fun _ _ _ _ _ => False
  | n + 1 => fun x1 x2 x3 x7 z0 => wpX6_findMost_139 k25 (wpX6_findMost_L139 k25 post n) post x1 x2 x3 x7 z0
def wpX6_findMost_122 (k25 : Int32 → Int32 → Int32 → Int32 → (wSt) → Prop) (post : Int32 → (wSt) → Prop) (x1 : Int32) (x2 : Int32) (x3 : Int32) (x5 : Int32) (x6 : Int32) (z0 : wSt) : Prop := ((x6 = 0 → (wpX6_findMost_184 k25 post x1 x2 x3 z0)) ∧ (¬ x6 = 0 → ((x5 ≤ x3 → (wpX6_findMost_184 k25 post x1 x2 x3 z0)) ∧ (¬ x5 ≤ x3 → (∃ n, wpX6_findMost_L139 k25 post n x1 x2 x5 (0 : Int32) z0)))))
def wpX6_findMost_113 (k25 : Int32 → Int32 → Int32 → Int32 → (wSt) → Prop) (k48 : Int32 → Int32 → Int32 → Int32 → Int32 → Int32 → (wSt) → Prop) (post : Int32 → (wSt) → Prop) (x1 : Int32) (x2 : Int32) (x3 : Int32) (x6 : Int32) (x7 : Int32) (t0 : Int32) (t1 : Int32) (z0 : wSt) : Prop := (k48 x1 x2 x3 (t1 + t0) x6 (x7 + (1 : Int32)) z0)
def wpX6_findMost_112 (k25 : Int32 → Int32 → Int32 → Int32 → (wSt) → Prop) (k48 : Int32 → Int32 → Int32 → Int32 → Int32 → Int32 → (wSt) → Prop) (post : Int32 → (wSt) → Prop) (x1 : Int32) (x2 : Int32) (x3 : Int32) (x6 : Int32) (x7 : Int32) (t0 : Int32) (z0 : wSt) : Prop := (wpX6_findMost_113 k25 k48 post x1 x2 x3 x6 x7 (0 : Int32) t0 z0)
def wpX6_findMost_86 (k25 : Int32 → Int32 → Int32 → Int32 → (wSt) → Prop) (k48 : Int32 → Int32 → Int32 → Int32 → Int32 → Int32 → (wSt) → Prop) (post : Int32 → (wSt) → Prop) (x1 : Int32) (x2 : Int32) (x3 : Int32) (x5 : Int32) (x7 : Int32) (t0 : Int32) (z0 : wSt) : Prop := (wpX6_tryOne t0 z0 (fun r1 u => ∀ z1 : wSt, z1 = u → ((r1 = 0 → (wpX6_findMost_112 k25 k48 post x1 x2 x3 r1 x7 x5 z1)) ∧ (¬ r1 = 0 → (((w_i z1 26) = 0 → (wpX6_findMost_112 k25 k48 post x1 x2 x3 r1 x7 x5 z1)) ∧ (¬ (w_i z1 26) = 0 → (wpX6_findMost_113 k25 k48 post x1 x2 x3 r1 x7 (w_i z1 25) x5 z1)))))))
def wpX6_findMost_48 (k25 : Int32 → Int32 → Int32 → Int32 → (wSt) → Prop) (k48 : Int32 → Int32 → Int32 → Int32 → Int32 → Int32 → (wSt) → Prop) (post : Int32 → (wSt) → Prop) (x1 : Int32) (x2 : Int32) (x3 : Int32) (x5 : Int32) (x6 : Int32) (x7 : Int32) (z0 : wSt) : Prop := ((x1 ≤ x7 → (wpX6_findMost_122 k25 post x1 x2 x3 x5 x6 z0)) ∧ (¬ x1 ≤ x7 → ((x6 = 0 → (wpX6_findMost_122 k25 post x1 x2 x3 x5 x6 z0)) ∧ (¬ x6 = 0 → (vp_in x7 5 ∧ ((¬ ((w_a z0 28) x7.toNatClampNeg) = (w_i z0 5) → (vp_in x7 5 ∧ (wpX6_findMost_86 k25 k48 post x1 x2 x3 x5 x7 ((w_a z0 28) x7.toNatClampNeg) z0))) ∧ (((w_a z0 28) x7.toNatClampNeg) = (w_i z0 5) → (wpX6_findMost_86 k25 k48 post x1 x2 x3 x5 x7 (9 : Int32) z0))))))))
def wpX6_findMost_L48 (k25 : Int32 → Int32 → Int32 → Int32 → (wSt) → Prop) (post : Int32 → (wSt) → Prop) : Nat → Int32 → Int32 → Int32 → Int32 → Int32 → Int32 → (wSt) → Prop
  | 0 => fun _ _ _ _ _ _ _ => False
  | n + 1 => fun x1 x2 x3 x5 x6 x7 z0 => wpX6_findMost_48 k25 (wpX6_findMost_L48 k25 post n) post x1 x2 x3 x5 x6 x7 z0
def wpX6_findMost_25 (k25 : Int32 → Int32 → Int32 → Int32 → (wSt) → Prop) (post : Int32 → (wSt) → Prop) (x1 : Int32) (x2 : Int32) (x3 : Int32) (x4 : Int32) (z0 : wSt) : Prop := ((x4 = 0 → (post x3 z0)) ∧ (¬ x4 = 0 → (wpX6_begin z0 (fun u => ∀ z1 : wSt, z1 = u → (∀ z2 : wSt, z2 = (w_si z1 21 x2) → (∃ n, wpX6_findMost_L48 k25 post n x1 x2 x3 (0 : Int32) (1 : Int32) (0 : Int32) z2))))))
def wpX6_findMost_L25  (post : Int32 → (wSt) → Prop) : Nat → Int32 → Int32 → Int32 → Int32 → (wSt) → Prop
  | 0 => fun _ _ _ _ _ => False
  | n + 1 => fun x1 x2 x3 x4 z0 => wpX6_findMost_25  (wpX6_findMost_L25  post n) post x1 x2 x3 x4 z0
def wpX6_findMost_2 (k2 : Int32 → Int32 → Int32 → (wSt) → Prop) (post : Int32 → (wSt) → Prop) (x1 : Int32) (x2 : Int32) (x3 : Int32) (z0 : wSt) : Prop := ((x1 ≤ x3 → (∃ n, wpX6_findMost_L25  post n x1 x2 (-1 : Int32) (1 : Int32) z0)) ∧ (¬ x1 ≤ x3 → (vp_in x3 5 ∧ ∀ z1 : wSt, z1 = (w_sa z0 28 (upd (w_a z0 28) x3.toNatClampNeg (0 : Int32))) → (k2 x1 x2 (x3 + (1 : Int32)) z1))))
def wpX6_findMost_L2  (post : Int32 → (wSt) → Prop) : Nat → Int32 → Int32 → Int32 → (wSt) → Prop
  | 0 => fun _ _ _ _ => False
  | n + 1 => fun x1 x2 x3 z0 => wpX6_findMost_2  (wpX6_findMost_L2  post n) post x1 x2 x3 z0
def wpX6_findMost (x1 : Int32) (x2 : Int32) (z0 : wSt) (post : Int32 → (wSt) → Prop) : Prop := (∃ n, wpX6_findMost_L2  post n x1 x2 (0 : Int32) z0)
set_option maxHeartbeats 4000000 in
set_option maxRecDepth 100000 in
theorem cX6_findMost_c {l : Launch} {G : wG} {h : Nat → Nat} {sz : Nat} {x1 : Int32} {x2 : Int32} {post : Int32 → (wSt) → Prop} {z0 : wSt}  (hw : wpX6_findMost x1 x2 z0 post) : Met l yX6_findMost (.code yX6_findMost cX6_findMost 8 (some .int) :: BIG) { frames := 2, cells := 0, slots := 0, locals := 45 } (xPw G [.ref (h 0), .int x1, .int x2] (wsM G h z0) sz) (xQi G post (fun q => (wsM G h q)) (va_A (wsM G h z0) sz)) 0 0 (va_A (wsM G h z0) sz) := by
  refine xm_wi (by decide) (Nat.le_of_ble_eq_true rfl) (fun p e s m args below meth c A ls R Q hC hK hA hP hD hS hl hF hL hret => ?_)
  have hx := hC.1
  have hb := hC.2.1
  have hl : lv_has ls 8 [(0, .ref (h 0)), (1, .int x1), (2, .int x2)] := hl
  have B25 : ∀ n : Nat, ∀ (x1 : Int32) (x2 : Int32) (x3 : Int32) (x4 : Int32) (z0 : wSt) (H : Heap) (locs : List Loc) (ls : Array Slot), wpX6_findMost_L25  post n x1 x2 x3 x4 z0 → va_P G.1 vwCl (wsM G h z0) H → va_D A (wsM G h z0) → va_S A s.heap H locs → lv_has ls 8 [(0, .ref (h 0)), (1, .int x1), (2, .int x2), (3, .int x3), (4, .int x4)] → W p l e R s m args below meth c H locs 0 0 Q (F0 m 25 ls []) := by
    intro n
    induction n with
    | zero => intro x1 x2 x3 x4 z0 H locs ls hw hP hD hS hl; exact False.elim hw
    | succ n I25 =>
      have B184 : ∀ (x1 : Int32) (x2 : Int32) (x3 : Int32) (z0 : wSt) (H : Heap) (locs : List Loc) (ls : Array Slot), wpX6_findMost_184 (wpX6_findMost_L25  post n) post x1 x2 x3 z0 → va_P G.1 vwCl (wsM G h z0) H → va_D A (wsM G h z0) → va_S A s.heap H locs → lv_has ls 8 [(0, .ref (h 0)), (1, .int x1), (2, .int x2), (3, .int x3)] → W p l e R s m args below meth c H locs 0 0 Q (F0 m 184 ls []) := by
        intro x1 x2 x3 z0 H locs ls hw hP hD hS hl
        unfold wpX6_findMost_184 at hw
        refine lv_aload_n hx hb dX6_findMost_184 rfl (lv_at hl 0 rfl) ?_
        refine lv_iload_n hx hb dX6_findMost_185 rfl (lv_at hl 1 rfl) ?_
        refine xc_wi (wsz := fun q => (wsM G h q)) (f := fun u => u) (xr_V hC (cX6_nextRow_c (h := h) hw) ⟨rfl, rfl⟩ bw_838 calX6_nextRow ⟨Nat.le_trans (Nat.le_of_ble_eq_true rfl) hF, Nat.le_trans (Nat.le_of_ble_eq_true rfl) hL⟩ (rest := []) (xpV hK (cut_all_M) hP hD rfl rfl) rfl hl rfl (Nat.le_of_ble_eq_true rfl) dX6_findMost_186 ⟨Nat.zero_le _, Nat.zero_le _⟩) (cut_all_M) hP hD hS hA (fun r1 u z1 H locs hz1 hw hP hD hS => ?_)
        have hw := hw z1 hz1
        refine lv_istore (lv' := [(4, .int r1), (0, .ref (h 0)), (1, .int x1), (2, .int x2), (3, .int x3)]) hx hb dX6_findMost_189 hl (by decide) rfl (fun ls hl => ?_)
        refine lv_goto (tgt := 25) hx hb dX6_findMost_191 (by decide) ?_
        exact I25 x1 x2 x3 r1 z1 _ _ _ hw hP hD hS (lv_sub hl [1, 2, 3, 4, 0] rfl)
      have B139 : ∀ n : Nat, ∀ (x1 : Int32) (x2 : Int32) (x3 : Int32) (x7 : Int32) (z0 : wSt) (H : Heap) (locs : List Loc) (ls : Array Slot), wpX6_findMost_L139 (wpX6_findMost_L25  post n) post n x1 x2 x3 x7 z0 → va_P G.1 vwCl (wsM G h z0) H → va_D A (wsM G h z0) → va_S A s.heap H locs → lv_has ls 8 [(0, .ref (h 0)), (1, .int x1), (2, .int x2), (3, .int x3), (7, .int x7)] → W p l e R s m args below meth c H locs 0 0 Q (F0 m 139 ls []) := by
        intro n
        induction n with
        | zero => intro x1 x2 x3 x7 z0 H locs ls hw hP hD hS hl; exact False.elim hw
        | succ n I139 =>
          have B177 : ∀ (x1 : Int32) (x2 : Int32) (x3 : Int32) (x7 : Int32) (t0 : Int32) (t1 : Int32) (z0 : wSt) (H : Heap) (locs : List Loc) (ls : Array Slot), wpX6_findMost_177 (wpX6_findMost_L25  post n) (wpX6_findMost_L139 (wpX6_findMost_L25  post n) post n) post x1 x2 x3 x7 t0 t1 z0 → va_P G.1 vwCl (wsM G h z0) H → va_D A (wsM G h z0) → va_S A s.heap H locs → lv_has ls 8 [(0, .ref (h 0)), (1, .int x1), (2, .int x2), (3, .int x3), (7, .int x7)] → W p l e R s m args below meth c H locs 0 0 Q (F0 m 177 ls [.int t0, .int t1, .ref (h 11)]) := by
            intro x1 x2 x3 x7 t0 t1 z0 H locs ls hw hP hD hS hl
            unfold wpX6_findMost_177 at hw
            refine rs_M_11 hC hK hP hD hS (And.left hw) dX6_findMost_177 (fun z1 H locs hz1 hP hD hS => ?_)
            have hw := And.right hw z1 hz1
            refine lv_iinc (v := (x7 + (1 : Int32))) (lv' := [(7, .int (x7 + (1 : Int32))), (0, .ref (h 0)), (1, .int x1), (2, .int x2), (3, .int x3)]) hx hb dX6_findMost_178 hl (k := 4) rfl rfl (by decide) rfl (fun ls hl => ?_)
            refine lv_goto (tgt := 139) hx hb dX6_findMost_181 (by decide) ?_
            exact I139 x1 x2 x3 (x7 + (1 : Int32)) z1 _ _ _ hw hP hD hS (lv_sub hl [1, 2, 3, 4, 0] rfl)
          intro x1 x2 x3 x7 z0 H locs ls hw hP hD hS hl
          have hw : wpX6_findMost_139 (wpX6_findMost_L25  post n) (wpX6_findMost_L139 (wpX6_findMost_L25  post n) post n) post x1 x2 x3 x7 z0 := hw
          unfold wpX6_findMost_139 at hw
          refine lv_iload hx hb dX6_findMost_139 (lv_at hl 4 rfl) ?_
          refine lv_iload_n hx hb dX6_findMost_141 rfl (lv_at hl 1 rfl) ?_
          refine lv_icmp_ge (tgt := 184) hx hb dX6_findMost_142 (by decide) (fun hc => ?_) (fun hc => ?_)
          · have hw := And.left hw hc
            exact B184 x1 x2 x3 z0 _ _ _ hw hP hD hS (lv_sub hl [0, 1, 2, 3] rfl)
          · have hw := And.right hw hc
            refine lv_aload_n hx hb dX6_findMost_145 rfl (lv_at hl 0 rfl) ?_
            refine rg_M_X6_0_29 hC hK hP dX6_findMost_146 ?_
            refine lv_iload hx hb dX6_findMost_149 (lv_at hl 4 rfl) ?_
            refine lv_aload_n hx hb dX6_findMost_151 rfl (lv_at hl 0 rfl) ?_
            refine rg_M_X6_0_28 hC hK hP dX6_findMost_152 ?_
            refine lv_iload hx hb dX6_findMost_155 (lv_at hl 4 rfl) ?_
            refine rl_M_10 hC hK hP (And.left hw) dX6_findMost_157 ?_
            have hw := And.right hw
            refine lv_aload_n hx hb dX6_findMost_158 rfl (lv_at hl 0 rfl) ?_
            refine rg_M_X6_0_5 hC hK hP dX6_findMost_159 ?_
            refine lv_icmp_ne (tgt := 170) hx hb dX6_findMost_162 (by decide) (fun hc => ?_) (fun hc => ?_)
            · have hw := And.left hw hc
              refine lv_aload_n hx hb dX6_findMost_170 rfl (lv_at hl 0 rfl) ?_
              refine rg_M_X6_0_28 hC hK hP dX6_findMost_171 ?_
              refine lv_iload hx hb dX6_findMost_174 (lv_at hl 4 rfl) ?_
              refine rl_M_10 hC hK hP (And.left hw) dX6_findMost_176 ?_
              have hw := And.right hw
              exact B177 x1 x2 x3 x7 ((w_a z0 28) x7.toNatClampNeg) x7 z0 _ _ _ hw hP hD hS (lv_sub hl [0, 1, 2, 3, 4] rfl)
            · have hw := And.right hw hc
              refine lv_bipush (v := (9 : Int32)) hx hb dX6_findMost_165 (by decide) ?_
              refine lv_goto (tgt := 177) hx hb dX6_findMost_167 (by decide) ?_
              exact B177 x1 x2 x3 x7 (9 : Int32) x7 z0 _ _ _ hw hP hD hS (lv_sub hl [0, 1, 2, 3, 4] rfl)
      have B122 : ∀ (x1 : Int32) (x2 : Int32) (x3 : Int32) (x5 : Int32) (x6 : Int32) (z0 : wSt) (H : Heap) (locs : List Loc) (ls : Array Slot), wpX6_findMost_122 (wpX6_findMost_L25  post n) post x1 x2 x3 x5 x6 z0 → va_P G.1 vwCl (wsM G h z0) H → va_D A (wsM G h z0) → va_S A s.heap H locs → lv_has ls 8 [(0, .ref (h 0)), (1, .int x1), (2, .int x2), (3, .int x3), (5, .int x5), (6, .int x6)] → W p l e R s m args below meth c H locs 0 0 Q (F0 m 122 ls []) := by
        intro x1 x2 x3 x5 x6 z0 H locs ls hw hP hD hS hl
        unfold wpX6_findMost_122 at hw
        refine lv_iload hx hb dX6_findMost_122 (lv_at hl 5 rfl) ?_
        refine lv_if_eq (tgt := 184) hx hb dX6_findMost_124 (by decide) (fun hc => ?_) (fun hc => ?_)
        · have hw := And.left hw hc
          exact B184 x1 x2 x3 z0 _ _ _ hw hP hD hS (lv_sub hl [0, 1, 2, 3] rfl)
        · have hw := And.right hw hc
          refine lv_iload hx hb dX6_findMost_127 (lv_at hl 4 rfl) ?_
          refine lv_iload_n hx hb dX6_findMost_129 rfl (lv_at hl 3 rfl) ?_
          refine lv_icmp_le (tgt := 184) hx hb dX6_findMost_130 (by decide) (fun hc => ?_) (fun hc => ?_)
          · have hw := And.left hw hc
            exact B184 x1 x2 x3 z0 _ _ _ hw hP hD hS (lv_sub hl [0, 1, 2, 3] rfl)
          · have hw := And.right hw hc
            refine lv_iload hx hb dX6_findMost_133 (lv_at hl 4 rfl) ?_
            refine lv_istore_n (lv' := [(3, .int x5), (0, .ref (h 0)), (1, .int x1), (2, .int x2), (5, .int x5), (6, .int x6)]) hx hb dX6_findMost_135 rfl hl (by decide) rfl (fun ls hl => ?_)
            refine lv_iconst (v := (0 : Int32)) hx hb dX6_findMost_136 (by decide) ?_
            refine lv_istore (lv' := [(7, .int (0 : Int32)), (3, .int x5), (0, .ref (h 0)), (1, .int x1), (2, .int x2), (5, .int x5), (6, .int x6)]) hx hb dX6_findMost_137 hl (by decide) rfl (fun ls hl => ?_)
            obtain ⟨n139, hw⟩ := hw
            exact B139 n139 x1 x2 x5 (0 : Int32) z0 _ _ _ hw hP hD hS (lv_sub hl [2, 3, 4, 1, 0] rfl)
      have B48 : ∀ n : Nat, ∀ (x1 : Int32) (x2 : Int32) (x3 : Int32) (x5 : Int32) (x6 : Int32) (x7 : Int32) (z0 : wSt) (H : Heap) (locs : List Loc) (ls : Array Slot), wpX6_findMost_L48 (wpX6_findMost_L25  post n) post n x1 x2 x3 x5 x6 x7 z0 → va_P G.1 vwCl (wsM G h z0) H → va_D A (wsM G h z0) → va_S A s.heap H locs → lv_has ls 8 [(0, .ref (h 0)), (1, .int x1), (2, .int x2), (3, .int x3), (5, .int x5), (6, .int x6), (7, .int x7)] → W p l e R s m args below meth c H locs 0 0 Q (F0 m 48 ls []) := by
        intro n
        induction n with
        | zero => intro x1 x2 x3 x5 x6 x7 z0 H locs ls hw hP hD hS hl; exact False.elim hw
        | succ n I48 =>
          have B113 : ∀ (x1 : Int32) (x2 : Int32) (x3 : Int32) (x6 : Int32) (x7 : Int32) (t0 : Int32) (t1 : Int32) (z0 : wSt) (H : Heap) (locs : List Loc) (ls : Array Slot), wpX6_findMost_113 (wpX6_findMost_L25  post n) (wpX6_findMost_L48 (wpX6_findMost_L25  post n) post n) post x1 x2 x3 x6 x7 t0 t1 z0 → va_P G.1 vwCl (wsM G h z0) H → va_D A (wsM G h z0) → va_S A s.heap H locs → lv_has ls 8 [(0, .ref (h 0)), (1, .int x1), (2, .int x2), (3, .int x3), (6, .int x6), (7, .int x7)] → W p l e R s m args below meth c H locs 0 0 Q (F0 m 113 ls [.int t0, .int t1]) := by
            intro x1 x2 x3 x6 x7 t0 t1 z0 H locs ls hw hP hD hS hl
            unfold wpX6_findMost_113 at hw
            refine lv_iadd hx hb dX6_findMost_113 ?_
            refine lv_istore (lv' := [(5, .int (t1 + t0)), (0, .ref (h 0)), (1, .int x1), (2, .int x2), (3, .int x3), (6, .int x6), (7, .int x7)]) hx hb dX6_findMost_114 hl (by decide) rfl (fun ls hl => ?_)
            refine lv_iinc (v := (x7 + (1 : Int32))) (lv' := [(7, .int (x7 + (1 : Int32))), (5, .int (t1 + t0)), (0, .ref (h 0)), (1, .int x1), (2, .int x2), (3, .int x3), (6, .int x6)]) hx hb dX6_findMost_116 hl (k := 6) rfl rfl (by decide) rfl (fun ls hl => ?_)
            refine lv_goto (tgt := 48) hx hb dX6_findMost_119 (by decide) ?_
            exact I48 x1 x2 x3 (t1 + t0) x6 (x7 + (1 : Int32)) z0 _ _ _ hw hP hD hS (lv_sub hl [2, 3, 4, 5, 1, 6, 0] rfl)
          have B112 : ∀ (x1 : Int32) (x2 : Int32) (x3 : Int32) (x6 : Int32) (x7 : Int32) (t0 : Int32) (z0 : wSt) (H : Heap) (locs : List Loc) (ls : Array Slot), wpX6_findMost_112 (wpX6_findMost_L25  post n) (wpX6_findMost_L48 (wpX6_findMost_L25  post n) post n) post x1 x2 x3 x6 x7 t0 z0 → va_P G.1 vwCl (wsM G h z0) H → va_D A (wsM G h z0) → va_S A s.heap H locs → lv_has ls 8 [(0, .ref (h 0)), (1, .int x1), (2, .int x2), (3, .int x3), (6, .int x6), (7, .int x7)] → W p l e R s m args below meth c H locs 0 0 Q (F0 m 112 ls [.int t0]) := by
            intro x1 x2 x3 x6 x7 t0 z0 H locs ls hw hP hD hS hl
            unfold wpX6_findMost_112 at hw
            refine lv_iconst (v := (0 : Int32)) hx hb dX6_findMost_112 (by decide) ?_
            exact B113 x1 x2 x3 x6 x7 (0 : Int32) t0 z0 _ _ _ hw hP hD hS (lv_sub hl [0, 1, 2, 3, 4, 5] rfl)
          have B86 : ∀ (x1 : Int32) (x2 : Int32) (x3 : Int32) (x5 : Int32) (x7 : Int32) (t0 : Int32) (z0 : wSt) (H : Heap) (locs : List Loc) (ls : Array Slot), wpX6_findMost_86 (wpX6_findMost_L25  post n) (wpX6_findMost_L48 (wpX6_findMost_L25  post n) post n) post x1 x2 x3 x5 x7 t0 z0 → va_P G.1 vwCl (wsM G h z0) H → va_D A (wsM G h z0) → va_S A s.heap H locs → lv_has ls 8 [(0, .ref (h 0)), (1, .int x1), (2, .int x2), (3, .int x3), (5, .int x5), (7, .int x7)] → W p l e R s m args below meth c H locs 0 0 Q (F0 m 86 ls [.int t0, .ref (h 0)]) := by
            intro x1 x2 x3 x5 x7 t0 z0 H locs ls hw hP hD hS hl
            unfold wpX6_findMost_86 at hw
            refine xc_wi (wsz := fun q => (wsM G h q)) (f := fun u => u) (xr_V hC (cX6_tryOne_c (h := h) hw) ⟨rfl, rfl⟩ bw_793 calX6_tryOne ⟨Nat.le_trans (Nat.le_of_ble_eq_true rfl) hF, Nat.le_trans (Nat.le_of_ble_eq_true rfl) hL⟩ (rest := []) (xpV hK (cut_all_M) hP hD rfl rfl) rfl hl rfl (Nat.le_of_ble_eq_true rfl) dX6_findMost_86 ⟨Nat.zero_le _, Nat.zero_le _⟩) (cut_all_M) hP hD hS hA (fun r1 u z1 H locs hz1 hw hP hD hS => ?_)
            have hw := hw z1 hz1
            refine lv_istore (lv' := [(6, .int r1), (0, .ref (h 0)), (1, .int x1), (2, .int x2), (3, .int x3), (5, .int x5), (7, .int x7)]) hx hb dX6_findMost_89 hl (by decide) rfl (fun ls hl => ?_)
            refine lv_iload hx hb dX6_findMost_91 (lv_at hl 5 rfl) ?_
            refine lv_iload hx hb dX6_findMost_93 (lv_at hl 0 rfl) ?_
            refine lv_if_eq (tgt := 112) hx hb dX6_findMost_95 (by decide) (fun hc => ?_) (fun hc => ?_)
            · have hw := And.left hw hc
              exact B112 x1 x2 x3 r1 x7 x5 z1 _ _ _ hw hP hD hS (lv_sub hl [1, 2, 3, 4, 0, 6] rfl)
            · have hw := And.right hw hc
              refine lv_aload_n hx hb dX6_findMost_98 rfl (lv_at hl 1 rfl) ?_
              refine rg_M_X6_0_26 hC hK hP dX6_findMost_99 ?_
              refine lv_if_eq (tgt := 112) hx hb dX6_findMost_102 (by decide) (fun hc => ?_) (fun hc => ?_)
              · have hw := And.left hw hc
                exact B112 x1 x2 x3 r1 x7 x5 z1 _ _ _ hw hP hD hS (lv_sub hl [1, 2, 3, 4, 0, 6] rfl)
              · have hw := And.right hw hc
                refine lv_aload_n hx hb dX6_findMost_105 rfl (lv_at hl 1 rfl) ?_
                refine rg_M_X6_0_25 hC hK hP dX6_findMost_106 ?_
                refine lv_goto (tgt := 113) hx hb dX6_findMost_109 (by decide) ?_
                exact B113 x1 x2 x3 r1 x7 (w_i z1 25) x5 z1 _ _ _ hw hP hD hS (lv_sub hl [1, 2, 3, 4, 0, 6] rfl)
          intro x1 x2 x3 x5 x6 x7 z0 H locs ls hw hP hD hS hl
          have hw : wpX6_findMost_48 (wpX6_findMost_L25  post n) (wpX6_findMost_L48 (wpX6_findMost_L25  post n) post n) post x1 x2 x3 x5 x6 x7 z0 := hw
          unfold wpX6_findMost_48 at hw
          refine lv_iload hx hb dX6_findMost_48 (lv_at hl 6 rfl) ?_
          refine lv_iload_n hx hb dX6_findMost_50 rfl (lv_at hl 1 rfl) ?_
          refine lv_icmp_ge (tgt := 122) hx hb dX6_findMost_51 (by decide) (fun hc => ?_) (fun hc => ?_)
          · have hw := And.left hw hc
            exact B122 x1 x2 x3 x5 x6 z0 _ _ _ hw hP hD hS (lv_sub hl [0, 1, 2, 3, 4, 5] rfl)
          · have hw := And.right hw hc
            refine lv_iload hx hb dX6_findMost_54 (lv_at hl 5 rfl) ?_
            refine lv_if_eq (tgt := 122) hx hb dX6_findMost_56 (by decide) (fun hc => ?_) (fun hc => ?_)
            · have hw := And.left hw hc
              exact B122 x1 x2 x3 x5 x6 z0 _ _ _ hw hP hD hS (lv_sub hl [0, 1, 2, 3, 4, 5] rfl)
            · have hw := And.right hw hc
              refine lv_aload_n hx hb dX6_findMost_59 rfl (lv_at hl 0 rfl) ?_
              refine lv_aload_n hx hb dX6_findMost_60 rfl (lv_at hl 0 rfl) ?_
              refine rg_M_X6_0_28 hC hK hP dX6_findMost_61 ?_
              refine lv_iload hx hb dX6_findMost_64 (lv_at hl 6 rfl) ?_
              refine rl_M_10 hC hK hP (And.left hw) dX6_findMost_66 ?_
              have hw := And.right hw
              refine lv_aload_n hx hb dX6_findMost_67 rfl (lv_at hl 0 rfl) ?_
              refine rg_M_X6_0_5 hC hK hP dX6_findMost_68 ?_
              refine lv_icmp_ne (tgt := 79) hx hb dX6_findMost_71 (by decide) (fun hc => ?_) (fun hc => ?_)
              · have hw := And.left hw hc
                refine lv_aload_n hx hb dX6_findMost_79 rfl (lv_at hl 0 rfl) ?_
                refine rg_M_X6_0_28 hC hK hP dX6_findMost_80 ?_
                refine lv_iload hx hb dX6_findMost_83 (lv_at hl 6 rfl) ?_
                refine rl_M_10 hC hK hP (And.left hw) dX6_findMost_85 ?_
                have hw := And.right hw
                exact B86 x1 x2 x3 x5 x7 ((w_a z0 28) x7.toNatClampNeg) z0 _ _ _ hw hP hD hS (lv_sub hl [0, 1, 2, 3, 4, 6] rfl)
              · have hw := And.right hw hc
                refine lv_bipush (v := (9 : Int32)) hx hb dX6_findMost_74 (by decide) ?_
                refine lv_goto (tgt := 86) hx hb dX6_findMost_76 (by decide) ?_
                exact B86 x1 x2 x3 x5 x7 (9 : Int32) z0 _ _ _ hw hP hD hS (lv_sub hl [0, 1, 2, 3, 4, 6] rfl)
      intro x1 x2 x3 x4 z0 H locs ls hw hP hD hS hl
      have hw : wpX6_findMost_25  (wpX6_findMost_L25  post n) post x1 x2 x3 x4 z0 := hw
      unfold wpX6_findMost_25 at hw
      refine lv_iload hx hb dX6_findMost_25 (lv_at hl 4 rfl) ?_
      refine lv_if_eq (tgt := 194) hx hb dX6_findMost_27 (by decide) (fun hc => ?_) (fun hc => ?_)
      · have hw := And.left hw hc
        refine lv_iload_n hx hb dX6_findMost_194 rfl (lv_at hl 3 rfl) ?_
        exact hret _ _ _ _ _ _ hw hP hD hS dX6_findMost_195
      · have hw := And.right hw hc
        refine lv_aload_n hx hb dX6_findMost_30 rfl (lv_at hl 0 rfl) ?_
        refine xc_wv (wsz := fun q => (wsM G h q)) (f := fun u => u) (xr_V hC (cX6_begin_c (h := h) hw) ⟨rfl, rfl⟩ bw_789 calX6_begin ⟨Nat.le_trans (Nat.le_of_ble_eq_true rfl) hF, Nat.le_trans (Nat.le_of_ble_eq_true rfl) hL⟩ (rest := []) (xpV hK (cut_all_M) hP hD rfl rfl) rfl hl rfl (Nat.le_of_ble_eq_true rfl) dX6_findMost_31 ⟨Nat.zero_le _, Nat.zero_le _⟩) (cut_all_M) hP hD hS hA (fun u z1 H locs hz1 hw hP hD hS => ?_)
        have hw := hw z1 hz1
        refine lv_aload_n hx hb dX6_findMost_34 rfl (lv_at hl 0 rfl) ?_
        refine lv_iload_n hx hb dX6_findMost_35 rfl (lv_at hl 2 rfl) ?_
        refine rp_M_X6_0_21 hC hK hP hD hS dX6_findMost_36 (fun z2 H locs hz1 hP hD hS => ?_)
        have hw := hw z2 hz1
        refine lv_iconst (v := (0 : Int32)) hx hb dX6_findMost_39 (by decide) ?_
        refine lv_istore (lv' := [(5, .int (0 : Int32)), (0, .ref (h 0)), (1, .int x1), (2, .int x2), (3, .int x3), (4, .int x4)]) hx hb dX6_findMost_40 hl (by decide) rfl (fun ls hl => ?_)
        refine lv_iconst (v := (1 : Int32)) hx hb dX6_findMost_42 (by decide) ?_
        refine lv_istore (lv' := [(6, .int (1 : Int32)), (5, .int (0 : Int32)), (0, .ref (h 0)), (1, .int x1), (2, .int x2), (3, .int x3), (4, .int x4)]) hx hb dX6_findMost_43 hl (by decide) rfl (fun ls hl => ?_)
        refine lv_iconst (v := (0 : Int32)) hx hb dX6_findMost_45 (by decide) ?_
        refine lv_istore (lv' := [(7, .int (0 : Int32)), (6, .int (1 : Int32)), (5, .int (0 : Int32)), (0, .ref (h 0)), (1, .int x1), (2, .int x2), (3, .int x3), (4, .int x4)]) hx hb dX6_findMost_46 hl (by decide) rfl (fun ls hl => ?_)
        obtain ⟨n48, hw⟩ := hw
        exact B48 n48 x1 x2 x3 (0 : Int32) (1 : Int32) (0 : Int32) z2 _ _ _ hw hP hD hS (lv_sub hl [3, 4, 5, 6, 2, 1, 0] rfl)
  have B2 : ∀ n : Nat, ∀ (x1 : Int32) (x2 : Int32) (x3 : Int32) (z0 : wSt) (H : Heap) (locs : List Loc) (ls : Array Slot), wpX6_findMost_L2  post n x1 x2 x3 z0 → va_P G.1 vwCl (wsM G h z0) H → va_D A (wsM G h z0) → va_S A s.heap H locs → lv_has ls 8 [(0, .ref (h 0)), (1, .int x1), (2, .int x2), (3, .int x3)] → W p l e R s m args below meth c H locs 0 0 Q (F0 m 2 ls []) := by
    intro n
    induction n with
    | zero => intro x1 x2 x3 z0 H locs ls hw hP hD hS hl; exact False.elim hw
    | succ n I2 =>
      intro x1 x2 x3 z0 H locs ls hw hP hD hS hl
      have hw : wpX6_findMost_2  (wpX6_findMost_L2  post n) post x1 x2 x3 z0 := hw
      unfold wpX6_findMost_2 at hw
      refine lv_iload_n hx hb dX6_findMost_2 rfl (lv_at hl 3 rfl) ?_
      refine lv_iload_n hx hb dX6_findMost_3 rfl (lv_at hl 1 rfl) ?_
      refine lv_icmp_ge (tgt := 20) hx hb dX6_findMost_4 (by decide) (fun hc => ?_) (fun hc => ?_)
      · have hw := And.left hw hc
        refine lv_iconst (v := (-1 : Int32)) hx hb dX6_findMost_20 (by decide) ?_
        refine lv_istore_n (lv' := [(3, .int (-1 : Int32)), (0, .ref (h 0)), (1, .int x1), (2, .int x2)]) hx hb dX6_findMost_21 rfl hl (by decide) rfl (fun ls hl => ?_)
        refine lv_iconst (v := (1 : Int32)) hx hb dX6_findMost_22 (by decide) ?_
        refine lv_istore (lv' := [(4, .int (1 : Int32)), (3, .int (-1 : Int32)), (0, .ref (h 0)), (1, .int x1), (2, .int x2)]) hx hb dX6_findMost_23 hl (by decide) rfl (fun ls hl => ?_)
        obtain ⟨n25, hw⟩ := hw
        exact B25 n25 x1 x2 (-1 : Int32) (1 : Int32) z0 _ _ _ hw hP hD hS (lv_sub hl [2, 3, 4, 1, 0] rfl)
      · have hw := And.right hw hc
        refine lv_aload_n hx hb dX6_findMost_7 rfl (lv_at hl 0 rfl) ?_
        refine rg_M_X6_0_28 hC hK hP dX6_findMost_8 ?_
        refine lv_iload_n hx hb dX6_findMost_11 rfl (lv_at hl 3 rfl) ?_
        refine lv_iconst (v := (0 : Int32)) hx hb dX6_findMost_12 (by decide) ?_
        refine rs_M_10 hC hK hP hD hS (And.left hw) dX6_findMost_13 (fun z1 H locs hz1 hP hD hS => ?_)
        have hw := And.right hw z1 hz1
        refine lv_iinc (v := (x3 + (1 : Int32))) (lv' := [(3, .int (x3 + (1 : Int32))), (0, .ref (h 0)), (1, .int x1), (2, .int x2)]) hx hb dX6_findMost_14 hl (k := 3) rfl rfl (by decide) rfl (fun ls hl => ?_)
        refine lv_goto (tgt := 2) hx hb dX6_findMost_17 (by decide) ?_
        exact I2 x1 x2 (x3 + (1 : Int32)) z1 _ _ _ hw hP hD hS (lv_sub hl [1, 2, 3, 0] rfl)
  unfold wpX6_findMost at hw
  refine lv_iconst (v := (0 : Int32)) hx hb dX6_findMost_0 (by decide) ?_
  refine lv_istore_n (lv' := [(3, .int (0 : Int32)), (0, .ref (h 0)), (1, .int x1), (2, .int x2)]) hx hb dX6_findMost_1 rfl hl (by decide) rfl (fun ls hl => ?_)
  obtain ⟨n2, hw⟩ := hw
  exact B2 n2 x1 x2 (0 : Int32) z0 _ _ _ hw hP hD hS (lv_sub hl [1, 2, 3, 0] rfl)
def wpX6_most (x1 : Int32) (z0 : wSt) (post : Int32 → (wSt) → Prop) : Prop := (wpX6_in (x1.toInt64) (1 : Int64) (5 : Int64) (fun r1 => ((r1 = 0 → (post (-1 : Int32) z0)) ∧ (¬ r1 = 0 → (wpX6_findMost x1 (w_i z0 6) z0 (fun r2 u => ∀ z1 : wSt, z1 = u → (post r2 z1)))))))
set_option maxHeartbeats 4000000 in
set_option maxRecDepth 100000 in
theorem cX6_most_c {l : Launch} {G : wG} {h : Nat → Nat} {sz : Nat} {x1 : Int32} {post : Int32 → (wSt) → Prop} {z0 : wSt}  (hw : wpX6_most x1 z0 post) : Met l yX6_most (.code yX6_most cX6_most 2 (some .int) :: BIG) { frames := 3, cells := 0, slots := 0, locals := 72 } (xPw G [.ref (h 0), .int x1] (wsM G h z0) sz) (xQi G post (fun q => (wsM G h q)) (va_A (wsM G h z0) sz)) 0 0 (va_A (wsM G h z0) sz) := by
  refine xm_wi (by decide) (Nat.le_of_ble_eq_true rfl) (fun p e s m args below meth c A ls R Q hC hK hA hP hD hS hl hF hL hret => ?_)
  have hx := hC.1
  have hb := hC.2.1
  have hl : lv_has ls 2 [(0, .ref (h 0)), (1, .int x1)] := hl
  unfold wpX6_most at hw
  refine lv_iload_n hx hb dX6_most_0 rfl (lv_at hl 1 rfl) ?_
  refine lv_i2l (v := (x1.toInt64)) hx hb dX6_most_1 rfl ?_
  refine lv_lconst (v := (1 : Int64)) hx hb dX6_most_2 (by decide) ?_
  refine lv_ldc2 (v := (5 : Int64)) hx hb hC.2.2.2.1 (hC.2.2.2.2 _ bw_833) dX6_most_3 ?_
  refine vp_callSi (xro (xr_S hC (cX6_in_c hw) ⟨rfl, rfl⟩ bw_700 calX6_in ⟨Nat.le_trans (Nat.le_of_ble_eq_true rfl) hF, Nat.le_trans (Nat.le_of_ble_eq_true rfl) hL⟩ (rest := []) (xpS hK) rfl hl rfl (Nat.le_of_ble_eq_true rfl) dX6_most_6 ⟨Nat.zero_le _, Nat.zero_le _⟩)) (fun r1 hw => ?_)
  refine lv_if_eq (tgt := 24) hx hb dX6_most_9 (by decide) (fun hc => ?_) (fun hc => ?_)
  · have hw := And.left hw hc
    refine lv_iconst (v := (-1 : Int32)) hx hb dX6_most_24 (by decide) ?_
    exact hret _ _ _ _ _ _ hw hP hD hS dX6_most_25
  · have hw := And.right hw hc
    refine lv_aload_n hx hb dX6_most_12 rfl (lv_at hl 0 rfl) ?_
    refine lv_iload_n hx hb dX6_most_13 rfl (lv_at hl 1 rfl) ?_
    refine lv_aload_n hx hb dX6_most_14 rfl (lv_at hl 0 rfl) ?_
    refine rg_M_X6_0_6 hC hK hP dX6_most_15 ?_
    refine xc_wi (wsz := fun q => (wsM G h q)) (f := fun u => u) (xr_V hC (cX6_findMost_c (h := h) hw) ⟨rfl, rfl⟩ bw_834 calX6_findMost ⟨Nat.le_trans (Nat.le_of_ble_eq_true rfl) hF, Nat.le_trans (Nat.le_of_ble_eq_true rfl) hL⟩ (rest := []) (xpV hK (cut_all_M) hP hD rfl rfl) rfl hl rfl (Nat.le_of_ble_eq_true rfl) dX6_most_18 ⟨Nat.zero_le _, Nat.zero_le _⟩) (cut_all_M) hP hD hS hA (fun r2 u z1 H locs hz1 hw hP hD hS => ?_)
    have hw := hw z1 hz1
    refine lv_goto (tgt := 25) hx hb dX6_most_21 (by decide) ?_
    exact hret _ _ _ _ _ _ hw hP hD hS dX6_most_25
def wpX6_row (x1 : Int32) (x2 : Int32) (z0 : wSt) (post : Int32 → (wSt) → Prop) : Prop := (wpX6_in (x1.toInt64) (1 : Int64) (5 : Int64) (fun r1 => ((r1 = 0 → (post (-1 : Int32) z0)) ∧ (¬ r1 = 0 → (wpX6_in (x2.toInt64) (0 : Int64) ((x1 - (1 : Int32)).toInt64) (fun r2 => ((¬ r2 = 0 → (wpX6_findMost x1 (w_i z0 6) z0 (fun r3 u => ∀ z1 : wSt, z1 = u → (vp_in x2 5 ∧ (post ((w_a z1 29) x2.toNatClampNeg) z1))))) ∧ (r2 = 0 → (post (-1 : Int32) z0)))))))))
set_option maxHeartbeats 4000000 in
set_option maxRecDepth 100000 in
theorem cX6_row_c {l : Launch} {G : wG} {h : Nat → Nat} {sz : Nat} {x1 : Int32} {x2 : Int32} {post : Int32 → (wSt) → Prop} {z0 : wSt}  (hw : wpX6_row x1 x2 z0 post) : Met l yX6_row (.code yX6_row cX6_row 3 (some .int) :: BIG) { frames := 3, cells := 0, slots := 0, locals := 72 } (xPw G [.ref (h 0), .int x1, .int x2] (wsM G h z0) sz) (xQi G post (fun q => (wsM G h q)) (va_A (wsM G h z0) sz)) 0 0 (va_A (wsM G h z0) sz) := by
  refine xm_wi (by decide) (Nat.le_of_ble_eq_true rfl) (fun p e s m args below meth c A ls R Q hC hK hA hP hD hS hl hF hL hret => ?_)
  have hx := hC.1
  have hb := hC.2.1
  have hl : lv_has ls 3 [(0, .ref (h 0)), (1, .int x1), (2, .int x2)] := hl
  unfold wpX6_row at hw
  refine lv_iload_n hx hb dX6_row_0 rfl (lv_at hl 1 rfl) ?_
  refine lv_i2l (v := (x1.toInt64)) hx hb dX6_row_1 rfl ?_
  refine lv_lconst (v := (1 : Int64)) hx hb dX6_row_2 (by decide) ?_
  refine lv_ldc2 (v := (5 : Int64)) hx hb hC.2.2.2.1 (hC.2.2.2.2 _ bw_833) dX6_row_3 ?_
  refine vp_callSi (xro (xr_S hC (cX6_in_c hw) ⟨rfl, rfl⟩ bw_700 calX6_in ⟨Nat.le_trans (Nat.le_of_ble_eq_true rfl) hF, Nat.le_trans (Nat.le_of_ble_eq_true rfl) hL⟩ (rest := []) (xpS hK) rfl hl rfl (Nat.le_of_ble_eq_true rfl) dX6_row_6 ⟨Nat.zero_le _, Nat.zero_le _⟩)) (fun r1 hw => ?_)
  refine lv_if_eq (tgt := 25) hx hb dX6_row_9 (by decide) (fun hc => ?_) (fun hc => ?_)
  · have hw := And.left hw hc
    refine lv_iconst (v := (-1 : Int32)) hx hb dX6_row_25 (by decide) ?_
    exact hret _ _ _ _ _ _ hw hP hD hS dX6_row_26
  · have hw := And.right hw hc
    refine lv_iload_n hx hb dX6_row_12 rfl (lv_at hl 2 rfl) ?_
    refine lv_i2l (v := (x2.toInt64)) hx hb dX6_row_13 rfl ?_
    refine lv_lconst (v := (0 : Int64)) hx hb dX6_row_14 (by decide) ?_
    refine lv_iload_n hx hb dX6_row_15 rfl (lv_at hl 1 rfl) ?_
    refine lv_iconst (v := (1 : Int32)) hx hb dX6_row_16 (by decide) ?_
    refine lv_isub hx hb dX6_row_17 ?_
    refine lv_i2l (v := ((x1 - (1 : Int32)).toInt64)) hx hb dX6_row_18 rfl ?_
    refine vp_callSi (xro (xr_S hC (cX6_in_c hw) ⟨rfl, rfl⟩ bw_700 calX6_in ⟨Nat.le_trans (Nat.le_of_ble_eq_true rfl) hF, Nat.le_trans (Nat.le_of_ble_eq_true rfl) hL⟩ (rest := []) (xpS hK) rfl hl rfl (Nat.le_of_ble_eq_true rfl) dX6_row_19 ⟨Nat.zero_le _, Nat.zero_le _⟩)) (fun r2 hw => ?_)
    refine lv_if_ne (tgt := 27) hx hb dX6_row_22 (by decide) (fun hc => ?_) (fun hc => ?_)
    · have hw := And.left hw hc
      refine lv_aload_n hx hb dX6_row_27 rfl (lv_at hl 0 rfl) ?_
      refine lv_iload_n hx hb dX6_row_28 rfl (lv_at hl 1 rfl) ?_
      refine lv_aload_n hx hb dX6_row_29 rfl (lv_at hl 0 rfl) ?_
      refine rg_M_X6_0_6 hC hK hP dX6_row_30 ?_
      refine xc_wi (wsz := fun q => (wsM G h q)) (f := fun u => u) (xr_V hC (cX6_findMost_c (h := h) hw) ⟨rfl, rfl⟩ bw_834 calX6_findMost ⟨Nat.le_trans (Nat.le_of_ble_eq_true rfl) hF, Nat.le_trans (Nat.le_of_ble_eq_true rfl) hL⟩ (rest := []) (xpV hK (cut_all_M) hP hD rfl rfl) rfl hl rfl (Nat.le_of_ble_eq_true rfl) dX6_row_33 ⟨Nat.zero_le _, Nat.zero_le _⟩) (cut_all_M) hP hD hS hA (fun r3 u z1 H locs hz1 hw hP hD hS => ?_)
      have hw := hw z1 hz1
      refine lv_pop hx hb dX6_row_36 rfl ?_
      refine lv_aload_n hx hb dX6_row_37 rfl (lv_at hl 0 rfl) ?_
      refine rg_M_X6_0_29 hC hK hP dX6_row_38 ?_
      refine lv_iload_n hx hb dX6_row_41 rfl (lv_at hl 2 rfl) ?_
      refine rl_M_11 hC hK hP (And.left hw) dX6_row_42 ?_
      have hw := And.right hw
      exact hret _ _ _ _ _ _ hw hP hD hS dX6_row_43
    · have hw := And.right hw hc
      refine lv_iconst (v := (-1 : Int32)) hx hb dX6_row_25 (by decide) ?_
      exact hret _ _ _ _ _ _ hw hP hD hS dX6_row_26
def wpX6_fewest_22 (k22 : Int32 → Int32 → (wSt) → Prop) (post : Int32 → (wSt) → Prop) (x1 : Int32) (x2 : Int32) (z0 : wSt) : Prop := (((5 : Int32) < x2 → (post (-4 : Int32) z0)) ∧ (¬ (5 : Int32) < x2 → (wpX6_findMost x2 (w_i z0 6) z0 (fun r1 u => ∀ z1 : wSt, z1 = u → ((r1 < x1 → (k22 x1 (x2 + (1 : Int32)) z1)) ∧ (¬ r1 < x1 → (post x2 z1)))))))
def wpX6_fewest_L22  (post : Int32 → (wSt) → Prop) : Nat → Int32 → Int32 → (wSt) → Prop
  | 0 => fun _ _ _ => False
  | n + 1 => fun x1 x2 z0 => wpX6_fewest_22  (wpX6_fewest_L22  post n) post x1 x2 z0
def wpX6_fewest (x1 : Int32) (z0 : wSt) (post : Int32 → (wSt) → Prop) : Prop := (wpX6_in (x1.toInt64) (0 : Int64) (99 : Int64) (fun r1 => ((¬ r1 = 0 → ((¬ x1 = 0 → (∃ n, wpX6_fewest_L22  post n x1 (1 : Int32) z0)) ∧ (x1 = 0 → (post (0 : Int32) z0)))) ∧ (r1 = 0 → (post (-1 : Int32) z0)))))
set_option maxHeartbeats 4000000 in
set_option maxRecDepth 100000 in
theorem cX6_fewest_c {l : Launch} {G : wG} {h : Nat → Nat} {sz : Nat} {x1 : Int32} {post : Int32 → (wSt) → Prop} {z0 : wSt}  (hw : wpX6_fewest x1 z0 post) : Met l yX6_fewest (.code yX6_fewest cX6_fewest 3 (some .int) :: BIG) { frames := 3, cells := 0, slots := 0, locals := 72 } (xPw G [.ref (h 0), .int x1] (wsM G h z0) sz) (xQi G post (fun q => (wsM G h q)) (va_A (wsM G h z0) sz)) 0 0 (va_A (wsM G h z0) sz) := by
  refine xm_wi (by decide) (Nat.le_of_ble_eq_true rfl) (fun p e s m args below meth c A ls R Q hC hK hA hP hD hS hl hF hL hret => ?_)
  have hx := hC.1
  have hb := hC.2.1
  have hl : lv_has ls 3 [(0, .ref (h 0)), (1, .int x1)] := hl
  have B22 : ∀ n : Nat, ∀ (x1 : Int32) (x2 : Int32) (z0 : wSt) (H : Heap) (locs : List Loc) (ls : Array Slot), wpX6_fewest_L22  post n x1 x2 z0 → va_P G.1 vwCl (wsM G h z0) H → va_D A (wsM G h z0) → va_S A s.heap H locs → lv_has ls 3 [(0, .ref (h 0)), (1, .int x1), (2, .int x2)] → W p l e R s m args below meth c H locs 0 0 Q (F0 m 22 ls []) := by
    intro n
    induction n with
    | zero => intro x1 x2 z0 H locs ls hw hP hD hS hl; exact False.elim hw
    | succ n I22 =>
      intro x1 x2 z0 H locs ls hw hP hD hS hl
      have hw : wpX6_fewest_22  (wpX6_fewest_L22  post n) post x1 x2 z0 := hw
      unfold wpX6_fewest_22 at hw
      refine lv_iload_n hx hb dX6_fewest_22 rfl (lv_at hl 2 rfl) ?_
      refine lv_iconst (v := (5 : Int32)) hx hb dX6_fewest_23 (by decide) ?_
      refine lv_icmp_gt (tgt := 48) hx hb dX6_fewest_24 (by decide) (fun hc => ?_) (fun hc => ?_)
      · have hw := And.left hw hc
        refine lv_bipush (v := (-4 : Int32)) hx hb dX6_fewest_48 (by decide) ?_
        exact hret _ _ _ _ _ _ hw hP hD hS dX6_fewest_50
      · have hw := And.right hw hc
        refine lv_aload_n hx hb dX6_fewest_27 rfl (lv_at hl 0 rfl) ?_
        refine lv_iload_n hx hb dX6_fewest_28 rfl (lv_at hl 2 rfl) ?_
        refine lv_aload_n hx hb dX6_fewest_29 rfl (lv_at hl 0 rfl) ?_
        refine rg_M_X6_0_6 hC hK hP dX6_fewest_30 ?_
        refine xc_wi (wsz := fun q => (wsM G h q)) (f := fun u => u) (xr_V hC (cX6_findMost_c (h := h) hw) ⟨rfl, rfl⟩ bw_834 calX6_findMost ⟨Nat.le_trans (Nat.le_of_ble_eq_true rfl) hF, Nat.le_trans (Nat.le_of_ble_eq_true rfl) hL⟩ (rest := []) (xpV hK (cut_all_M) hP hD rfl rfl) rfl hl rfl (Nat.le_of_ble_eq_true rfl) dX6_fewest_33 ⟨Nat.zero_le _, Nat.zero_le _⟩) (cut_all_M) hP hD hS hA (fun r1 u z1 H locs hz1 hw hP hD hS => ?_)
        have hw := hw z1 hz1
        refine lv_iload_n hx hb dX6_fewest_36 rfl (lv_at hl 1 rfl) ?_
        refine lv_icmp_lt (tgt := 42) hx hb dX6_fewest_37 (by decide) (fun hc => ?_) (fun hc => ?_)
        · have hw := And.left hw hc
          refine lv_iinc (v := (x2 + (1 : Int32))) (lv' := [(2, .int (x2 + (1 : Int32))), (0, .ref (h 0)), (1, .int x1)]) hx hb dX6_fewest_42 hl (k := 2) rfl rfl (by decide) rfl (fun ls hl => ?_)
          refine lv_goto (tgt := 22) hx hb dX6_fewest_45 (by decide) ?_
          exact I22 x1 (x2 + (1 : Int32)) z1 _ _ _ hw hP hD hS (lv_sub hl [1, 2, 0] rfl)
        · have hw := And.right hw hc
          refine lv_iload_n hx hb dX6_fewest_40 rfl (lv_at hl 2 rfl) ?_
          exact hret _ _ _ _ _ _ hw hP hD hS dX6_fewest_41
  unfold wpX6_fewest at hw
  refine lv_iload_n hx hb dX6_fewest_0 rfl (lv_at hl 1 rfl) ?_
  refine lv_i2l (v := (x1.toInt64)) hx hb dX6_fewest_1 rfl ?_
  refine lv_lconst (v := (0 : Int64)) hx hb dX6_fewest_2 (by decide) ?_
  refine lv_ldc2 (v := (99 : Int64)) hx hb hC.2.2.2.1 (hC.2.2.2.2 _ bw_850) dX6_fewest_3 ?_
  refine vp_callSi (xro (xr_S hC (cX6_in_c hw) ⟨rfl, rfl⟩ bw_700 calX6_in ⟨Nat.le_trans (Nat.le_of_ble_eq_true rfl) hF, Nat.le_trans (Nat.le_of_ble_eq_true rfl) hL⟩ (rest := []) (xpS hK) rfl hl rfl (Nat.le_of_ble_eq_true rfl) dX6_fewest_6 ⟨Nat.zero_le _, Nat.zero_le _⟩)) (fun r1 hw => ?_)
  refine lv_if_ne (tgt := 14) hx hb dX6_fewest_9 (by decide) (fun hc => ?_) (fun hc => ?_)
  · have hw := And.left hw hc
    refine lv_iload_n hx hb dX6_fewest_14 rfl (lv_at hl 1 rfl) ?_
    refine lv_if_ne (tgt := 20) hx hb dX6_fewest_15 (by decide) (fun hc => ?_) (fun hc => ?_)
    · have hw := And.left hw hc
      refine lv_iconst (v := (1 : Int32)) hx hb dX6_fewest_20 (by decide) ?_
      refine lv_istore_n (lv' := [(2, .int (1 : Int32)), (0, .ref (h 0)), (1, .int x1)]) hx hb dX6_fewest_21 rfl hl (by decide) rfl (fun ls hl => ?_)
      obtain ⟨n22, hw⟩ := hw
      exact B22 n22 x1 (1 : Int32) z0 _ _ _ hw hP hD hS (lv_sub hl [1, 2, 0] rfl)
    · have hw := And.right hw hc
      refine lv_iconst (v := (0 : Int32)) hx hb dX6_fewest_18 (by decide) ?_
      exact hret _ _ _ _ _ _ hw hP hD hS dX6_fewest_19
  · have hw := And.right hw hc
    refine lv_iconst (v := (-1 : Int32)) hx hb dX6_fewest_12 (by decide) ?_
    exact hret _ _ _ _ _ _ hw hP hD hS dX6_fewest_13
def wpX6_peace_127 (k15 : Int32 → Int32 → Int32 → (wSt) → Prop) (post : Int32 → (wSt) → Prop) (x1 : Int32) (x2 : Int32) (x3 : Int32) (z0 : wSt) : Prop := (k15 x1 x2 (x3 + (1 : Int32)) z0)
def wpX6_peace_126 (k15 : Int32 → Int32 → Int32 → (wSt) → Prop) (post : Int32 → (wSt) → Prop) (x2 : Int32) (x3 : Int32) (t0 : Int32) (z0 : wSt) : Prop := (wpX6_peace_127 k15 post t0 x2 x3 z0)
def wpX6_peace_113 (k15 : Int32 → Int32 → Int32 → (wSt) → Prop) (post : Int32 → (wSt) → Prop) (x1 : Int32) (x3 : Int32) (x6 : Int32) (t0 : Int32) (z0 : wSt) : Prop := ((x6 ≤ x1 → (wpX6_peace_126 k15 post t0 x3 x1 z0)) ∧ (¬ x6 ≤ x1 → (wpX6_peace_126 k15 post t0 x3 x6 z0)))
def wpX6_peace_15 (k15 : Int32 → Int32 → Int32 → (wSt) → Prop) (post : Int32 → (wSt) → Prop) (x1 : Int32) (x2 : Int32) (x3 : Int32) (z0 : wSt) : Prop := ((((w_i z0 5) * (w_i z0 5)) ≤ x3 → (post x2 z0)) ∧ (¬ ((w_i z0 5) * (w_i z0 5)) ≤ x3 → (¬ (w_i z0 5) = 0 ∧ (¬ (w_i z0 5) = 0 ∧ (((x3 - x3 / (w_i z0 5) * (w_i z0 5)) ≤ (x3 / (w_i z0 5)) → (wpX6_peace_127 k15 post x1 x2 x3 z0)) ∧ (¬ (x3 - x3 / (w_i z0 5) * (w_i z0 5)) ≤ (x3 / (w_i z0 5)) → (vp_in (x3 / (w_i z0 5)) 6 ∧ (wpX6_has ((w_a z0 3) (x3 / (w_i z0 5)).toNatClampNeg) (x3 - x3 / (w_i z0 5) * (w_i z0 5)) (fun r1 => ((r1 = 0 → (wpX6_peace_127 k15 post x1 x2 x3 z0)) ∧ (¬ r1 = 0 → (wpX6_setQuarrel (x3 / (w_i z0 5)) (x3 - x3 / (w_i z0 5) * (w_i z0 5)) (0 : Int32) z0 (fun u => ∀ z1 : wSt, z1 = u → (wpX6_findMost (4 : Int32) (w_i z1 6) z1 (fun r2 u => ∀ z2 : wSt, z2 = u → (wpX6_setQuarrel (x3 / (w_i z0 5)) (x3 - x3 / (w_i z0 5) * (w_i z0 5)) (1 : Int32) z2 (fun u => ∀ z3 : wSt, z3 = u → ((r2 ≤ x1 → (wpX6_peace_113 k15 post x1 x3 r2 x2 z3)) ∧ (¬ r2 ≤ x1 → (wpX6_peace_113 k15 post x1 x3 r2 (((10 : Int32) * (x3 / (w_i z0 5))) + (x3 - x3 / (w_i z0 5) * (w_i z0 5))) z3))))))))))))))))))))
def wpX6_peace_L15  (post : Int32 → (wSt) → Prop) : Nat → Int32 → Int32 → Int32 → (wSt) → Prop
  | 0 => fun _ _ _ _ => False
  | n + 1 => fun x1 x2 x3 z0 => wpX6_peace_15  (wpX6_peace_L15  post n) post x1 x2 x3 z0
def wpX6_peace (z0 : wSt) (post : Int32 → (wSt) → Prop) : Prop := (wpX6_findMost (4 : Int32) (w_i z0 6) z0 (fun r1 u => ∀ z1 : wSt, z1 = u → (∃ n, wpX6_peace_L15  post n r1 (-4 : Int32) (0 : Int32) z1)))
set_option maxHeartbeats 4000000 in
set_option maxRecDepth 100000 in
theorem cX6_peace_c {l : Launch} {G : wG} {h : Nat → Nat} {sz : Nat}  {post : Int32 → (wSt) → Prop} {z0 : wSt}  (hw : wpX6_peace z0 post) : Met l yX6_peace (.code yX6_peace cX6_peace 7 (some .int) :: BIG) { frames := 3, cells := 0, slots := 0, locals := 72 } (xPw G [.ref (h 0)] (wsM G h z0) sz) (xQi G post (fun q => (wsM G h q)) (va_A (wsM G h z0) sz)) 0 0 (va_A (wsM G h z0) sz) := by
  refine xm_wi (by decide) (Nat.le_of_ble_eq_true rfl) (fun p e s m args below meth c A ls R Q hC hK hA hP hD hS hl hF hL hret => ?_)
  have hx := hC.1
  have hb := hC.2.1
  have hl : lv_has ls 7 [(0, .ref (h 0))] := hl
  have B15 : ∀ n : Nat, ∀ (x1 : Int32) (x2 : Int32) (x3 : Int32) (z0 : wSt) (H : Heap) (locs : List Loc) (ls : Array Slot), wpX6_peace_L15  post n x1 x2 x3 z0 → va_P G.1 vwCl (wsM G h z0) H → va_D A (wsM G h z0) → va_S A s.heap H locs → lv_has ls 7 [(0, .ref (h 0)), (1, .int x1), (2, .int x2), (3, .int x3)] → W p l e R s m args below meth c H locs 0 0 Q (F0 m 15 ls []) := by
    intro n
    induction n with
    | zero => intro x1 x2 x3 z0 H locs ls hw hP hD hS hl; exact False.elim hw
    | succ n I15 =>
      have B127 : ∀ (x1 : Int32) (x2 : Int32) (x3 : Int32) (z0 : wSt) (H : Heap) (locs : List Loc) (ls : Array Slot), wpX6_peace_127 (wpX6_peace_L15  post n) post x1 x2 x3 z0 → va_P G.1 vwCl (wsM G h z0) H → va_D A (wsM G h z0) → va_S A s.heap H locs → lv_has ls 7 [(0, .ref (h 0)), (1, .int x1), (2, .int x2), (3, .int x3)] → W p l e R s m args below meth c H locs 0 0 Q (F0 m 127 ls []) := by
        intro x1 x2 x3 z0 H locs ls hw hP hD hS hl
        unfold wpX6_peace_127 at hw
        refine lv_iinc (v := (x3 + (1 : Int32))) (lv' := [(3, .int (x3 + (1 : Int32))), (0, .ref (h 0)), (1, .int x1), (2, .int x2)]) hx hb dX6_peace_127 hl (k := 3) rfl rfl (by decide) rfl (fun ls hl => ?_)
        refine lv_goto (tgt := 15) hx hb dX6_peace_130 (by decide) ?_
        exact I15 x1 x2 (x3 + (1 : Int32)) z0 _ _ _ hw hP hD hS (lv_sub hl [1, 2, 3, 0] rfl)
      have B126 : ∀ (x2 : Int32) (x3 : Int32) (t0 : Int32) (z0 : wSt) (H : Heap) (locs : List Loc) (ls : Array Slot), wpX6_peace_126 (wpX6_peace_L15  post n) post x2 x3 t0 z0 → va_P G.1 vwCl (wsM G h z0) H → va_D A (wsM G h z0) → va_S A s.heap H locs → lv_has ls 7 [(0, .ref (h 0)), (2, .int x2), (3, .int x3)] → W p l e R s m args below meth c H locs 0 0 Q (F0 m 126 ls [.int t0]) := by
        intro x2 x3 t0 z0 H locs ls hw hP hD hS hl
        unfold wpX6_peace_126 at hw
        refine lv_istore_n (lv' := [(1, .int t0), (0, .ref (h 0)), (2, .int x2), (3, .int x3)]) hx hb dX6_peace_126 rfl hl (by decide) rfl (fun ls hl => ?_)
        exact B127 t0 x2 x3 z0 _ _ _ hw hP hD hS (lv_sub hl [1, 0, 2, 3] rfl)
      have B113 : ∀ (x1 : Int32) (x3 : Int32) (x6 : Int32) (t0 : Int32) (z0 : wSt) (H : Heap) (locs : List Loc) (ls : Array Slot), wpX6_peace_113 (wpX6_peace_L15  post n) post x1 x3 x6 t0 z0 → va_P G.1 vwCl (wsM G h z0) H → va_D A (wsM G h z0) → va_S A s.heap H locs → lv_has ls 7 [(0, .ref (h 0)), (1, .int x1), (3, .int x3), (6, .int x6)] → W p l e R s m args below meth c H locs 0 0 Q (F0 m 113 ls [.int t0]) := by
        intro x1 x3 x6 t0 z0 H locs ls hw hP hD hS hl
        unfold wpX6_peace_113 at hw
        refine lv_istore_n (lv' := [(2, .int t0), (0, .ref (h 0)), (1, .int x1), (3, .int x3), (6, .int x6)]) hx hb dX6_peace_113 rfl hl (by decide) rfl (fun ls hl => ?_)
        refine lv_iload hx hb dX6_peace_114 (lv_at hl 4 rfl) ?_
        refine lv_iload_n hx hb dX6_peace_116 rfl (lv_at hl 2 rfl) ?_
        refine lv_icmp_le (tgt := 125) hx hb dX6_peace_117 (by decide) (fun hc => ?_) (fun hc => ?_)
        · have hw := And.left hw hc
          refine lv_iload_n hx hb dX6_peace_125 rfl (lv_at hl 2 rfl) ?_
          exact B126 t0 x3 x1 z0 _ _ _ hw hP hD hS (lv_sub hl [1, 0, 3] rfl)
        · have hw := And.right hw hc
          refine lv_iload hx hb dX6_peace_120 (lv_at hl 4 rfl) ?_
          refine lv_goto (tgt := 126) hx hb dX6_peace_122 (by decide) ?_
          exact B126 t0 x3 x6 z0 _ _ _ hw hP hD hS (lv_sub hl [1, 0, 3] rfl)
      intro x1 x2 x3 z0 H locs ls hw hP hD hS hl
      have hw : wpX6_peace_15  (wpX6_peace_L15  post n) post x1 x2 x3 z0 := hw
      unfold wpX6_peace_15 at hw
      refine lv_iload_n hx hb dX6_peace_15 rfl (lv_at hl 3 rfl) ?_
      refine lv_aload_n hx hb dX6_peace_16 rfl (lv_at hl 0 rfl) ?_
      refine rg_M_X6_0_5 hC hK hP dX6_peace_17 ?_
      refine lv_aload_n hx hb dX6_peace_20 rfl (lv_at hl 0 rfl) ?_
      refine rg_M_X6_0_5 hC hK hP dX6_peace_21 ?_
      refine lv_imul hx hb dX6_peace_24 ?_
      refine lv_icmp_ge (tgt := 133) hx hb dX6_peace_25 (by decide) (fun hc => ?_) (fun hc => ?_)
      · have hw := And.left hw hc
        refine lv_iload_n hx hb dX6_peace_133 rfl (lv_at hl 2 rfl) ?_
        exact hret _ _ _ _ _ _ hw hP hD hS dX6_peace_134
      · have hw := And.right hw hc
        refine lv_iload_n hx hb dX6_peace_28 rfl (lv_at hl 3 rfl) ?_
        refine lv_aload_n hx hb dX6_peace_29 rfl (lv_at hl 0 rfl) ?_
        refine rg_M_X6_0_5 hC hK hP dX6_peace_30 ?_
        refine lv_idiv hx hb dX6_peace_33 (And.left hw) ?_
        have hw := And.right hw
        refine lv_istore (lv' := [(4, .int (x3 / (w_i z0 5))), (0, .ref (h 0)), (1, .int x1), (2, .int x2), (3, .int x3)]) hx hb dX6_peace_34 hl (by decide) rfl (fun ls hl => ?_)
        refine lv_iload_n hx hb dX6_peace_36 rfl (lv_at hl 4 rfl) ?_
        refine lv_aload_n hx hb dX6_peace_37 rfl (lv_at hl 1 rfl) ?_
        refine rg_M_X6_0_5 hC hK hP dX6_peace_38 ?_
        refine lv_irem hx hb dX6_peace_41 (And.left hw) ?_
        have hw := And.right hw
        refine lv_istore (lv' := [(5, .int (x3 - x3 / (w_i z0 5) * (w_i z0 5))), (4, .int (x3 / (w_i z0 5))), (0, .ref (h 0)), (1, .int x1), (2, .int x2), (3, .int x3)]) hx hb dX6_peace_42 hl (by decide) rfl (fun ls hl => ?_)
        refine lv_iload hx hb dX6_peace_44 (lv_at hl 1 rfl) ?_
        refine lv_iload hx hb dX6_peace_46 (lv_at hl 0 rfl) ?_
        refine lv_icmp_ge (tgt := 127) hx hb dX6_peace_48 (by decide) (fun hc => ?_) (fun hc => ?_)
        · have hw := And.left hw hc
          exact B127 x1 x2 x3 z0 _ _ _ hw hP hD hS (lv_sub hl [2, 3, 4, 5] rfl)
        · have hw := And.right hw hc
          refine lv_aload_n hx hb dX6_peace_51 rfl (lv_at hl 2 rfl) ?_
          refine rg_M_X6_0_3 hC hK hP dX6_peace_52 ?_
          refine lv_iload hx hb dX6_peace_55 (lv_at hl 1 rfl) ?_
          refine rl_M_4 hC hK hP (And.left hw) dX6_peace_57 ?_
          have hw := And.right hw
          refine lv_iload hx hb dX6_peace_58 (lv_at hl 0 rfl) ?_
          refine vp_callSi (xro (xr_S hC (cX6_has_c hw) ⟨rfl, rfl⟩ bw_797 calX6_has ⟨Nat.le_trans (Nat.le_of_ble_eq_true rfl) hF, Nat.le_trans (Nat.le_of_ble_eq_true rfl) hL⟩ (rest := []) (xpS hK) rfl hl rfl (Nat.le_of_ble_eq_true rfl) dX6_peace_60 ⟨Nat.zero_le _, Nat.zero_le _⟩)) (fun r1 hw => ?_)
          refine lv_if_eq (tgt := 127) hx hb dX6_peace_63 (by decide) (fun hc => ?_) (fun hc => ?_)
          · have hw := And.left hw hc
            exact B127 x1 x2 x3 z0 _ _ _ hw hP hD hS (lv_sub hl [2, 3, 4, 5] rfl)
          · have hw := And.right hw hc
            refine lv_aload_n hx hb dX6_peace_66 rfl (lv_at hl 2 rfl) ?_
            refine lv_iload hx hb dX6_peace_67 (lv_at hl 1 rfl) ?_
            refine lv_iload hx hb dX6_peace_69 (lv_at hl 0 rfl) ?_
            refine lv_iconst (v := (0 : Int32)) hx hb dX6_peace_71 (by decide) ?_
            refine xc_wv (wsz := fun q => (wsM G h q)) (f := fun u => u) (xr_V hC (cX6_setQuarrel_c (h := h) hw) ⟨rfl, rfl⟩ bw_723 calX6_setQuarrel ⟨Nat.le_trans (Nat.le_of_ble_eq_true rfl) hF, Nat.le_trans (Nat.le_of_ble_eq_true rfl) hL⟩ (rest := []) (xpV hK (cut_all_M) hP hD rfl rfl) rfl hl rfl (Nat.le_of_ble_eq_true rfl) dX6_peace_72 ⟨Nat.zero_le _, Nat.zero_le _⟩) (cut_all_M) hP hD hS hA (fun u z1 H locs hz1 hw hP hD hS => ?_)
            have hw := hw z1 hz1
            refine lv_aload_n hx hb dX6_peace_75 rfl (lv_at hl 2 rfl) ?_
            refine lv_iconst (v := (4 : Int32)) hx hb dX6_peace_76 (by decide) ?_
            refine lv_aload_n hx hb dX6_peace_77 rfl (lv_at hl 2 rfl) ?_
            refine rg_M_X6_0_6 hC hK hP dX6_peace_78 ?_
            refine xc_wi (wsz := fun q => (wsM G h q)) (f := fun u => u) (xr_V hC (cX6_findMost_c (h := h) hw) ⟨rfl, rfl⟩ bw_834 calX6_findMost ⟨Nat.le_trans (Nat.le_of_ble_eq_true rfl) hF, Nat.le_trans (Nat.le_of_ble_eq_true rfl) hL⟩ (rest := []) (xpV hK (cut_all_M) hP hD rfl rfl) rfl hl rfl (Nat.le_of_ble_eq_true rfl) dX6_peace_81 ⟨Nat.zero_le _, Nat.zero_le _⟩) (cut_all_M) hP hD hS hA (fun r2 u z2 H locs hz1 hw hP hD hS => ?_)
            have hw := hw z2 hz1
            refine lv_istore (lv' := [(6, .int r2), (5, .int (x3 - x3 / (w_i z0 5) * (w_i z0 5))), (4, .int (x3 / (w_i z0 5))), (0, .ref (h 0)), (1, .int x1), (2, .int x2), (3, .int x3)]) hx hb dX6_peace_84 hl (by decide) rfl (fun ls hl => ?_)
            refine lv_aload_n hx hb dX6_peace_86 rfl (lv_at hl 3 rfl) ?_
            refine lv_iload hx hb dX6_peace_87 (lv_at hl 2 rfl) ?_
            refine lv_iload hx hb dX6_peace_89 (lv_at hl 1 rfl) ?_
            refine lv_iconst (v := (1 : Int32)) hx hb dX6_peace_91 (by decide) ?_
            refine xc_wv (wsz := fun q => (wsM G h q)) (f := fun u => u) (xr_V hC (cX6_setQuarrel_c (h := h) hw) ⟨rfl, rfl⟩ bw_723 calX6_setQuarrel ⟨Nat.le_trans (Nat.le_of_ble_eq_true rfl) hF, Nat.le_trans (Nat.le_of_ble_eq_true rfl) hL⟩ (rest := []) (xpV hK (cut_all_M) hP hD rfl rfl) rfl hl rfl (Nat.le_of_ble_eq_true rfl) dX6_peace_92 ⟨Nat.zero_le _, Nat.zero_le _⟩) (cut_all_M) hP hD hS hA (fun u z3 H locs hz1 hw hP hD hS => ?_)
            have hw := hw z3 hz1
            refine lv_iload hx hb dX6_peace_95 (lv_at hl 0 rfl) ?_
            refine lv_iload_n hx hb dX6_peace_97 rfl (lv_at hl 4 rfl) ?_
            refine lv_icmp_le (tgt := 112) hx hb dX6_peace_98 (by decide) (fun hc => ?_) (fun hc => ?_)
            · have hw := And.left hw hc
              refine lv_iload_n hx hb dX6_peace_112 rfl (lv_at hl 5 rfl) ?_
              exact B113 x1 x3 r2 x2 z3 _ _ _ hw hP hD hS (lv_sub hl [3, 4, 6, 0] rfl)
            · have hw := And.right hw hc
              refine lv_bipush (v := (10 : Int32)) hx hb dX6_peace_101 (by decide) ?_
              refine lv_iload hx hb dX6_peace_103 (lv_at hl 2 rfl) ?_
              refine lv_imul hx hb dX6_peace_105 ?_
              refine lv_iload hx hb dX6_peace_106 (lv_at hl 1 rfl) ?_
              refine lv_iadd hx hb dX6_peace_108 ?_
              refine lv_goto (tgt := 113) hx hb dX6_peace_109 (by decide) ?_
              exact B113 x1 x3 r2 (((10 : Int32) * (x3 / (w_i z0 5))) + (x3 - x3 / (w_i z0 5) * (w_i z0 5))) z3 _ _ _ hw hP hD hS (lv_sub hl [3, 4, 6, 0] rfl)
  unfold wpX6_peace at hw
  refine lv_aload_n hx hb dX6_peace_0 rfl (lv_at hl 0 rfl) ?_
  refine lv_iconst (v := (4 : Int32)) hx hb dX6_peace_1 (by decide) ?_
  refine lv_aload_n hx hb dX6_peace_2 rfl (lv_at hl 0 rfl) ?_
  refine rg_M_X6_0_6 hC hK hP dX6_peace_3 ?_
  refine xc_wi (wsz := fun q => (wsM G h q)) (f := fun u => u) (xr_V hC (cX6_findMost_c (h := h) hw) ⟨rfl, rfl⟩ bw_834 calX6_findMost ⟨Nat.le_trans (Nat.le_of_ble_eq_true rfl) hF, Nat.le_trans (Nat.le_of_ble_eq_true rfl) hL⟩ (rest := []) (xpV hK (cut_all_M) hP hD rfl rfl) rfl hl rfl (Nat.le_of_ble_eq_true rfl) dX6_peace_6 ⟨Nat.zero_le _, Nat.zero_le _⟩) (cut_all_M) hP hD hS hA (fun r1 u z1 H locs hz1 hw hP hD hS => ?_)
  have hw := hw z1 hz1
  refine lv_istore_n (lv' := [(1, .int r1), (0, .ref (h 0))]) hx hb dX6_peace_9 rfl hl (by decide) rfl (fun ls hl => ?_)
  refine lv_bipush (v := (-4 : Int32)) hx hb dX6_peace_10 (by decide) ?_
  refine lv_istore_n (lv' := [(2, .int (-4 : Int32)), (1, .int r1), (0, .ref (h 0))]) hx hb dX6_peace_12 rfl hl (by decide) rfl (fun ls hl => ?_)
  refine lv_iconst (v := (0 : Int32)) hx hb dX6_peace_13 (by decide) ?_
  refine lv_istore_n (lv' := [(3, .int (0 : Int32)), (2, .int (-4 : Int32)), (1, .int r1), (0, .ref (h 0))]) hx hb dX6_peace_14 rfl hl (by decide) rfl (fun ls hl => ?_)
  obtain ⟨n15, hw⟩ := hw
  exact B15 n15 r1 (-4 : Int32) (0 : Int32) z1 _ _ _ hw hP hD hS (lv_sub hl [3, 2, 1, 0] rfl)
def wpX6_other (x1 : Int32) (z0 : wSt) (post : Int32 → (wSt) → Prop) : Prop := (wpX6_in (x1.toInt64) (1 : Int64) (5 : Int64) (fun r1 => ((r1 = 0 → (post (-1 : Int32) z0)) ∧ (¬ r1 = 0 → (wpX6_findMost x1 (-(w_i z0 6)) z0 (fun r2 u => ∀ z1 : wSt, z1 = u → (post r2 z1)))))))
set_option maxHeartbeats 4000000 in
set_option maxRecDepth 100000 in
theorem cX6_other_c {l : Launch} {G : wG} {h : Nat → Nat} {sz : Nat} {x1 : Int32} {post : Int32 → (wSt) → Prop} {z0 : wSt}  (hw : wpX6_other x1 z0 post) : Met l yX6_other (.code yX6_other cX6_other 2 (some .int) :: BIG) { frames := 3, cells := 0, slots := 0, locals := 72 } (xPw G [.ref (h 0), .int x1] (wsM G h z0) sz) (xQi G post (fun q => (wsM G h q)) (va_A (wsM G h z0) sz)) 0 0 (va_A (wsM G h z0) sz) := by
  refine xm_wi (by decide) (Nat.le_of_ble_eq_true rfl) (fun p e s m args below meth c A ls R Q hC hK hA hP hD hS hl hF hL hret => ?_)
  have hx := hC.1
  have hb := hC.2.1
  have hl : lv_has ls 2 [(0, .ref (h 0)), (1, .int x1)] := hl
  unfold wpX6_other at hw
  refine lv_iload_n hx hb dX6_other_0 rfl (lv_at hl 1 rfl) ?_
  refine lv_i2l (v := (x1.toInt64)) hx hb dX6_other_1 rfl ?_
  refine lv_lconst (v := (1 : Int64)) hx hb dX6_other_2 (by decide) ?_
  refine lv_ldc2 (v := (5 : Int64)) hx hb hC.2.2.2.1 (hC.2.2.2.2 _ bw_833) dX6_other_3 ?_
  refine vp_callSi (xro (xr_S hC (cX6_in_c hw) ⟨rfl, rfl⟩ bw_700 calX6_in ⟨Nat.le_trans (Nat.le_of_ble_eq_true rfl) hF, Nat.le_trans (Nat.le_of_ble_eq_true rfl) hL⟩ (rest := []) (xpS hK) rfl hl rfl (Nat.le_of_ble_eq_true rfl) dX6_other_6 ⟨Nat.zero_le _, Nat.zero_le _⟩)) (fun r1 hw => ?_)
  refine lv_if_eq (tgt := 25) hx hb dX6_other_9 (by decide) (fun hc => ?_) (fun hc => ?_)
  · have hw := And.left hw hc
    refine lv_iconst (v := (-1 : Int32)) hx hb dX6_other_25 (by decide) ?_
    exact hret _ _ _ _ _ _ hw hP hD hS dX6_other_26
  · have hw := And.right hw hc
    refine lv_aload_n hx hb dX6_other_12 rfl (lv_at hl 0 rfl) ?_
    refine lv_iload_n hx hb dX6_other_13 rfl (lv_at hl 1 rfl) ?_
    refine lv_aload_n hx hb dX6_other_14 rfl (lv_at hl 0 rfl) ?_
    refine rg_M_X6_0_6 hC hK hP dX6_other_15 ?_
    refine lv_ineg hx hb dX6_other_18 ?_
    refine xc_wi (wsz := fun q => (wsM G h q)) (f := fun u => u) (xr_V hC (cX6_findMost_c (h := h) hw) ⟨rfl, rfl⟩ bw_834 calX6_findMost ⟨Nat.le_trans (Nat.le_of_ble_eq_true rfl) hF, Nat.le_trans (Nat.le_of_ble_eq_true rfl) hL⟩ (rest := []) (xpV hK (cut_all_M) hP hD rfl rfl) rfl hl rfl (Nat.le_of_ble_eq_true rfl) dX6_other_19 ⟨Nat.zero_le _, Nat.zero_le _⟩) (cut_all_M) hP hD hS hA (fun r2 u z1 H locs hz1 hw hP hD hS => ?_)
    have hw := hw z1 hz1
    refine lv_goto (tgt := 26) hx hb dX6_other_22 (by decide) ?_
    exact hret _ _ _ _ _ _ hw hP hD hS dX6_other_26
def wpX6_givesOf_46  (z0 : wSt) (post : Int32 → Prop) (t0 : Int32) (t1 : Int32) : Prop := (post (t1 + t0))
def wpX6_givesOf_27  (z0 : wSt) (post : Int32 → Prop) (x1 : Int32) (x2 : Int32) (t0 : Int32) : Prop := (vp_in x1 6 ∧ (wpX6_isSweet ((w_a z0 0) x1.toNatClampNeg) x2 (fun r1 => ((r1 = 0 → (wpX6_givesOf_46  z0 post (10 : Int32) t0)) ∧ (¬ r1 = 0 → (wpX6_givesOf_46  z0 post (0 : Int32) t0))))))
def wpX6_givesOf (x1 : Int32) (x2 : Int32) (z0 : wSt) (post : Int32 → Prop) : Prop := (vp_in x1 6 ∧ (wpX6_pailsOf ((w_a z0 0) x1.toNatClampNeg) x2 (fun r1 => (((w_i z0 7) ≤ r1 → (wpX6_givesOf_27  z0 post x1 x2 (w_i z0 7))) ∧ (¬ (w_i z0 7) ≤ r1 → (wpX6_givesOf_27  z0 post x1 x2 r1))))))
set_option maxHeartbeats 4000000 in
set_option maxRecDepth 100000 in
theorem cX6_givesOf_c {l : Launch} {G : wG} {h : Nat → Nat} {x1 : Int32} {x2 : Int32} {post : Int32 → Prop} {z0 : wSt}  (hw : wpX6_givesOf x1 x2 z0 post) : Met l yX6_givesOf (.code yX6_givesOf cX6_givesOf 4 (some .int) :: BIG) { frames := 1, cells := 0, slots := 0, locals := 22 } (xPr G [.ref (h 0), .int x1, .int x2] (wsM G h z0)) (vp_Si post) 0 0 (fun _ => False) := by
  refine xm_ri (by decide) (Nat.le_of_ble_eq_true rfl) (fun p e s m args below meth c ls R Q hC hK hP hl hF hL hret => ?_)
  have hx := hC.1
  have hb := hC.2.1
  have hl : lv_has ls 4 [(0, .ref (h 0)), (1, .int x1), (2, .int x2)] := hl
  have B46 : ∀ (t0 : Int32) (t1 : Int32) (ls : Array Slot), wpX6_givesOf_46  z0 post t0 t1 → lv_has ls 4 [] → W p l e R s m args below meth c s.heap [] 0 0 Q (F0 m 46 ls [.int t0, .int t1]) := by
    intro t0 t1 ls hw hl
    unfold wpX6_givesOf_46 at hw
    refine lv_iadd hx hb dX6_givesOf_46 ?_
    exact hret _ _ _ hw dX6_givesOf_47
  have B27 : ∀ (x1 : Int32) (x2 : Int32) (t0 : Int32) (ls : Array Slot), wpX6_givesOf_27  z0 post x1 x2 t0 → lv_has ls 4 [(0, .ref (h 0)), (1, .int x1), (2, .int x2)] → W p l e R s m args below meth c s.heap [] 0 0 Q (F0 m 27 ls [.int t0]) := by
    intro x1 x2 t0 ls hw hl
    unfold wpX6_givesOf_27 at hw
    refine lv_aload_n hx hb dX6_givesOf_27 rfl (lv_at hl 0 rfl) ?_
    refine rg_M_X6_0_0 hC hK hP dX6_givesOf_28 ?_
    refine lv_iload_n hx hb dX6_givesOf_31 rfl (lv_at hl 1 rfl) ?_
    refine rl_M_1 hC hK hP (And.left hw) dX6_givesOf_32 ?_
    have hw := And.right hw
    refine lv_iload_n hx hb dX6_givesOf_33 rfl (lv_at hl 2 rfl) ?_
    refine vp_callSi (xro (xr_S hC (cX6_isSweet_c hw) ⟨rfl, rfl⟩ bw_803 calX6_isSweet ⟨Nat.le_trans (Nat.le_of_ble_eq_true rfl) hF, Nat.le_trans (Nat.le_of_ble_eq_true rfl) hL⟩ (rest := [.int t0]) (xpS hK) rfl hl rfl (Nat.le_of_ble_eq_true rfl) dX6_givesOf_34 ⟨Nat.zero_le _, Nat.zero_le _⟩)) (fun r1 hw => ?_)
    refine lv_if_eq (tgt := 44) hx hb dX6_givesOf_37 (by decide) (fun hc => ?_) (fun hc => ?_)
    · have hw := And.left hw hc
      refine lv_bipush (v := (10 : Int32)) hx hb dX6_givesOf_44 (by decide) ?_
      exact B46 (10 : Int32) t0 _ hw (lv_sub hl [] rfl)
    · have hw := And.right hw hc
      refine lv_iconst (v := (0 : Int32)) hx hb dX6_givesOf_40 (by decide) ?_
      refine lv_goto (tgt := 46) hx hb dX6_givesOf_41 (by decide) ?_
      exact B46 (0 : Int32) t0 _ hw (lv_sub hl [] rfl)
  unfold wpX6_givesOf at hw
  refine lv_aload_n hx hb dX6_givesOf_0 rfl (lv_at hl 0 rfl) ?_
  refine rg_M_X6_0_0 hC hK hP dX6_givesOf_1 ?_
  refine lv_iload_n hx hb dX6_givesOf_4 rfl (lv_at hl 1 rfl) ?_
  refine rl_M_1 hC hK hP (And.left hw) dX6_givesOf_5 ?_
  have hw := And.right hw
  refine lv_iload_n hx hb dX6_givesOf_6 rfl (lv_at hl 2 rfl) ?_
  refine vp_callSi (xro (xr_S hC (cX6_pailsOf_c hw) ⟨rfl, rfl⟩ bw_800 calX6_pailsOf ⟨Nat.le_trans (Nat.le_of_ble_eq_true rfl) hF, Nat.le_trans (Nat.le_of_ble_eq_true rfl) hL⟩ (rest := []) (xpS hK) rfl hl rfl (Nat.le_of_ble_eq_true rfl) dX6_givesOf_7 ⟨Nat.zero_le _, Nat.zero_le _⟩)) (fun r1 hw => ?_)
  refine lv_istore_n (lv' := [(3, .int r1), (0, .ref (h 0)), (1, .int x1), (2, .int x2)]) hx hb dX6_givesOf_10 rfl hl (by decide) rfl (fun ls hl => ?_)
  refine lv_iload_n hx hb dX6_givesOf_11 rfl (lv_at hl 0 rfl) ?_
  refine lv_aload_n hx hb dX6_givesOf_12 rfl (lv_at hl 1 rfl) ?_
  refine rg_M_X6_0_7 hC hK hP dX6_givesOf_13 ?_
  refine lv_icmp_ge (tgt := 23) hx hb dX6_givesOf_16 (by decide) (fun hc => ?_) (fun hc => ?_)
  · have hw := And.left hw hc
    refine lv_aload_n hx hb dX6_givesOf_23 rfl (lv_at hl 1 rfl) ?_
    refine rg_M_X6_0_7 hC hK hP dX6_givesOf_24 ?_
    exact B27 x1 x2 (w_i z0 7) _ hw (lv_sub hl [1, 2, 3] rfl)
  · have hw := And.right hw hc
    refine lv_iload_n hx hb dX6_givesOf_19 rfl (lv_at hl 0 rfl) ?_
    refine lv_goto (tgt := 27) hx hb dX6_givesOf_20 (by decide) ?_
    exact B27 x1 x2 r1 _ hw (lv_sub hl [1, 2, 3] rfl)
def wpX6_gives (x1 : Int32) (x2 : Int32) (z0 : wSt) (post : Int32 → Prop) : Prop := (wpX6_isOne x1 z0 (fun r1 => ((r1 = 0 → (post (-1 : Int32))) ∧ (¬ r1 = 0 → (wpX6_isMood x2 (fun r2 => ((r2 = 0 → (post (-1 : Int32))) ∧ (¬ r2 = 0 → (wpX6_givesOf x1 x2 z0 (fun r3 => (post r3)))))))))))
set_option maxHeartbeats 4000000 in
set_option maxRecDepth 100000 in
theorem cX6_gives_c {l : Launch} {G : wG} {h : Nat → Nat} {x1 : Int32} {x2 : Int32} {post : Int32 → Prop} {z0 : wSt}  (hw : wpX6_gives x1 x2 z0 post) : Met l yX6_gives (.code yX6_gives cX6_gives 3 (some .int) :: BIG) { frames := 2, cells := 0, slots := 0, locals := 46 } (xPr G [.ref (h 0), .int x1, .int x2] (wsM G h z0)) (vp_Si post) 0 0 (fun _ => False) := by
  refine xm_ri (by decide) (Nat.le_of_ble_eq_true rfl) (fun p e s m args below meth c ls R Q hC hK hP hl hF hL hret => ?_)
  have hx := hC.1
  have hb := hC.2.1
  have hl : lv_has ls 3 [(0, .ref (h 0)), (1, .int x1), (2, .int x2)] := hl
  unfold wpX6_gives at hw
  refine lv_aload_n hx hb dX6_gives_0 rfl (lv_at hl 0 rfl) ?_
  refine lv_iload_n hx hb dX6_gives_1 rfl (lv_at hl 1 rfl) ?_
  refine vp_callSi (xro (xr_V hC (cX6_isOne_c (h := h) hw) ⟨rfl, rfl⟩ bw_713 calX6_isOne ⟨Nat.le_trans (Nat.le_of_ble_eq_true rfl) hF, Nat.le_trans (Nat.le_of_ble_eq_true rfl) hL⟩ (rest := []) (xpR hK hP rfl rfl) rfl hl rfl (Nat.le_of_ble_eq_true rfl) dX6_gives_2 ⟨Nat.zero_le _, Nat.zero_le _⟩)) (fun r1 hw => ?_)
  refine lv_if_eq (tgt := 24) hx hb dX6_gives_5 (by decide) (fun hc => ?_) (fun hc => ?_)
  · have hw := And.left hw hc
    refine lv_iconst (v := (-1 : Int32)) hx hb dX6_gives_24 (by decide) ?_
    exact hret _ _ _ hw dX6_gives_25
  · have hw := And.right hw hc
    refine lv_iload_n hx hb dX6_gives_8 rfl (lv_at hl 2 rfl) ?_
    refine vp_callSi (xro (xr_S hC (cX6_isMood_c hw) ⟨rfl, rfl⟩ bw_732 calX6_isMood ⟨Nat.le_trans (Nat.le_of_ble_eq_true rfl) hF, Nat.le_trans (Nat.le_of_ble_eq_true rfl) hL⟩ (rest := []) (xpS hK) rfl hl rfl (Nat.le_of_ble_eq_true rfl) dX6_gives_9 ⟨Nat.zero_le _, Nat.zero_le _⟩)) (fun r2 hw => ?_)
    refine lv_if_eq (tgt := 24) hx hb dX6_gives_12 (by decide) (fun hc => ?_) (fun hc => ?_)
    · have hw := And.left hw hc
      refine lv_iconst (v := (-1 : Int32)) hx hb dX6_gives_24 (by decide) ?_
      exact hret _ _ _ hw dX6_gives_25
    · have hw := And.right hw hc
      refine lv_aload_n hx hb dX6_gives_15 rfl (lv_at hl 0 rfl) ?_
      refine lv_iload_n hx hb dX6_gives_16 rfl (lv_at hl 1 rfl) ?_
      refine lv_iload_n hx hb dX6_gives_17 rfl (lv_at hl 2 rfl) ?_
      refine vp_callSi (xro (xr_V hC (cX6_givesOf_c (h := h) hw) ⟨rfl, rfl⟩ bw_863 calX6_givesOf ⟨Nat.le_trans (Nat.le_of_ble_eq_true rfl) hF, Nat.le_trans (Nat.le_of_ble_eq_true rfl) hL⟩ (rest := []) (xpR hK hP rfl rfl) rfl hl rfl (Nat.le_of_ble_eq_true rfl) dX6_gives_18 ⟨Nat.zero_le _, Nat.zero_le _⟩)) (fun r3 hw => ?_)
      refine lv_goto (tgt := 25) hx hb dX6_gives_21 (by decide) ?_
      exact hret _ _ _ hw dX6_gives_25
def wpX6_stranger_77 (k36 : Int32 → Int32 → Int32 → Int32 → Int32 → Prop) (z0 : wSt) (post : Int32 → Prop) (x1 : Int32) (x2 : Int32) (x3 : Int32) (x5 : Int32) (t0 : Int32) (t1 : Int32) : Prop := (k36 x1 x2 x3 (t1 ||| t0) (x5 + (1 : Int32)))
def wpX6_stranger_36 (k36 : Int32 → Int32 → Int32 → Int32 → Int32 → Prop) (z0 : wSt) (post : Int32 → Prop) (x1 : Int32) (x2 : Int32) (x3 : Int32) (x4 : Int32) (x5 : Int32) : Prop := (((4 : Int32) ≤ x5 → (post x4)) ∧ (¬ (4 : Int32) ≤ x5 → (vp_in x2 6 ∧ (wpX6_most9 (x1 + x5) (fun r1 => (wpX6_wane r1 (fun r2 => (wpX6_pailsOf ((w_a z0 0) x2.toNatClampNeg) r2 (fun r3 => ((¬ r3 = x3 → (wpX6_stranger_77 k36 z0 post x1 x2 x3 x5 (0 : Int32) x4)) ∧ (r3 = x3 → (wpX6_stranger_77 k36 z0 post x1 x2 x3 x5 ((1 : Int32) <<< ((x5 + (3 : Int32)) &&& 31)) x4))))))))))))
def wpX6_stranger_L36  (z0 : wSt) (post : Int32 → Prop) : Nat → Int32 → Int32 → Int32 → Int32 → Int32 → Prop
  | 0 => fun _ _ _ _ _ => False
  | n + 1 => fun x1 x2 x3 x4 x5 => wpX6_stranger_36  (wpX6_stranger_L36  z0 post n) z0 post x1 x2 x3 x4 x5
def wpX6_stranger (x1 : Int32) (x2 : Int32) (x3 : Int32) (z0 : wSt) (post : Int32 → Prop) : Prop := (wpX6_isMood x1 (fun r1 => ((r1 = 0 → (post (-1 : Int32))) ∧ (¬ r1 = 0 → (wpX6_isOne x2 z0 (fun r2 => ((r2 = 0 → (post (-1 : Int32))) ∧ (¬ r2 = 0 → (wpX6_in (x3.toInt64) (0 : Int64) (9 : Int64) (fun r3 => ((¬ r3 = 0 → (∃ n, wpX6_stranger_L36  z0 post n x1 x2 x3 (0 : Int32) (-3 : Int32))) ∧ (r3 = 0 → (post (-1 : Int32))))))))))))))
set_option maxHeartbeats 4000000 in
set_option maxRecDepth 100000 in
theorem cX6_stranger_c {l : Launch} {G : wG} {h : Nat → Nat} {x1 : Int32} {x2 : Int32} {x3 : Int32} {post : Int32 → Prop} {z0 : wSt}  (hw : wpX6_stranger x1 x2 x3 z0 post) : Met l yX6_stranger (.code yX6_stranger cX6_stranger 6 (some .int) :: BIG) { frames := 2, cells := 0, slots := 0, locals := 46 } (xPr G [.ref (h 0), .int x1, .int x2, .int x3] (wsM G h z0)) (vp_Si post) 0 0 (fun _ => False) := by
  refine xm_ri (by decide) (Nat.le_of_ble_eq_true rfl) (fun p e s m args below meth c ls R Q hC hK hP hl hF hL hret => ?_)
  have hx := hC.1
  have hb := hC.2.1
  have hl : lv_has ls 6 [(0, .ref (h 0)), (1, .int x1), (2, .int x2), (3, .int x3)] := hl
  have B36 : ∀ n : Nat, ∀ (x1 : Int32) (x2 : Int32) (x3 : Int32) (x4 : Int32) (x5 : Int32) (ls : Array Slot), wpX6_stranger_L36  z0 post n x1 x2 x3 x4 x5 → lv_has ls 6 [(0, .ref (h 0)), (1, .int x1), (2, .int x2), (3, .int x3), (4, .int x4), (5, .int x5)] → W p l e R s m args below meth c s.heap [] 0 0 Q (F0 m 36 ls []) := by
    intro n
    induction n with
    | zero => intro x1 x2 x3 x4 x5 ls hw hl; exact False.elim hw
    | succ n I36 =>
      have B77 : ∀ (x1 : Int32) (x2 : Int32) (x3 : Int32) (x5 : Int32) (t0 : Int32) (t1 : Int32) (ls : Array Slot), wpX6_stranger_77 (wpX6_stranger_L36  z0 post n) z0 post x1 x2 x3 x5 t0 t1 → lv_has ls 6 [(0, .ref (h 0)), (1, .int x1), (2, .int x2), (3, .int x3), (5, .int x5)] → W p l e R s m args below meth c s.heap [] 0 0 Q (F0 m 77 ls [.int t0, .int t1]) := by
        intro x1 x2 x3 x5 t0 t1 ls hw hl
        unfold wpX6_stranger_77 at hw
        refine lv_ior hx hb dX6_stranger_77 ?_
        refine lv_istore (lv' := [(4, .int (t1 ||| t0)), (0, .ref (h 0)), (1, .int x1), (2, .int x2), (3, .int x3), (5, .int x5)]) hx hb dX6_stranger_78 hl (by decide) rfl (fun ls hl => ?_)
        refine lv_iinc (v := (x5 + (1 : Int32))) (lv' := [(5, .int (x5 + (1 : Int32))), (4, .int (t1 ||| t0)), (0, .ref (h 0)), (1, .int x1), (2, .int x2), (3, .int x3)]) hx hb dX6_stranger_80 hl (k := 5) rfl rfl (by decide) rfl (fun ls hl => ?_)
        refine lv_goto (tgt := 36) hx hb dX6_stranger_83 (by decide) ?_
        exact I36 x1 x2 x3 (t1 ||| t0) (x5 + (1 : Int32)) _ hw (lv_sub hl [2, 3, 4, 5, 1, 0] rfl)
      intro x1 x2 x3 x4 x5 ls hw hl
      have hw : wpX6_stranger_36  (wpX6_stranger_L36  z0 post n) z0 post x1 x2 x3 x4 x5 := hw
      unfold wpX6_stranger_36 at hw
      refine lv_iload hx hb dX6_stranger_36 (lv_at hl 5 rfl) ?_
      refine lv_iconst (v := (4 : Int32)) hx hb dX6_stranger_38 (by decide) ?_
      refine lv_icmp_ge (tgt := 86) hx hb dX6_stranger_39 (by decide) (fun hc => ?_) (fun hc => ?_)
      · have hw := And.left hw hc
        refine lv_iload hx hb dX6_stranger_86 (lv_at hl 4 rfl) ?_
        exact hret _ _ _ hw dX6_stranger_88
      · have hw := And.right hw hc
        refine lv_iload hx hb dX6_stranger_42 (lv_at hl 4 rfl) ?_
        refine lv_aload_n hx hb dX6_stranger_44 rfl (lv_at hl 0 rfl) ?_
        refine rg_M_X6_0_0 hC hK hP dX6_stranger_45 ?_
        refine lv_iload_n hx hb dX6_stranger_48 rfl (lv_at hl 2 rfl) ?_
        refine rl_M_1 hC hK hP (And.left hw) dX6_stranger_49 ?_
        have hw := And.right hw
        refine lv_iload_n hx hb dX6_stranger_50 rfl (lv_at hl 1 rfl) ?_
        refine lv_iload hx hb dX6_stranger_51 (lv_at hl 5 rfl) ?_
        refine lv_iadd hx hb dX6_stranger_53 ?_
        refine vp_callSi (xro (xr_S hC (cX6_most9_c hw) ⟨rfl, rfl⟩ bw_810 calX6_most9 ⟨Nat.le_trans (Nat.le_of_ble_eq_true rfl) hF, Nat.le_trans (Nat.le_of_ble_eq_true rfl) hL⟩ (rest := [.int ((w_a z0 0) x2.toNatClampNeg), .int x4]) (xpS hK) rfl hl rfl (Nat.le_of_ble_eq_true rfl) dX6_stranger_54 ⟨Nat.zero_le _, Nat.zero_le _⟩)) (fun r1 hw => ?_)
        refine vp_callSi (xro (xr_S hC (cX6_wane_c hw) ⟨rfl, rfl⟩ bw_813 calX6_wane ⟨Nat.le_trans (Nat.le_of_ble_eq_true rfl) hF, Nat.le_trans (Nat.le_of_ble_eq_true rfl) hL⟩ (rest := [.int ((w_a z0 0) x2.toNatClampNeg), .int x4]) (xpS hK) rfl hl rfl (Nat.le_of_ble_eq_true rfl) dX6_stranger_57 ⟨Nat.zero_le _, Nat.zero_le _⟩)) (fun r2 hw => ?_)
        refine vp_callSi (xro (xr_S hC (cX6_pailsOf_c hw) ⟨rfl, rfl⟩ bw_800 calX6_pailsOf ⟨Nat.le_trans (Nat.le_of_ble_eq_true rfl) hF, Nat.le_trans (Nat.le_of_ble_eq_true rfl) hL⟩ (rest := [.int x4]) (xpS hK) rfl hl rfl (Nat.le_of_ble_eq_true rfl) dX6_stranger_60 ⟨Nat.zero_le _, Nat.zero_le _⟩)) (fun r3 hw => ?_)
        refine lv_iload_n hx hb dX6_stranger_63 rfl (lv_at hl 3 rfl) ?_
        refine lv_icmp_ne (tgt := 76) hx hb dX6_stranger_64 (by decide) (fun hc => ?_) (fun hc => ?_)
        · have hw := And.left hw hc
          refine lv_iconst (v := (0 : Int32)) hx hb dX6_stranger_76 (by decide) ?_
          exact B77 x1 x2 x3 x5 (0 : Int32) x4 _ hw (lv_sub hl [0, 1, 2, 3, 5] rfl)
        · have hw := And.right hw hc
          refine lv_iconst (v := (1 : Int32)) hx hb dX6_stranger_67 (by decide) ?_
          refine lv_iload hx hb dX6_stranger_68 (lv_at hl 5 rfl) ?_
          refine lv_iconst (v := (3 : Int32)) hx hb dX6_stranger_70 (by decide) ?_
          refine lv_iadd hx hb dX6_stranger_71 ?_
          refine lv_ishl hx hb dX6_stranger_72 ?_
          refine lv_goto (tgt := 77) hx hb dX6_stranger_73 (by decide) ?_
          exact B77 x1 x2 x3 x5 ((1 : Int32) <<< ((x5 + (3 : Int32)) &&& 31)) x4 _ hw (lv_sub hl [0, 1, 2, 3, 5] rfl)
  unfold wpX6_stranger at hw
  refine lv_iload_n hx hb dX6_stranger_0 rfl (lv_at hl 1 rfl) ?_
  refine vp_callSi (xro (xr_S hC (cX6_isMood_c hw) ⟨rfl, rfl⟩ bw_732 calX6_isMood ⟨Nat.le_trans (Nat.le_of_ble_eq_true rfl) hF, Nat.le_trans (Nat.le_of_ble_eq_true rfl) hL⟩ (rest := []) (xpS hK) rfl hl rfl (Nat.le_of_ble_eq_true rfl) dX6_stranger_1 ⟨Nat.zero_le _, Nat.zero_le _⟩)) (fun r1 hw => ?_)
  refine lv_if_eq (tgt := 27) hx hb dX6_stranger_4 (by decide) (fun hc => ?_) (fun hc => ?_)
  · have hw := And.left hw hc
    refine lv_iconst (v := (-1 : Int32)) hx hb dX6_stranger_27 (by decide) ?_
    exact hret _ _ _ hw dX6_stranger_28
  · have hw := And.right hw hc
    refine lv_aload_n hx hb dX6_stranger_7 rfl (lv_at hl 0 rfl) ?_
    refine lv_iload_n hx hb dX6_stranger_8 rfl (lv_at hl 2 rfl) ?_
    refine vp_callSi (xro (xr_V hC (cX6_isOne_c (h := h) hw) ⟨rfl, rfl⟩ bw_713 calX6_isOne ⟨Nat.le_trans (Nat.le_of_ble_eq_true rfl) hF, Nat.le_trans (Nat.le_of_ble_eq_true rfl) hL⟩ (rest := []) (xpR hK hP rfl rfl) rfl hl rfl (Nat.le_of_ble_eq_true rfl) dX6_stranger_9 ⟨Nat.zero_le _, Nat.zero_le _⟩)) (fun r2 hw => ?_)
    refine lv_if_eq (tgt := 27) hx hb dX6_stranger_12 (by decide) (fun hc => ?_) (fun hc => ?_)
    · have hw := And.left hw hc
      refine lv_iconst (v := (-1 : Int32)) hx hb dX6_stranger_27 (by decide) ?_
      exact hret _ _ _ hw dX6_stranger_28
    · have hw := And.right hw hc
      refine lv_iload_n hx hb dX6_stranger_15 rfl (lv_at hl 3 rfl) ?_
      refine lv_i2l (v := (x3.toInt64)) hx hb dX6_stranger_16 rfl ?_
      refine lv_lconst (v := (0 : Int64)) hx hb dX6_stranger_17 (by decide) ?_
      refine lv_ldc2 (v := (9 : Int64)) hx hb hC.2.2.2.1 (hC.2.2.2.2 _ bw_704) dX6_stranger_18 ?_
      refine vp_callSi (xro (xr_S hC (cX6_in_c hw) ⟨rfl, rfl⟩ bw_700 calX6_in ⟨Nat.le_trans (Nat.le_of_ble_eq_true rfl) hF, Nat.le_trans (Nat.le_of_ble_eq_true rfl) hL⟩ (rest := []) (xpS hK) rfl hl rfl (Nat.le_of_ble_eq_true rfl) dX6_stranger_21 ⟨Nat.zero_le _, Nat.zero_le _⟩)) (fun r3 hw => ?_)
      refine lv_if_ne (tgt := 29) hx hb dX6_stranger_24 (by decide) (fun hc => ?_) (fun hc => ?_)
      · have hw := And.left hw hc
        refine lv_iconst (v := (0 : Int32)) hx hb dX6_stranger_29 (by decide) ?_
        refine lv_istore (lv' := [(4, .int (0 : Int32)), (0, .ref (h 0)), (1, .int x1), (2, .int x2), (3, .int x3)]) hx hb dX6_stranger_30 hl (by decide) rfl (fun ls hl => ?_)
        refine lv_bipush (v := (-3 : Int32)) hx hb dX6_stranger_32 (by decide) ?_
        refine lv_istore (lv' := [(5, .int (-3 : Int32)), (4, .int (0 : Int32)), (0, .ref (h 0)), (1, .int x1), (2, .int x2), (3, .int x3)]) hx hb dX6_stranger_34 hl (by decide) rfl (fun ls hl => ?_)
        obtain ⟨n36, hw⟩ := hw
        exact B36 n36 x1 x2 x3 (0 : Int32) (-3 : Int32) _ hw (lv_sub hl [2, 3, 4, 5, 1, 0] rfl)
      · have hw := And.right hw hc
        refine lv_iconst (v := (-1 : Int32)) hx hb dX6_stranger_27 (by decide) ?_
        exact hret _ _ _ hw dX6_stranger_28
def wpX6_liar_106  (z0 : wSt) (post : Int32 → Prop) (t0 : Int32) (t1 : Int32) : Prop := (post (t1 + t0))
def wpX6_liar_84  (z0 : wSt) (post : Int32 → Prop) (x4 : Int32) (x5 : Int32) (x6 : Int32) (t0 : Int32) : Prop := (vp_in x4 6 ∧ (wpX6_pailsOf ((w_a z0 0) x4.toNatClampNeg) x5 (fun r1 => ((¬ r1 = x6 → (wpX6_liar_106  z0 post (2 : Int32) t0)) ∧ (r1 = x6 → (wpX6_liar_106  z0 post (0 : Int32) t0))))))
def wpX6_liar (x1 : Int32) (x2 : Int32) (x3 : Int32) (x4 : Int32) (x5 : Int32) (x6 : Int32) (z0 : wSt) (post : Int32 → Prop) : Prop := (wpX6_isOne x1 z0 (fun r1 => ((r1 = 0 → (post (-1 : Int32))) ∧ (¬ r1 = 0 → (wpX6_isMood x2 (fun r2 => ((r2 = 0 → (post (-1 : Int32))) ∧ (¬ r2 = 0 → (wpX6_in (x3.toInt64) (0 : Int64) (9 : Int64) (fun r3 => ((r3 = 0 → (post (-1 : Int32))) ∧ (¬ r3 = 0 → (wpX6_isOne x4 z0 (fun r4 => ((r4 = 0 → (post (-1 : Int32))) ∧ (¬ r4 = 0 → (wpX6_isMood x5 (fun r5 => ((r5 = 0 → (post (-1 : Int32))) ∧ (¬ r5 = 0 → (wpX6_in (x6.toInt64) (0 : Int64) (9 : Int64) (fun r6 => ((r6 = 0 → (post (-1 : Int32))) ∧ (¬ r6 = 0 → ((¬ x1 = x4 → (vp_in x1 6 ∧ (wpX6_pailsOf ((w_a z0 0) x1.toNatClampNeg) x2 (fun r7 => ((¬ r7 = x3 → (wpX6_liar_84  z0 post x4 x5 x6 (1 : Int32))) ∧ (r7 = x3 → (wpX6_liar_84  z0 post x4 x5 x6 (0 : Int32)))))))) ∧ (x1 = x4 → (post (-1 : Int32))))))))))))))))))))))))))))
set_option maxHeartbeats 4000000 in
set_option maxRecDepth 100000 in
theorem cX6_liar_c {l : Launch} {G : wG} {h : Nat → Nat} {x1 : Int32} {x2 : Int32} {x3 : Int32} {x4 : Int32} {x5 : Int32} {x6 : Int32} {post : Int32 → Prop} {z0 : wSt}  (hw : wpX6_liar x1 x2 x3 x4 x5 x6 z0 post) : Met l yX6_liar (.code yX6_liar cX6_liar 7 (some .int) :: BIG) { frames := 2, cells := 0, slots := 0, locals := 46 } (xPr G [.ref (h 0), .int x1, .int x2, .int x3, .int x4, .int x5, .int x6] (wsM G h z0)) (vp_Si post) 0 0 (fun _ => False) := by
  refine xm_ri (by decide) (Nat.le_of_ble_eq_true rfl) (fun p e s m args below meth c ls R Q hC hK hP hl hF hL hret => ?_)
  have hx := hC.1
  have hb := hC.2.1
  have hl : lv_has ls 7 [(0, .ref (h 0)), (1, .int x1), (2, .int x2), (3, .int x3), (4, .int x4), (5, .int x5), (6, .int x6)] := hl
  have B106 : ∀ (t0 : Int32) (t1 : Int32) (ls : Array Slot), wpX6_liar_106  z0 post t0 t1 → lv_has ls 7 [] → W p l e R s m args below meth c s.heap [] 0 0 Q (F0 m 106 ls [.int t0, .int t1]) := by
    intro t0 t1 ls hw hl
    unfold wpX6_liar_106 at hw
    refine lv_iadd hx hb dX6_liar_106 ?_
    exact hret _ _ _ hw dX6_liar_107
  have B84 : ∀ (x4 : Int32) (x5 : Int32) (x6 : Int32) (t0 : Int32) (ls : Array Slot), wpX6_liar_84  z0 post x4 x5 x6 t0 → lv_has ls 7 [(0, .ref (h 0)), (4, .int x4), (5, .int x5), (6, .int x6)] → W p l e R s m args below meth c s.heap [] 0 0 Q (F0 m 84 ls [.int t0]) := by
    intro x4 x5 x6 t0 ls hw hl
    unfold wpX6_liar_84 at hw
    refine lv_aload_n hx hb dX6_liar_84 rfl (lv_at hl 0 rfl) ?_
    refine rg_M_X6_0_0 hC hK hP dX6_liar_85 ?_
    refine lv_iload hx hb dX6_liar_88 (lv_at hl 1 rfl) ?_
    refine rl_M_1 hC hK hP (And.left hw) dX6_liar_90 ?_
    have hw := And.right hw
    refine lv_iload hx hb dX6_liar_91 (lv_at hl 2 rfl) ?_
    refine vp_callSi (xro (xr_S hC (cX6_pailsOf_c hw) ⟨rfl, rfl⟩ bw_800 calX6_pailsOf ⟨Nat.le_trans (Nat.le_of_ble_eq_true rfl) hF, Nat.le_trans (Nat.le_of_ble_eq_true rfl) hL⟩ (rest := [.int t0]) (xpS hK) rfl hl rfl (Nat.le_of_ble_eq_true rfl) dX6_liar_93 ⟨Nat.zero_le _, Nat.zero_le _⟩)) (fun r1 hw => ?_)
    refine lv_iload hx hb dX6_liar_96 (lv_at hl 3 rfl) ?_
    refine lv_icmp_ne (tgt := 105) hx hb dX6_liar_98 (by decide) (fun hc => ?_) (fun hc => ?_)
    · have hw := And.left hw hc
      refine lv_iconst (v := (2 : Int32)) hx hb dX6_liar_105 (by decide) ?_
      exact B106 (2 : Int32) t0 _ hw (lv_sub hl [] rfl)
    · have hw := And.right hw hc
      refine lv_iconst (v := (0 : Int32)) hx hb dX6_liar_101 (by decide) ?_
      refine lv_goto (tgt := 106) hx hb dX6_liar_102 (by decide) ?_
      exact B106 (0 : Int32) t0 _ hw (lv_sub hl [] rfl)
  unfold wpX6_liar at hw
  refine lv_aload_n hx hb dX6_liar_0 rfl (lv_at hl 0 rfl) ?_
  refine lv_iload_n hx hb dX6_liar_1 rfl (lv_at hl 1 rfl) ?_
  refine vp_callSi (xro (xr_V hC (cX6_isOne_c (h := h) hw) ⟨rfl, rfl⟩ bw_713 calX6_isOne ⟨Nat.le_trans (Nat.le_of_ble_eq_true rfl) hF, Nat.le_trans (Nat.le_of_ble_eq_true rfl) hL⟩ (rest := []) (xpR hK hP rfl rfl) rfl hl rfl (Nat.le_of_ble_eq_true rfl) dX6_liar_2 ⟨Nat.zero_le _, Nat.zero_le _⟩)) (fun r1 hw => ?_)
  refine lv_if_eq (tgt := 63) hx hb dX6_liar_5 (by decide) (fun hc => ?_) (fun hc => ?_)
  · have hw := And.left hw hc
    refine lv_iconst (v := (-1 : Int32)) hx hb dX6_liar_63 (by decide) ?_
    exact hret _ _ _ hw dX6_liar_64
  · have hw := And.right hw hc
    refine lv_iload_n hx hb dX6_liar_8 rfl (lv_at hl 2 rfl) ?_
    refine vp_callSi (xro (xr_S hC (cX6_isMood_c hw) ⟨rfl, rfl⟩ bw_732 calX6_isMood ⟨Nat.le_trans (Nat.le_of_ble_eq_true rfl) hF, Nat.le_trans (Nat.le_of_ble_eq_true rfl) hL⟩ (rest := []) (xpS hK) rfl hl rfl (Nat.le_of_ble_eq_true rfl) dX6_liar_9 ⟨Nat.zero_le _, Nat.zero_le _⟩)) (fun r2 hw => ?_)
    refine lv_if_eq (tgt := 63) hx hb dX6_liar_12 (by decide) (fun hc => ?_) (fun hc => ?_)
    · have hw := And.left hw hc
      refine lv_iconst (v := (-1 : Int32)) hx hb dX6_liar_63 (by decide) ?_
      exact hret _ _ _ hw dX6_liar_64
    · have hw := And.right hw hc
      refine lv_iload_n hx hb dX6_liar_15 rfl (lv_at hl 3 rfl) ?_
      refine lv_i2l (v := (x3.toInt64)) hx hb dX6_liar_16 rfl ?_
      refine lv_lconst (v := (0 : Int64)) hx hb dX6_liar_17 (by decide) ?_
      refine lv_ldc2 (v := (9 : Int64)) hx hb hC.2.2.2.1 (hC.2.2.2.2 _ bw_704) dX6_liar_18 ?_
      refine vp_callSi (xro (xr_S hC (cX6_in_c hw) ⟨rfl, rfl⟩ bw_700 calX6_in ⟨Nat.le_trans (Nat.le_of_ble_eq_true rfl) hF, Nat.le_trans (Nat.le_of_ble_eq_true rfl) hL⟩ (rest := []) (xpS hK) rfl hl rfl (Nat.le_of_ble_eq_true rfl) dX6_liar_21 ⟨Nat.zero_le _, Nat.zero_le _⟩)) (fun r3 hw => ?_)
      refine lv_if_eq (tgt := 63) hx hb dX6_liar_24 (by decide) (fun hc => ?_) (fun hc => ?_)
      · have hw := And.left hw hc
        refine lv_iconst (v := (-1 : Int32)) hx hb dX6_liar_63 (by decide) ?_
        exact hret _ _ _ hw dX6_liar_64
      · have hw := And.right hw hc
        refine lv_aload_n hx hb dX6_liar_27 rfl (lv_at hl 0 rfl) ?_
        refine lv_iload hx hb dX6_liar_28 (lv_at hl 4 rfl) ?_
        refine vp_callSi (xro (xr_V hC (cX6_isOne_c (h := h) hw) ⟨rfl, rfl⟩ bw_713 calX6_isOne ⟨Nat.le_trans (Nat.le_of_ble_eq_true rfl) hF, Nat.le_trans (Nat.le_of_ble_eq_true rfl) hL⟩ (rest := []) (xpR hK hP rfl rfl) rfl hl rfl (Nat.le_of_ble_eq_true rfl) dX6_liar_30 ⟨Nat.zero_le _, Nat.zero_le _⟩)) (fun r4 hw => ?_)
        refine lv_if_eq (tgt := 63) hx hb dX6_liar_33 (by decide) (fun hc => ?_) (fun hc => ?_)
        · have hw := And.left hw hc
          refine lv_iconst (v := (-1 : Int32)) hx hb dX6_liar_63 (by decide) ?_
          exact hret _ _ _ hw dX6_liar_64
        · have hw := And.right hw hc
          refine lv_iload hx hb dX6_liar_36 (lv_at hl 5 rfl) ?_
          refine vp_callSi (xro (xr_S hC (cX6_isMood_c hw) ⟨rfl, rfl⟩ bw_732 calX6_isMood ⟨Nat.le_trans (Nat.le_of_ble_eq_true rfl) hF, Nat.le_trans (Nat.le_of_ble_eq_true rfl) hL⟩ (rest := []) (xpS hK) rfl hl rfl (Nat.le_of_ble_eq_true rfl) dX6_liar_38 ⟨Nat.zero_le _, Nat.zero_le _⟩)) (fun r5 hw => ?_)
          refine lv_if_eq (tgt := 63) hx hb dX6_liar_41 (by decide) (fun hc => ?_) (fun hc => ?_)
          · have hw := And.left hw hc
            refine lv_iconst (v := (-1 : Int32)) hx hb dX6_liar_63 (by decide) ?_
            exact hret _ _ _ hw dX6_liar_64
          · have hw := And.right hw hc
            refine lv_iload hx hb dX6_liar_44 (lv_at hl 6 rfl) ?_
            refine lv_i2l (v := (x6.toInt64)) hx hb dX6_liar_46 rfl ?_
            refine lv_lconst (v := (0 : Int64)) hx hb dX6_liar_47 (by decide) ?_
            refine lv_ldc2 (v := (9 : Int64)) hx hb hC.2.2.2.1 (hC.2.2.2.2 _ bw_704) dX6_liar_48 ?_
            refine vp_callSi (xro (xr_S hC (cX6_in_c hw) ⟨rfl, rfl⟩ bw_700 calX6_in ⟨Nat.le_trans (Nat.le_of_ble_eq_true rfl) hF, Nat.le_trans (Nat.le_of_ble_eq_true rfl) hL⟩ (rest := []) (xpS hK) rfl hl rfl (Nat.le_of_ble_eq_true rfl) dX6_liar_51 ⟨Nat.zero_le _, Nat.zero_le _⟩)) (fun r6 hw => ?_)
            refine lv_if_eq (tgt := 63) hx hb dX6_liar_54 (by decide) (fun hc => ?_) (fun hc => ?_)
            · have hw := And.left hw hc
              refine lv_iconst (v := (-1 : Int32)) hx hb dX6_liar_63 (by decide) ?_
              exact hret _ _ _ hw dX6_liar_64
            · have hw := And.right hw hc
              refine lv_iload_n hx hb dX6_liar_57 rfl (lv_at hl 1 rfl) ?_
              refine lv_iload hx hb dX6_liar_58 (lv_at hl 4 rfl) ?_
              refine lv_icmp_ne (tgt := 65) hx hb dX6_liar_60 (by decide) (fun hc => ?_) (fun hc => ?_)
              · have hw := And.left hw hc
                refine lv_aload_n hx hb dX6_liar_65 rfl (lv_at hl 0 rfl) ?_
                refine rg_M_X6_0_0 hC hK hP dX6_liar_66 ?_
                refine lv_iload_n hx hb dX6_liar_69 rfl (lv_at hl 1 rfl) ?_
                refine rl_M_1 hC hK hP (And.left hw) dX6_liar_70 ?_
                have hw := And.right hw
                refine lv_iload_n hx hb dX6_liar_71 rfl (lv_at hl 2 rfl) ?_
                refine vp_callSi (xro (xr_S hC (cX6_pailsOf_c hw) ⟨rfl, rfl⟩ bw_800 calX6_pailsOf ⟨Nat.le_trans (Nat.le_of_ble_eq_true rfl) hF, Nat.le_trans (Nat.le_of_ble_eq_true rfl) hL⟩ (rest := []) (xpS hK) rfl hl rfl (Nat.le_of_ble_eq_true rfl) dX6_liar_72 ⟨Nat.zero_le _, Nat.zero_le _⟩)) (fun r7 hw => ?_)
                refine lv_iload_n hx hb dX6_liar_75 rfl (lv_at hl 3 rfl) ?_
                refine lv_icmp_ne (tgt := 83) hx hb dX6_liar_76 (by decide) (fun hc => ?_) (fun hc => ?_)
                · have hw := And.left hw hc
                  refine lv_iconst (v := (1 : Int32)) hx hb dX6_liar_83 (by decide) ?_
                  exact B84 x4 x5 x6 (1 : Int32) _ hw (lv_sub hl [0, 4, 5, 6] rfl)
                · have hw := And.right hw hc
                  refine lv_iconst (v := (0 : Int32)) hx hb dX6_liar_79 (by decide) ?_
                  refine lv_goto (tgt := 84) hx hb dX6_liar_80 (by decide) ?_
                  exact B84 x4 x5 x6 (0 : Int32) _ hw (lv_sub hl [0, 4, 5, 6] rfl)
              · have hw := And.right hw hc
                refine lv_iconst (v := (-1 : Int32)) hx hb dX6_liar_63 (by decide) ?_
                exact hret _ _ _ hw dX6_liar_64
def wpX6_drawn_108 (k33 : Int32 → Int32 → Int32 → (wSt) → Prop) (post : Int32 → (wSt) → Prop) (x1 : Int32) (x3 : Int32) (t0 : Int32) (t2 : Int32) (z0 : wSt) : Prop := (wpX6_goOn t0 z0 (fun r1 u => ∀ z1 : wSt, z1 = u → (k33 x1 (t2 + r1) (x3 + (1 : Int32)) z1)))
def wpX6_drawn_106 (k33 : Int32 → Int32 → Int32 → (wSt) → Prop) (post : Int32 → (wSt) → Prop) (x1 : Int32) (x3 : Int32) (t1 : Int32) (z0 : wSt) : Prop := (wpX6_drawn_108 k33 post x1 x3 (9 : Int32) t1 z0)
def wpX6_drawn_33 (k33 : Int32 → Int32 → Int32 → (wSt) → Prop) (post : Int32 → (wSt) → Prop) (x1 : Int32) (x2 : Int32) (x3 : Int32) (z0 : wSt) : Prop := ((x1 ≤ x3 → (post x2 z0)) ∧ (¬ x1 ≤ x3 → (∀ z1 : wSt, z1 = (w_si z0 15 ((((((w_i z0 15).toInt64) * (1103515245 : Int64)) + (12345 : Int64)) &&& (2147483647 : Int64)).toInt32)) → (¬ (65536 : Int32) = 0 ∧ (¬ ((w_i z1 5) + (1 : Int32)) = 0 ∧ (((w_i z1 5) ≤ (((w_i z1 15) / (65536 : Int32)) - ((w_i z1 15) / (65536 : Int32)) / ((w_i z1 5) + (1 : Int32)) * ((w_i z1 5) + (1 : Int32))) → (wpX6_drawn_106 k33 post x1 x3 x2 z1)) ∧ (¬ (w_i z1 5) ≤ (((w_i z1 15) / (65536 : Int32)) - ((w_i z1 15) / (65536 : Int32)) / ((w_i z1 5) + (1 : Int32)) * ((w_i z1 5) + (1 : Int32))) → (vp_in (((w_i z1 15) / (65536 : Int32)) - ((w_i z1 15) / (65536 : Int32)) / ((w_i z1 5) + (1 : Int32)) * ((w_i z1 5) + (1 : Int32))) 6 ∧ (((w_i z1 11) < ((w_a z1 4) (((w_i z1 15) / (65536 : Int32)) - ((w_i z1 15) / (65536 : Int32)) / ((w_i z1 5) + (1 : Int32)) * ((w_i z1 5) + (1 : Int32))).toNatClampNeg) → (wpX6_drawn_106 k33 post x1 x3 x2 z1)) ∧ (¬ (w_i z1 11) < ((w_a z1 4) (((w_i z1 15) / (65536 : Int32)) - ((w_i z1 15) / (65536 : Int32)) / ((w_i z1 5) + (1 : Int32)) * ((w_i z1 5) + (1 : Int32))).toNatClampNeg) → (wpX6_drawn_108 k33 post x1 x3 (((w_i z1 15) / (65536 : Int32)) - ((w_i z1 15) / (65536 : Int32)) / ((w_i z1 5) + (1 : Int32)) * ((w_i z1 5) + (1 : Int32))) x2 z1)))))))))))
def wpX6_drawn_L33  (post : Int32 → (wSt) → Prop) : Nat → Int32 → Int32 → Int32 → (wSt) → Prop
  | 0 => fun _ _ _ _ => False
  | n + 1 => fun x1 x2 x3 z0 => wpX6_drawn_33  (wpX6_drawn_L33  post n) post x1 x2 x3 z0
def wpX6_drawn (x1 : Int32) (z0 : wSt) (post : Int32 → (wSt) → Prop) : Prop := (wpX6_in (x1.toInt64) (1 : Int64) (60 : Int64) (fun r1 => ((¬ r1 = 0 → ((((w_i z0 11) + x1) ≤ (9999 : Int32) → (∃ n, wpX6_drawn_L33  post n x1 (0 : Int32) (0 : Int32) z0)) ∧ (¬ ((w_i z0 11) + x1) ≤ (9999 : Int32) → (post (-3 : Int32) z0)))) ∧ (r1 = 0 → (post (-1 : Int32) z0)))))
set_option maxHeartbeats 4000000 in
set_option maxRecDepth 100000 in
theorem cX6_drawn_c {l : Launch} {G : wG} {h : Nat → Nat} {sz : Nat} {x1 : Int32} {post : Int32 → (wSt) → Prop} {z0 : wSt}  (hw : wpX6_drawn x1 z0 post) : Met l yX6_drawn (.code yX6_drawn cX6_drawn 5 (some .int) :: BIG) { frames := 3, cells := 0, slots := 0, locals := 66 } (xPw G [.ref (h 0), .int x1] (wsM G h z0) sz) (xQi G post (fun q => (wsM G h q)) (va_A (wsM G h z0) sz)) 0 0 (va_A (wsM G h z0) sz) := by
  refine xm_wi (by decide) (Nat.le_of_ble_eq_true rfl) (fun p e s m args below meth c A ls R Q hC hK hA hP hD hS hl hF hL hret => ?_)
  have hx := hC.1
  have hb := hC.2.1
  have hl : lv_has ls 5 [(0, .ref (h 0)), (1, .int x1)] := hl
  have B33 : ∀ n : Nat, ∀ (x1 : Int32) (x2 : Int32) (x3 : Int32) (z0 : wSt) (H : Heap) (locs : List Loc) (ls : Array Slot), wpX6_drawn_L33  post n x1 x2 x3 z0 → va_P G.1 vwCl (wsM G h z0) H → va_D A (wsM G h z0) → va_S A s.heap H locs → lv_has ls 5 [(0, .ref (h 0)), (1, .int x1), (2, .int x2), (3, .int x3)] → W p l e R s m args below meth c H locs 0 0 Q (F0 m 33 ls []) := by
    intro n
    induction n with
    | zero => intro x1 x2 x3 z0 H locs ls hw hP hD hS hl; exact False.elim hw
    | succ n I33 =>
      have B108 : ∀ (x1 : Int32) (x3 : Int32) (t0 : Int32) (t2 : Int32) (z0 : wSt) (H : Heap) (locs : List Loc) (ls : Array Slot), wpX6_drawn_108 (wpX6_drawn_L33  post n) post x1 x3 t0 t2 z0 → va_P G.1 vwCl (wsM G h z0) H → va_D A (wsM G h z0) → va_S A s.heap H locs → lv_has ls 5 [(0, .ref (h 0)), (1, .int x1), (3, .int x3)] → W p l e R s m args below meth c H locs 0 0 Q (F0 m 108 ls [.int t0, .ref (h 0), .int t2]) := by
        intro x1 x3 t0 t2 z0 H locs ls hw hP hD hS hl
        unfold wpX6_drawn_108 at hw
        refine xc_wi (wsz := fun q => (wsM G h q)) (f := fun u => u) (xr_V hC (cX6_goOn_c (h := h) hw) ⟨rfl, rfl⟩ bw_785 calX6_goOn ⟨Nat.le_trans (Nat.le_of_ble_eq_true rfl) hF, Nat.le_trans (Nat.le_of_ble_eq_true rfl) hL⟩ (rest := [.int t2]) (xpV hK (cut_all_M) hP hD rfl rfl) rfl hl rfl (Nat.le_of_ble_eq_true rfl) dX6_drawn_108 ⟨Nat.zero_le _, Nat.zero_le _⟩) (cut_all_M) hP hD hS hA (fun r1 u z1 H locs hz1 hw hP hD hS => ?_)
        have hw := hw z1 hz1
        refine lv_iadd hx hb dX6_drawn_111 ?_
        refine lv_istore_n (lv' := [(2, .int (t2 + r1)), (0, .ref (h 0)), (1, .int x1), (3, .int x3)]) hx hb dX6_drawn_112 rfl hl (by decide) rfl (fun ls hl => ?_)
        refine lv_iinc (v := (x3 + (1 : Int32))) (lv' := [(3, .int (x3 + (1 : Int32))), (2, .int (t2 + r1)), (0, .ref (h 0)), (1, .int x1)]) hx hb dX6_drawn_113 hl (k := 3) rfl rfl (by decide) rfl (fun ls hl => ?_)
        refine lv_goto (tgt := 33) hx hb dX6_drawn_116 (by decide) ?_
        exact I33 x1 (t2 + r1) (x3 + (1 : Int32)) z1 _ _ _ hw hP hD hS (lv_sub hl [2, 3, 1, 0] rfl)
      have B106 : ∀ (x1 : Int32) (x3 : Int32) (t1 : Int32) (z0 : wSt) (H : Heap) (locs : List Loc) (ls : Array Slot), wpX6_drawn_106 (wpX6_drawn_L33  post n) post x1 x3 t1 z0 → va_P G.1 vwCl (wsM G h z0) H → va_D A (wsM G h z0) → va_S A s.heap H locs → lv_has ls 5 [(0, .ref (h 0)), (1, .int x1), (3, .int x3)] → W p l e R s m args below meth c H locs 0 0 Q (F0 m 106 ls [.ref (h 0), .int t1]) := by
        intro x1 x3 t1 z0 H locs ls hw hP hD hS hl
        unfold wpX6_drawn_106 at hw
        refine lv_bipush (v := (9 : Int32)) hx hb dX6_drawn_106 (by decide) ?_
        exact B108 x1 x3 (9 : Int32) t1 z0 _ _ _ hw hP hD hS (lv_sub hl [0, 1, 2] rfl)
      intro x1 x2 x3 z0 H locs ls hw hP hD hS hl
      have hw : wpX6_drawn_33  (wpX6_drawn_L33  post n) post x1 x2 x3 z0 := hw
      unfold wpX6_drawn_33 at hw
      refine lv_iload_n hx hb dX6_drawn_33 rfl (lv_at hl 3 rfl) ?_
      refine lv_iload_n hx hb dX6_drawn_34 rfl (lv_at hl 1 rfl) ?_
      refine lv_icmp_ge (tgt := 119) hx hb dX6_drawn_35 (by decide) (fun hc => ?_) (fun hc => ?_)
      · have hw := And.left hw hc
        refine lv_iload_n hx hb dX6_drawn_119 rfl (lv_at hl 2 rfl) ?_
        exact hret _ _ _ _ _ _ hw hP hD hS dX6_drawn_120
      · have hw := And.right hw hc
        refine lv_aload_n hx hb dX6_drawn_38 rfl (lv_at hl 0 rfl) ?_
        refine lv_aload_n hx hb dX6_drawn_39 rfl (lv_at hl 0 rfl) ?_
        refine rg_M_X6_0_15 hC hK hP dX6_drawn_40 ?_
        refine lv_i2l (v := ((w_i z0 15).toInt64)) hx hb dX6_drawn_43 rfl ?_
        refine lv_ldc2 (v := (1103515245 : Int64)) hx hb hC.2.2.2.1 (hC.2.2.2.2 _ bw_879) dX6_drawn_44 ?_
        refine lv_lmul hx hb dX6_drawn_47 ?_
        refine lv_ldc2 (v := (12345 : Int64)) hx hb hC.2.2.2.1 (hC.2.2.2.2 _ bw_880) dX6_drawn_48 ?_
        refine lv_ladd hx hb dX6_drawn_51 ?_
        refine lv_ldc2 (v := (2147483647 : Int64)) hx hb hC.2.2.2.1 (hC.2.2.2.2 _ bw_881) dX6_drawn_52 ?_
        refine lv_land hx hb dX6_drawn_55 ?_
        refine lv_l2i (v := ((((((w_i z0 15).toInt64) * (1103515245 : Int64)) + (12345 : Int64)) &&& (2147483647 : Int64)).toInt32)) hx hb dX6_drawn_56 rfl ?_
        refine rp_M_X6_0_15 hC hK hP hD hS dX6_drawn_57 (fun z1 H locs hz1 hP hD hS => ?_)
        have hw := hw z1 hz1
        refine lv_aload_n hx hb dX6_drawn_60 rfl (lv_at hl 0 rfl) ?_
        refine rg_M_X6_0_15 hC hK hP dX6_drawn_61 ?_
        refine lv_ldc (v := (65536 : Int32)) hx hb hC.2.2.2.1 (hC.2.2.2.2 _ bw_882) dX6_drawn_64 ?_
        refine lv_idiv hx hb dX6_drawn_66 (And.left hw) ?_
        have hw := And.right hw
        refine lv_aload_n hx hb dX6_drawn_67 rfl (lv_at hl 0 rfl) ?_
        refine rg_M_X6_0_5 hC hK hP dX6_drawn_68 ?_
        refine lv_iconst (v := (1 : Int32)) hx hb dX6_drawn_71 (by decide) ?_
        refine lv_iadd hx hb dX6_drawn_72 ?_
        refine lv_irem hx hb dX6_drawn_73 (And.left hw) ?_
        have hw := And.right hw
        refine lv_istore (lv' := [(4, .int (((w_i z1 15) / (65536 : Int32)) - ((w_i z1 15) / (65536 : Int32)) / ((w_i z1 5) + (1 : Int32)) * ((w_i z1 5) + (1 : Int32)))), (0, .ref (h 0)), (1, .int x1), (2, .int x2), (3, .int x3)]) hx hb dX6_drawn_74 hl (by decide) rfl (fun ls hl => ?_)
        refine lv_iload_n hx hb dX6_drawn_76 rfl (lv_at hl 3 rfl) ?_
        refine lv_aload_n hx hb dX6_drawn_77 rfl (lv_at hl 1 rfl) ?_
        refine lv_iload hx hb dX6_drawn_78 (lv_at hl 0 rfl) ?_
        refine lv_aload_n hx hb dX6_drawn_80 rfl (lv_at hl 1 rfl) ?_
        refine rg_M_X6_0_5 hC hK hP dX6_drawn_81 ?_
        refine lv_icmp_ge (tgt := 106) hx hb dX6_drawn_84 (by decide) (fun hc => ?_) (fun hc => ?_)
        · have hw := And.left hw hc
          exact B106 x1 x3 x2 z1 _ _ _ hw hP hD hS (lv_sub hl [1, 2, 4] rfl)
        · have hw := And.right hw hc
          refine lv_aload_n hx hb dX6_drawn_87 rfl (lv_at hl 1 rfl) ?_
          refine rg_M_X6_0_4 hC hK hP dX6_drawn_88 ?_
          refine lv_iload hx hb dX6_drawn_91 (lv_at hl 0 rfl) ?_
          refine rl_M_5 hC hK hP (And.left hw) dX6_drawn_93 ?_
          have hw := And.right hw
          refine lv_aload_n hx hb dX6_drawn_94 rfl (lv_at hl 1 rfl) ?_
          refine rg_M_X6_0_11 hC hK hP dX6_drawn_95 ?_
          refine lv_icmp_gt (tgt := 106) hx hb dX6_drawn_98 (by decide) (fun hc => ?_) (fun hc => ?_)
          · have hw := And.left hw hc
            exact B106 x1 x3 x2 z1 _ _ _ hw hP hD hS (lv_sub hl [1, 2, 4] rfl)
          · have hw := And.right hw hc
            refine lv_iload hx hb dX6_drawn_101 (lv_at hl 0 rfl) ?_
            refine lv_goto (tgt := 108) hx hb dX6_drawn_103 (by decide) ?_
            exact B108 x1 x3 (((w_i z1 15) / (65536 : Int32)) - ((w_i z1 15) / (65536 : Int32)) / ((w_i z1 5) + (1 : Int32)) * ((w_i z1 5) + (1 : Int32))) x2 z1 _ _ _ hw hP hD hS (lv_sub hl [1, 2, 4] rfl)
  unfold wpX6_drawn at hw
  refine lv_iload_n hx hb dX6_drawn_0 rfl (lv_at hl 1 rfl) ?_
  refine lv_i2l (v := (x1.toInt64)) hx hb dX6_drawn_1 rfl ?_
  refine lv_lconst (v := (1 : Int64)) hx hb dX6_drawn_2 (by decide) ?_
  refine lv_ldc2 (v := (60 : Int64)) hx hb hC.2.2.2.1 (hC.2.2.2.2 _ bw_824) dX6_drawn_3 ?_
  refine vp_callSi (xro (xr_S hC (cX6_in_c hw) ⟨rfl, rfl⟩ bw_700 calX6_in ⟨Nat.le_trans (Nat.le_of_ble_eq_true rfl) hF, Nat.le_trans (Nat.le_of_ble_eq_true rfl) hL⟩ (rest := []) (xpS hK) rfl hl rfl (Nat.le_of_ble_eq_true rfl) dX6_drawn_6 ⟨Nat.zero_le _, Nat.zero_le _⟩)) (fun r1 hw => ?_)
  refine lv_if_ne (tgt := 14) hx hb dX6_drawn_9 (by decide) (fun hc => ?_) (fun hc => ?_)
  · have hw := And.left hw hc
    refine lv_aload_n hx hb dX6_drawn_14 rfl (lv_at hl 0 rfl) ?_
    refine rg_M_X6_0_11 hC hK hP dX6_drawn_15 ?_
    refine lv_iload_n hx hb dX6_drawn_18 rfl (lv_at hl 1 rfl) ?_
    refine lv_iadd hx hb dX6_drawn_19 ?_
    refine lv_sipush (v := (9999 : Int32)) hx hb dX6_drawn_20 (by decide) ?_
    refine lv_icmp_le (tgt := 29) hx hb dX6_drawn_23 (by decide) (fun hc => ?_) (fun hc => ?_)
    · have hw := And.left hw hc
      refine lv_iconst (v := (0 : Int32)) hx hb dX6_drawn_29 (by decide) ?_
      refine lv_istore_n (lv' := [(2, .int (0 : Int32)), (0, .ref (h 0)), (1, .int x1)]) hx hb dX6_drawn_30 rfl hl (by decide) rfl (fun ls hl => ?_)
      refine lv_iconst (v := (0 : Int32)) hx hb dX6_drawn_31 (by decide) ?_
      refine lv_istore_n (lv' := [(3, .int (0 : Int32)), (2, .int (0 : Int32)), (0, .ref (h 0)), (1, .int x1)]) hx hb dX6_drawn_32 rfl hl (by decide) rfl (fun ls hl => ?_)
      obtain ⟨n33, hw⟩ := hw
      exact B33 n33 x1 (0 : Int32) (0 : Int32) z0 _ _ _ hw hP hD hS (lv_sub hl [2, 3, 1, 0] rfl)
    · have hw := And.right hw hc
      refine lv_bipush (v := (-3 : Int32)) hx hb dX6_drawn_26 (by decide) ?_
      exact hret _ _ _ _ _ _ hw hP hD hS dX6_drawn_28
  · have hw := And.right hw hc
    refine lv_iconst (v := (-1 : Int32)) hx hb dX6_drawn_12 (by decide) ?_
    exact hret _ _ _ _ _ _ hw hP hD hS dX6_drawn_13
def wpX6_seed (x1 : Int32) (z0 : wSt) (post : Int32 → (wSt) → Prop) : Prop := ((0 ≤ x1 → (∀ z1 : wSt, z1 = (w_si z0 15 x1) → (post (w_i z0 15) z1))) ∧ (¬ 0 ≤ x1 → (post (-1 : Int32) z0)))
set_option maxHeartbeats 4000000 in
set_option maxRecDepth 100000 in
theorem cX6_seed_c {l : Launch} {G : wG} {h : Nat → Nat} {sz : Nat} {x1 : Int32} {post : Int32 → (wSt) → Prop} {z0 : wSt}  (hw : wpX6_seed x1 z0 post) : Met l yX6_seed (.code yX6_seed cX6_seed 3 (some .int) :: BIG) { frames := 0, cells := 0, slots := 0, locals := 0 } (xPw G [.ref (h 0), .int x1] (wsM G h z0) sz) (xQi G post (fun q => (wsM G h q)) (va_A (wsM G h z0) sz)) 0 0 (va_A (wsM G h z0) sz) := by
  refine xm_wi (by decide) (Nat.le_of_ble_eq_true rfl) (fun p e s m args below meth c A ls R Q hC hK hA hP hD hS hl hF hL hret => ?_)
  have hx := hC.1
  have hb := hC.2.1
  have hl : lv_has ls 3 [(0, .ref (h 0)), (1, .int x1)] := hl
  unfold wpX6_seed at hw
  refine lv_iload_n hx hb dX6_seed_0 rfl (lv_at hl 1 rfl) ?_
  refine lv_if_ge (tgt := 6) hx hb dX6_seed_1 (by decide) (fun hc => ?_) (fun hc => ?_)
  · have hw := And.left hw hc
    refine lv_aload_n hx hb dX6_seed_6 rfl (lv_at hl 0 rfl) ?_
    refine rg_M_X6_0_15 hC hK hP dX6_seed_7 ?_
    refine lv_istore_n (lv' := [(2, .int (w_i z0 15)), (0, .ref (h 0)), (1, .int x1)]) hx hb dX6_seed_10 rfl hl (by decide) rfl (fun ls hl => ?_)
    refine lv_aload_n hx hb dX6_seed_11 rfl (lv_at hl 1 rfl) ?_
    refine lv_iload_n hx hb dX6_seed_12 rfl (lv_at hl 2 rfl) ?_
    refine rp_M_X6_0_15 hC hK hP hD hS dX6_seed_13 (fun z1 H locs hz1 hP hD hS => ?_)
    have hw := hw z1 hz1
    refine lv_iload_n hx hb dX6_seed_16 rfl (lv_at hl 0 rfl) ?_
    exact hret _ _ _ _ _ _ hw hP hD hS dX6_seed_17
  · have hw := And.right hw hc
    refine lv_iconst (v := (-1 : Int32)) hx hb dX6_seed_4 (by decide) ?_
    exact hret _ _ _ _ _ _ hw hP hD hS dX6_seed_5
def wpX6_carried_156  (post : Int32 → (wSt) → Prop) (x4 : Int32) (x5 : Int32) (t0 : Int32) (t1 : Int32) (z0 : wSt) : Prop := (vp_in t1 6 ∧ ∀ z1 : wSt, z1 = (w_sa z0 4 (upd (w_a z0 4) t1.toNatClampNeg t0)) → ((¬ x5 = 0 → ((¬ x5 = (1 : Int32) → ((¬ x5 = (2 : Int32) → ((¬ x5 = (3 : Int32) → (vp_in x4 6 ∧ (post ((w_a z1 4) x4.toNatClampNeg) z1))) ∧ (x5 = (3 : Int32) → (vp_in x4 6 ∧ (post ((w_a z1 3) x4.toNatClampNeg) z1))))) ∧ (x5 = (2 : Int32) → (vp_in x4 6 ∧ (post ((w_a z1 2) x4.toNatClampNeg) z1))))) ∧ (x5 = (1 : Int32) → (vp_in x4 6 ∧ (post ((w_a z1 1) x4.toNatClampNeg) z1))))) ∧ (x5 = 0 → (vp_in x4 6 ∧ (post ((w_a z1 0) x4.toNatClampNeg) z1)))))
def wpX6_carried_149  (post : Int32 → (wSt) → Prop) (x4 : Int32) (x5 : Int32) (t0 : Int32) (z0 : wSt) : Prop := (vp_in x4 6 ∧ (wpX6_carried_156  post x4 x5 ((w_a z0 4) x4.toNatClampNeg) t0 z0))
def wpX6_carried_128  (post : Int32 → (wSt) → Prop) (x2 : Int32) (x3 : Int32) (x4 : Int32) (x5 : Int32) (t0 : Int32) (t1 : Int32) (z0 : wSt) : Prop := (vp_in t1 6 ∧ ∀ z1 : wSt, z1 = (w_sa z0 3 (upd (w_a z0 3) t1.toNatClampNeg t0)) → ((x3 = 0 → (wpX6_carried_149  post x4 x5 x4 z1)) ∧ (¬ x3 = 0 → ((¬ x5 = (4 : Int32) → (wpX6_carried_149  post x4 x5 x4 z1)) ∧ (x5 = (4 : Int32) → (wpX6_carried_156  post x4 x5 x2 x4 z1))))))
def wpX6_carried_121  (post : Int32 → (wSt) → Prop) (x2 : Int32) (x3 : Int32) (x4 : Int32) (x5 : Int32) (t0 : Int32) (z0 : wSt) : Prop := (vp_in x4 6 ∧ (wpX6_carried_128  post x2 x3 x4 x5 ((w_a z0 3) x4.toNatClampNeg) t0 z0))
def wpX6_carried_100  (post : Int32 → (wSt) → Prop) (x2 : Int32) (x3 : Int32) (x4 : Int32) (x5 : Int32) (t0 : Int32) (t1 : Int32) (z0 : wSt) : Prop := (vp_in t1 6 ∧ ∀ z1 : wSt, z1 = (w_sa z0 2 (upd (w_a z0 2) t1.toNatClampNeg t0)) → ((x3 = 0 → (wpX6_carried_121  post x2 x3 x4 x5 x4 z1)) ∧ (¬ x3 = 0 → ((¬ x5 = (3 : Int32) → (wpX6_carried_121  post x2 x3 x4 x5 x4 z1)) ∧ (x5 = (3 : Int32) → (wpX6_carried_128  post x2 x3 x4 x5 x2 x4 z1))))))
def wpX6_carried_93  (post : Int32 → (wSt) → Prop) (x2 : Int32) (x3 : Int32) (x4 : Int32) (x5 : Int32) (t0 : Int32) (z0 : wSt) : Prop := (vp_in x4 6 ∧ (wpX6_carried_100  post x2 x3 x4 x5 ((w_a z0 2) x4.toNatClampNeg) t0 z0))
def wpX6_carried_72  (post : Int32 → (wSt) → Prop) (x2 : Int32) (x3 : Int32) (x4 : Int32) (x5 : Int32) (t0 : Int32) (t1 : Int32) (z0 : wSt) : Prop := (vp_in t1 6 ∧ ∀ z1 : wSt, z1 = (w_sa z0 1 (upd (w_a z0 1) t1.toNatClampNeg t0)) → ((x3 = 0 → (wpX6_carried_93  post x2 x3 x4 x5 x4 z1)) ∧ (¬ x3 = 0 → ((¬ x5 = (2 : Int32) → (wpX6_carried_93  post x2 x3 x4 x5 x4 z1)) ∧ (x5 = (2 : Int32) → (wpX6_carried_100  post x2 x3 x4 x5 x2 x4 z1))))))
def wpX6_carried_65  (post : Int32 → (wSt) → Prop) (x2 : Int32) (x3 : Int32) (x4 : Int32) (x5 : Int32) (t0 : Int32) (z0 : wSt) : Prop := (vp_in x4 6 ∧ (wpX6_carried_72  post x2 x3 x4 x5 ((w_a z0 1) x4.toNatClampNeg) t0 z0))
def wpX6_carried_44  (post : Int32 → (wSt) → Prop) (x2 : Int32) (x3 : Int32) (x4 : Int32) (x5 : Int32) (t0 : Int32) (t1 : Int32) (z0 : wSt) : Prop := (vp_in t1 6 ∧ ∀ z1 : wSt, z1 = (w_sa z0 0 (upd (w_a z0 0) t1.toNatClampNeg t0)) → ((x3 = 0 → (wpX6_carried_65  post x2 x3 x4 x5 x4 z1)) ∧ (¬ x3 = 0 → ((¬ x5 = (1 : Int32) → (wpX6_carried_65  post x2 x3 x4 x5 x4 z1)) ∧ (x5 = (1 : Int32) → (wpX6_carried_72  post x2 x3 x4 x5 x2 x4 z1))))))
def wpX6_carried_37  (post : Int32 → (wSt) → Prop) (x2 : Int32) (x3 : Int32) (x4 : Int32) (x5 : Int32) (t0 : Int32) (z0 : wSt) : Prop := (vp_in x4 6 ∧ (wpX6_carried_44  post x2 x3 x4 x5 ((w_a z0 0) x4.toNatClampNeg) t0 z0))
def wpX6_carried_253  (post : Int32 → (wSt) → Prop) (x1 : Int32) (t0 : Int32) (t1 : Int32) (z0 : wSt) : Prop := (vp_in t1 24 ∧ ∀ z1 : wSt, z1 = (w_sa z0 13 (upd (w_a z0 13) t1.toNatClampNeg t0)) → (vp_in (x1 - (30 : Int32)) 24 ∧ (post ((w_a z1 13) (x1 - (30 : Int32)).toNatClampNeg) z1)))
def wpX6_carried (x1 : Int32) (x2 : Int32) (x3 : Int32) (z0 : wSt) (post : Int32 → (wSt) → Prop) : Prop := (((30 : Int32) ≤ x1 → ((x3 = 0 → (vp_in (x1 - (30 : Int32)) 24 ∧ (wpX6_carried_253  post x1 ((w_a z0 13) (x1 - (30 : Int32)).toNatClampNeg) (x1 - (30 : Int32)) z0))) ∧ (¬ x3 = 0 → (wpX6_carried_253  post x1 x2 (x1 - (30 : Int32)) z0)))) ∧ (¬ (30 : Int32) ≤ x1 → (¬ (6 : Int32) = 0 ∧ (¬ (6 : Int32) = 0 ∧ ((x3 = 0 → (wpX6_carried_37  post x2 x3 (x1 - x1 / (6 : Int32) * (6 : Int32)) (x1 / (6 : Int32)) (x1 - x1 / (6 : Int32) * (6 : Int32)) z0)) ∧ (¬ x3 = 0 → ((¬ (x1 / (6 : Int32)) = 0 → (wpX6_carried_37  post x2 x3 (x1 - x1 / (6 : Int32) * (6 : Int32)) (x1 / (6 : Int32)) (x1 - x1 / (6 : Int32) * (6 : Int32)) z0)) ∧ ((x1 / (6 : Int32)) = 0 → (wpX6_carried_44  post x2 x3 (x1 - x1 / (6 : Int32) * (6 : Int32)) (x1 / (6 : Int32)) x2 (x1 - x1 / (6 : Int32) * (6 : Int32)) z0)))))))))
set_option maxHeartbeats 4000000 in
set_option maxRecDepth 100000 in
theorem cX6_carried_c {l : Launch} {G : wG} {h : Nat → Nat} {sz : Nat} {x1 : Int32} {x2 : Int32} {x3 : Int32} {post : Int32 → (wSt) → Prop} {z0 : wSt}  (hw : wpX6_carried x1 x2 x3 z0 post) : Met l yX6_carried (.code yX6_carried cX6_carried 6 (some .int) :: BIG) { frames := 0, cells := 0, slots := 0, locals := 0 } (xPw G [.ref (h 0), .int x1, .int x2, .int x3] (wsM G h z0) sz) (xQi G post (fun q => (wsM G h q)) (va_A (wsM G h z0) sz)) 0 0 (va_A (wsM G h z0) sz) := by
  refine xm_wi (by decide) (Nat.le_of_ble_eq_true rfl) (fun p e s m args below meth c A ls R Q hC hK hA hP hD hS hl hF hL hret => ?_)
  have hx := hC.1
  have hb := hC.2.1
  have hl : lv_has ls 6 [(0, .ref (h 0)), (1, .int x1), (2, .int x2), (3, .int x3)] := hl
  have B156 : ∀ (x4 : Int32) (x5 : Int32) (t0 : Int32) (t1 : Int32) (z0 : wSt) (H : Heap) (locs : List Loc) (ls : Array Slot), wpX6_carried_156  post x4 x5 t0 t1 z0 → va_P G.1 vwCl (wsM G h z0) H → va_D A (wsM G h z0) → va_S A s.heap H locs → lv_has ls 6 [(0, .ref (h 0)), (4, .int x4), (5, .int x5)] → W p l e R s m args below meth c H locs 0 0 Q (F0 m 156 ls [.int t0, .int t1, .ref (h 5)]) := by
    intro x4 x5 t0 t1 z0 H locs ls hw hP hD hS hl
    unfold wpX6_carried_156 at hw
    refine rs_M_5 hC hK hP hD hS (And.left hw) dX6_carried_156 (fun z1 H locs hz1 hP hD hS => ?_)
    have hw := And.right hw z1 hz1
    refine lv_iload hx hb dX6_carried_157 (lv_at hl 2 rfl) ?_
    refine lv_if_ne (tgt := 172) hx hb dX6_carried_159 (by decide) (fun hc => ?_) (fun hc => ?_)
    · have hw := And.left hw hc
      refine lv_iload hx hb dX6_carried_172 (lv_at hl 2 rfl) ?_
      refine lv_iconst (v := (1 : Int32)) hx hb dX6_carried_174 (by decide) ?_
      refine lv_icmp_ne (tgt := 188) hx hb dX6_carried_175 (by decide) (fun hc => ?_) (fun hc => ?_)
      · have hw := And.left hw hc
        refine lv_iload hx hb dX6_carried_188 (lv_at hl 2 rfl) ?_
        refine lv_iconst (v := (2 : Int32)) hx hb dX6_carried_190 (by decide) ?_
        refine lv_icmp_ne (tgt := 204) hx hb dX6_carried_191 (by decide) (fun hc => ?_) (fun hc => ?_)
        · have hw := And.left hw hc
          refine lv_iload hx hb dX6_carried_204 (lv_at hl 2 rfl) ?_
          refine lv_iconst (v := (3 : Int32)) hx hb dX6_carried_206 (by decide) ?_
          refine lv_icmp_ne (tgt := 220) hx hb dX6_carried_207 (by decide) (fun hc => ?_) (fun hc => ?_)
          · have hw := And.left hw hc
            refine lv_aload_n hx hb dX6_carried_220 rfl (lv_at hl 0 rfl) ?_
            refine rg_M_X6_0_4 hC hK hP dX6_carried_221 ?_
            refine lv_iload hx hb dX6_carried_224 (lv_at hl 1 rfl) ?_
            refine rl_M_5 hC hK hP (And.left hw) dX6_carried_226 ?_
            have hw := And.right hw
            exact hret _ _ _ _ _ _ hw hP hD hS dX6_carried_227
          · have hw := And.right hw hc
            refine lv_aload_n hx hb dX6_carried_210 rfl (lv_at hl 0 rfl) ?_
            refine rg_M_X6_0_3 hC hK hP dX6_carried_211 ?_
            refine lv_iload hx hb dX6_carried_214 (lv_at hl 1 rfl) ?_
            refine rl_M_4 hC hK hP (And.left hw) dX6_carried_216 ?_
            have hw := And.right hw
            refine lv_goto (tgt := 227) hx hb dX6_carried_217 (by decide) ?_
            exact hret _ _ _ _ _ _ hw hP hD hS dX6_carried_227
        · have hw := And.right hw hc
          refine lv_aload_n hx hb dX6_carried_194 rfl (lv_at hl 0 rfl) ?_
          refine rg_M_X6_0_2 hC hK hP dX6_carried_195 ?_
          refine lv_iload hx hb dX6_carried_198 (lv_at hl 1 rfl) ?_
          refine rl_M_3 hC hK hP (And.left hw) dX6_carried_200 ?_
          have hw := And.right hw
          refine lv_goto (tgt := 227) hx hb dX6_carried_201 (by decide) ?_
          exact hret _ _ _ _ _ _ hw hP hD hS dX6_carried_227
      · have hw := And.right hw hc
        refine lv_aload_n hx hb dX6_carried_178 rfl (lv_at hl 0 rfl) ?_
        refine rg_M_X6_0_1 hC hK hP dX6_carried_179 ?_
        refine lv_iload hx hb dX6_carried_182 (lv_at hl 1 rfl) ?_
        refine rl_M_2 hC hK hP (And.left hw) dX6_carried_184 ?_
        have hw := And.right hw
        refine lv_goto (tgt := 227) hx hb dX6_carried_185 (by decide) ?_
        exact hret _ _ _ _ _ _ hw hP hD hS dX6_carried_227
    · have hw := And.right hw hc
      refine lv_aload_n hx hb dX6_carried_162 rfl (lv_at hl 0 rfl) ?_
      refine rg_M_X6_0_0 hC hK hP dX6_carried_163 ?_
      refine lv_iload hx hb dX6_carried_166 (lv_at hl 1 rfl) ?_
      refine rl_M_1 hC hK hP (And.left hw) dX6_carried_168 ?_
      have hw := And.right hw
      refine lv_goto (tgt := 227) hx hb dX6_carried_169 (by decide) ?_
      exact hret _ _ _ _ _ _ hw hP hD hS dX6_carried_227
  have B149 : ∀ (x4 : Int32) (x5 : Int32) (t0 : Int32) (z0 : wSt) (H : Heap) (locs : List Loc) (ls : Array Slot), wpX6_carried_149  post x4 x5 t0 z0 → va_P G.1 vwCl (wsM G h z0) H → va_D A (wsM G h z0) → va_S A s.heap H locs → lv_has ls 6 [(0, .ref (h 0)), (4, .int x4), (5, .int x5)] → W p l e R s m args below meth c H locs 0 0 Q (F0 m 149 ls [.int t0, .ref (h 5)]) := by
    intro x4 x5 t0 z0 H locs ls hw hP hD hS hl
    unfold wpX6_carried_149 at hw
    refine lv_aload_n hx hb dX6_carried_149 rfl (lv_at hl 0 rfl) ?_
    refine rg_M_X6_0_4 hC hK hP dX6_carried_150 ?_
    refine lv_iload hx hb dX6_carried_153 (lv_at hl 1 rfl) ?_
    refine rl_M_5 hC hK hP (And.left hw) dX6_carried_155 ?_
    have hw := And.right hw
    exact B156 x4 x5 ((w_a z0 4) x4.toNatClampNeg) t0 z0 _ _ _ hw hP hD hS (lv_sub hl [0, 1, 2] rfl)
  have B128 : ∀ (x2 : Int32) (x3 : Int32) (x4 : Int32) (x5 : Int32) (t0 : Int32) (t1 : Int32) (z0 : wSt) (H : Heap) (locs : List Loc) (ls : Array Slot), wpX6_carried_128  post x2 x3 x4 x5 t0 t1 z0 → va_P G.1 vwCl (wsM G h z0) H → va_D A (wsM G h z0) → va_S A s.heap H locs → lv_has ls 6 [(0, .ref (h 0)), (2, .int x2), (3, .int x3), (4, .int x4), (5, .int x5)] → W p l e R s m args below meth c H locs 0 0 Q (F0 m 128 ls [.int t0, .int t1, .ref (h 4)]) := by
    intro x2 x3 x4 x5 t0 t1 z0 H locs ls hw hP hD hS hl
    unfold wpX6_carried_128 at hw
    refine rs_M_4 hC hK hP hD hS (And.left hw) dX6_carried_128 (fun z1 H locs hz1 hP hD hS => ?_)
    have hw := And.right hw z1 hz1
    refine lv_aload_n hx hb dX6_carried_129 rfl (lv_at hl 0 rfl) ?_
    refine rg_M_X6_0_4 hC hK hP dX6_carried_130 ?_
    refine lv_iload hx hb dX6_carried_133 (lv_at hl 3 rfl) ?_
    refine lv_iload_n hx hb dX6_carried_135 rfl (lv_at hl 2 rfl) ?_
    refine lv_if_eq (tgt := 149) hx hb dX6_carried_136 (by decide) (fun hc => ?_) (fun hc => ?_)
    · have hw := And.left hw hc
      exact B149 x4 x5 x4 z1 _ _ _ hw hP hD hS (lv_sub hl [0, 3, 4] rfl)
    · have hw := And.right hw hc
      refine lv_iload hx hb dX6_carried_139 (lv_at hl 4 rfl) ?_
      refine lv_iconst (v := (4 : Int32)) hx hb dX6_carried_141 (by decide) ?_
      refine lv_icmp_ne (tgt := 149) hx hb dX6_carried_142 (by decide) (fun hc => ?_) (fun hc => ?_)
      · have hw := And.left hw hc
        exact B149 x4 x5 x4 z1 _ _ _ hw hP hD hS (lv_sub hl [0, 3, 4] rfl)
      · have hw := And.right hw hc
        refine lv_iload_n hx hb dX6_carried_145 rfl (lv_at hl 1 rfl) ?_
        refine lv_goto (tgt := 156) hx hb dX6_carried_146 (by decide) ?_
        exact B156 x4 x5 x2 x4 z1 _ _ _ hw hP hD hS (lv_sub hl [0, 3, 4] rfl)
  have B121 : ∀ (x2 : Int32) (x3 : Int32) (x4 : Int32) (x5 : Int32) (t0 : Int32) (z0 : wSt) (H : Heap) (locs : List Loc) (ls : Array Slot), wpX6_carried_121  post x2 x3 x4 x5 t0 z0 → va_P G.1 vwCl (wsM G h z0) H → va_D A (wsM G h z0) → va_S A s.heap H locs → lv_has ls 6 [(0, .ref (h 0)), (2, .int x2), (3, .int x3), (4, .int x4), (5, .int x5)] → W p l e R s m args below meth c H locs 0 0 Q (F0 m 121 ls [.int t0, .ref (h 4)]) := by
    intro x2 x3 x4 x5 t0 z0 H locs ls hw hP hD hS hl
    unfold wpX6_carried_121 at hw
    refine lv_aload_n hx hb dX6_carried_121 rfl (lv_at hl 0 rfl) ?_
    refine rg_M_X6_0_3 hC hK hP dX6_carried_122 ?_
    refine lv_iload hx hb dX6_carried_125 (lv_at hl 3 rfl) ?_
    refine rl_M_4 hC hK hP (And.left hw) dX6_carried_127 ?_
    have hw := And.right hw
    exact B128 x2 x3 x4 x5 ((w_a z0 3) x4.toNatClampNeg) t0 z0 _ _ _ hw hP hD hS (lv_sub hl [0, 1, 2, 3, 4] rfl)
  have B100 : ∀ (x2 : Int32) (x3 : Int32) (x4 : Int32) (x5 : Int32) (t0 : Int32) (t1 : Int32) (z0 : wSt) (H : Heap) (locs : List Loc) (ls : Array Slot), wpX6_carried_100  post x2 x3 x4 x5 t0 t1 z0 → va_P G.1 vwCl (wsM G h z0) H → va_D A (wsM G h z0) → va_S A s.heap H locs → lv_has ls 6 [(0, .ref (h 0)), (2, .int x2), (3, .int x3), (4, .int x4), (5, .int x5)] → W p l e R s m args below meth c H locs 0 0 Q (F0 m 100 ls [.int t0, .int t1, .ref (h 3)]) := by
    intro x2 x3 x4 x5 t0 t1 z0 H locs ls hw hP hD hS hl
    unfold wpX6_carried_100 at hw
    refine rs_M_3 hC hK hP hD hS (And.left hw) dX6_carried_100 (fun z1 H locs hz1 hP hD hS => ?_)
    have hw := And.right hw z1 hz1
    refine lv_aload_n hx hb dX6_carried_101 rfl (lv_at hl 0 rfl) ?_
    refine rg_M_X6_0_3 hC hK hP dX6_carried_102 ?_
    refine lv_iload hx hb dX6_carried_105 (lv_at hl 3 rfl) ?_
    refine lv_iload_n hx hb dX6_carried_107 rfl (lv_at hl 2 rfl) ?_
    refine lv_if_eq (tgt := 121) hx hb dX6_carried_108 (by decide) (fun hc => ?_) (fun hc => ?_)
    · have hw := And.left hw hc
      exact B121 x2 x3 x4 x5 x4 z1 _ _ _ hw hP hD hS (lv_sub hl [0, 1, 2, 3, 4] rfl)
    · have hw := And.right hw hc
      refine lv_iload hx hb dX6_carried_111 (lv_at hl 4 rfl) ?_
      refine lv_iconst (v := (3 : Int32)) hx hb dX6_carried_113 (by decide) ?_
      refine lv_icmp_ne (tgt := 121) hx hb dX6_carried_114 (by decide) (fun hc => ?_) (fun hc => ?_)
      · have hw := And.left hw hc
        exact B121 x2 x3 x4 x5 x4 z1 _ _ _ hw hP hD hS (lv_sub hl [0, 1, 2, 3, 4] rfl)
      · have hw := And.right hw hc
        refine lv_iload_n hx hb dX6_carried_117 rfl (lv_at hl 1 rfl) ?_
        refine lv_goto (tgt := 128) hx hb dX6_carried_118 (by decide) ?_
        exact B128 x2 x3 x4 x5 x2 x4 z1 _ _ _ hw hP hD hS (lv_sub hl [0, 1, 2, 3, 4] rfl)
  have B93 : ∀ (x2 : Int32) (x3 : Int32) (x4 : Int32) (x5 : Int32) (t0 : Int32) (z0 : wSt) (H : Heap) (locs : List Loc) (ls : Array Slot), wpX6_carried_93  post x2 x3 x4 x5 t0 z0 → va_P G.1 vwCl (wsM G h z0) H → va_D A (wsM G h z0) → va_S A s.heap H locs → lv_has ls 6 [(0, .ref (h 0)), (2, .int x2), (3, .int x3), (4, .int x4), (5, .int x5)] → W p l e R s m args below meth c H locs 0 0 Q (F0 m 93 ls [.int t0, .ref (h 3)]) := by
    intro x2 x3 x4 x5 t0 z0 H locs ls hw hP hD hS hl
    unfold wpX6_carried_93 at hw
    refine lv_aload_n hx hb dX6_carried_93 rfl (lv_at hl 0 rfl) ?_
    refine rg_M_X6_0_2 hC hK hP dX6_carried_94 ?_
    refine lv_iload hx hb dX6_carried_97 (lv_at hl 3 rfl) ?_
    refine rl_M_3 hC hK hP (And.left hw) dX6_carried_99 ?_
    have hw := And.right hw
    exact B100 x2 x3 x4 x5 ((w_a z0 2) x4.toNatClampNeg) t0 z0 _ _ _ hw hP hD hS (lv_sub hl [0, 1, 2, 3, 4] rfl)
  have B72 : ∀ (x2 : Int32) (x3 : Int32) (x4 : Int32) (x5 : Int32) (t0 : Int32) (t1 : Int32) (z0 : wSt) (H : Heap) (locs : List Loc) (ls : Array Slot), wpX6_carried_72  post x2 x3 x4 x5 t0 t1 z0 → va_P G.1 vwCl (wsM G h z0) H → va_D A (wsM G h z0) → va_S A s.heap H locs → lv_has ls 6 [(0, .ref (h 0)), (2, .int x2), (3, .int x3), (4, .int x4), (5, .int x5)] → W p l e R s m args below meth c H locs 0 0 Q (F0 m 72 ls [.int t0, .int t1, .ref (h 2)]) := by
    intro x2 x3 x4 x5 t0 t1 z0 H locs ls hw hP hD hS hl
    unfold wpX6_carried_72 at hw
    refine rs_M_2 hC hK hP hD hS (And.left hw) dX6_carried_72 (fun z1 H locs hz1 hP hD hS => ?_)
    have hw := And.right hw z1 hz1
    refine lv_aload_n hx hb dX6_carried_73 rfl (lv_at hl 0 rfl) ?_
    refine rg_M_X6_0_2 hC hK hP dX6_carried_74 ?_
    refine lv_iload hx hb dX6_carried_77 (lv_at hl 3 rfl) ?_
    refine lv_iload_n hx hb dX6_carried_79 rfl (lv_at hl 2 rfl) ?_
    refine lv_if_eq (tgt := 93) hx hb dX6_carried_80 (by decide) (fun hc => ?_) (fun hc => ?_)
    · have hw := And.left hw hc
      exact B93 x2 x3 x4 x5 x4 z1 _ _ _ hw hP hD hS (lv_sub hl [0, 1, 2, 3, 4] rfl)
    · have hw := And.right hw hc
      refine lv_iload hx hb dX6_carried_83 (lv_at hl 4 rfl) ?_
      refine lv_iconst (v := (2 : Int32)) hx hb dX6_carried_85 (by decide) ?_
      refine lv_icmp_ne (tgt := 93) hx hb dX6_carried_86 (by decide) (fun hc => ?_) (fun hc => ?_)
      · have hw := And.left hw hc
        exact B93 x2 x3 x4 x5 x4 z1 _ _ _ hw hP hD hS (lv_sub hl [0, 1, 2, 3, 4] rfl)
      · have hw := And.right hw hc
        refine lv_iload_n hx hb dX6_carried_89 rfl (lv_at hl 1 rfl) ?_
        refine lv_goto (tgt := 100) hx hb dX6_carried_90 (by decide) ?_
        exact B100 x2 x3 x4 x5 x2 x4 z1 _ _ _ hw hP hD hS (lv_sub hl [0, 1, 2, 3, 4] rfl)
  have B65 : ∀ (x2 : Int32) (x3 : Int32) (x4 : Int32) (x5 : Int32) (t0 : Int32) (z0 : wSt) (H : Heap) (locs : List Loc) (ls : Array Slot), wpX6_carried_65  post x2 x3 x4 x5 t0 z0 → va_P G.1 vwCl (wsM G h z0) H → va_D A (wsM G h z0) → va_S A s.heap H locs → lv_has ls 6 [(0, .ref (h 0)), (2, .int x2), (3, .int x3), (4, .int x4), (5, .int x5)] → W p l e R s m args below meth c H locs 0 0 Q (F0 m 65 ls [.int t0, .ref (h 2)]) := by
    intro x2 x3 x4 x5 t0 z0 H locs ls hw hP hD hS hl
    unfold wpX6_carried_65 at hw
    refine lv_aload_n hx hb dX6_carried_65 rfl (lv_at hl 0 rfl) ?_
    refine rg_M_X6_0_1 hC hK hP dX6_carried_66 ?_
    refine lv_iload hx hb dX6_carried_69 (lv_at hl 3 rfl) ?_
    refine rl_M_2 hC hK hP (And.left hw) dX6_carried_71 ?_
    have hw := And.right hw
    exact B72 x2 x3 x4 x5 ((w_a z0 1) x4.toNatClampNeg) t0 z0 _ _ _ hw hP hD hS (lv_sub hl [0, 1, 2, 3, 4] rfl)
  have B44 : ∀ (x2 : Int32) (x3 : Int32) (x4 : Int32) (x5 : Int32) (t0 : Int32) (t1 : Int32) (z0 : wSt) (H : Heap) (locs : List Loc) (ls : Array Slot), wpX6_carried_44  post x2 x3 x4 x5 t0 t1 z0 → va_P G.1 vwCl (wsM G h z0) H → va_D A (wsM G h z0) → va_S A s.heap H locs → lv_has ls 6 [(0, .ref (h 0)), (2, .int x2), (3, .int x3), (4, .int x4), (5, .int x5)] → W p l e R s m args below meth c H locs 0 0 Q (F0 m 44 ls [.int t0, .int t1, .ref (h 1)]) := by
    intro x2 x3 x4 x5 t0 t1 z0 H locs ls hw hP hD hS hl
    unfold wpX6_carried_44 at hw
    refine rs_M_1 hC hK hP hD hS (And.left hw) dX6_carried_44 (fun z1 H locs hz1 hP hD hS => ?_)
    have hw := And.right hw z1 hz1
    refine lv_aload_n hx hb dX6_carried_45 rfl (lv_at hl 0 rfl) ?_
    refine rg_M_X6_0_1 hC hK hP dX6_carried_46 ?_
    refine lv_iload hx hb dX6_carried_49 (lv_at hl 3 rfl) ?_
    refine lv_iload_n hx hb dX6_carried_51 rfl (lv_at hl 2 rfl) ?_
    refine lv_if_eq (tgt := 65) hx hb dX6_carried_52 (by decide) (fun hc => ?_) (fun hc => ?_)
    · have hw := And.left hw hc
      exact B65 x2 x3 x4 x5 x4 z1 _ _ _ hw hP hD hS (lv_sub hl [0, 1, 2, 3, 4] rfl)
    · have hw := And.right hw hc
      refine lv_iload hx hb dX6_carried_55 (lv_at hl 4 rfl) ?_
      refine lv_iconst (v := (1 : Int32)) hx hb dX6_carried_57 (by decide) ?_
      refine lv_icmp_ne (tgt := 65) hx hb dX6_carried_58 (by decide) (fun hc => ?_) (fun hc => ?_)
      · have hw := And.left hw hc
        exact B65 x2 x3 x4 x5 x4 z1 _ _ _ hw hP hD hS (lv_sub hl [0, 1, 2, 3, 4] rfl)
      · have hw := And.right hw hc
        refine lv_iload_n hx hb dX6_carried_61 rfl (lv_at hl 1 rfl) ?_
        refine lv_goto (tgt := 72) hx hb dX6_carried_62 (by decide) ?_
        exact B72 x2 x3 x4 x5 x2 x4 z1 _ _ _ hw hP hD hS (lv_sub hl [0, 1, 2, 3, 4] rfl)
  have B37 : ∀ (x2 : Int32) (x3 : Int32) (x4 : Int32) (x5 : Int32) (t0 : Int32) (z0 : wSt) (H : Heap) (locs : List Loc) (ls : Array Slot), wpX6_carried_37  post x2 x3 x4 x5 t0 z0 → va_P G.1 vwCl (wsM G h z0) H → va_D A (wsM G h z0) → va_S A s.heap H locs → lv_has ls 6 [(0, .ref (h 0)), (2, .int x2), (3, .int x3), (4, .int x4), (5, .int x5)] → W p l e R s m args below meth c H locs 0 0 Q (F0 m 37 ls [.int t0, .ref (h 1)]) := by
    intro x2 x3 x4 x5 t0 z0 H locs ls hw hP hD hS hl
    unfold wpX6_carried_37 at hw
    refine lv_aload_n hx hb dX6_carried_37 rfl (lv_at hl 0 rfl) ?_
    refine rg_M_X6_0_0 hC hK hP dX6_carried_38 ?_
    refine lv_iload hx hb dX6_carried_41 (lv_at hl 3 rfl) ?_
    refine rl_M_1 hC hK hP (And.left hw) dX6_carried_43 ?_
    have hw := And.right hw
    exact B44 x2 x3 x4 x5 ((w_a z0 0) x4.toNatClampNeg) t0 z0 _ _ _ hw hP hD hS (lv_sub hl [0, 1, 2, 3, 4] rfl)
  have B253 : ∀ (x1 : Int32) (t0 : Int32) (t1 : Int32) (z0 : wSt) (H : Heap) (locs : List Loc) (ls : Array Slot), wpX6_carried_253  post x1 t0 t1 z0 → va_P G.1 vwCl (wsM G h z0) H → va_D A (wsM G h z0) → va_S A s.heap H locs → lv_has ls 6 [(0, .ref (h 0)), (1, .int x1)] → W p l e R s m args below meth c H locs 0 0 Q (F0 m 253 ls [.int t0, .int t1, .ref (h 6)]) := by
    intro x1 t0 t1 z0 H locs ls hw hP hD hS hl
    unfold wpX6_carried_253 at hw
    refine rs_M_6 hC hK hP hD hS (And.left hw) dX6_carried_253 (fun z1 H locs hz1 hP hD hS => ?_)
    have hw := And.right hw z1 hz1
    refine lv_aload_n hx hb dX6_carried_254 rfl (lv_at hl 0 rfl) ?_
    refine rg_M_X6_0_13 hC hK hP dX6_carried_255 ?_
    refine lv_iload_n hx hb dX6_carried_258 rfl (lv_at hl 1 rfl) ?_
    refine lv_bipush (v := (30 : Int32)) hx hb dX6_carried_259 (by decide) ?_
    refine lv_isub hx hb dX6_carried_261 ?_
    refine rl_M_6 hC hK hP (And.left hw) dX6_carried_262 ?_
    have hw := And.right hw
    exact hret _ _ _ _ _ _ hw hP hD hS dX6_carried_263
  unfold wpX6_carried at hw
  refine lv_iload_n hx hb dX6_carried_0 rfl (lv_at hl 1 rfl) ?_
  refine lv_bipush (v := (30 : Int32)) hx hb dX6_carried_1 (by decide) ?_
  refine lv_icmp_ge (tgt := 228) hx hb dX6_carried_3 (by decide) (fun hc => ?_) (fun hc => ?_)
  · have hw := And.left hw hc
    refine lv_aload_n hx hb dX6_carried_228 rfl (lv_at hl 0 rfl) ?_
    refine rg_M_X6_0_13 hC hK hP dX6_carried_229 ?_
    refine lv_iload_n hx hb dX6_carried_232 rfl (lv_at hl 1 rfl) ?_
    refine lv_bipush (v := (30 : Int32)) hx hb dX6_carried_233 (by decide) ?_
    refine lv_isub hx hb dX6_carried_235 ?_
    refine lv_iload_n hx hb dX6_carried_236 rfl (lv_at hl 3 rfl) ?_
    refine lv_if_eq (tgt := 244) hx hb dX6_carried_237 (by decide) (fun hc => ?_) (fun hc => ?_)
    · have hw := And.left hw hc
      refine lv_aload_n hx hb dX6_carried_244 rfl (lv_at hl 0 rfl) ?_
      refine rg_M_X6_0_13 hC hK hP dX6_carried_245 ?_
      refine lv_iload_n hx hb dX6_carried_248 rfl (lv_at hl 1 rfl) ?_
      refine lv_bipush (v := (30 : Int32)) hx hb dX6_carried_249 (by decide) ?_
      refine lv_isub hx hb dX6_carried_251 ?_
      refine rl_M_6 hC hK hP (And.left hw) dX6_carried_252 ?_
      have hw := And.right hw
      exact B253 x1 ((w_a z0 13) (x1 - (30 : Int32)).toNatClampNeg) (x1 - (30 : Int32)) z0 _ _ _ hw hP hD hS (lv_sub hl [0, 1] rfl)
    · have hw := And.right hw hc
      refine lv_iload_n hx hb dX6_carried_240 rfl (lv_at hl 2 rfl) ?_
      refine lv_goto (tgt := 253) hx hb dX6_carried_241 (by decide) ?_
      exact B253 x1 x2 (x1 - (30 : Int32)) z0 _ _ _ hw hP hD hS (lv_sub hl [0, 1] rfl)
  · have hw := And.right hw hc
    refine lv_iload_n hx hb dX6_carried_6 rfl (lv_at hl 1 rfl) ?_
    refine lv_bipush (v := (6 : Int32)) hx hb dX6_carried_7 (by decide) ?_
    refine lv_irem hx hb dX6_carried_9 (And.left hw) ?_
    have hw := And.right hw
    refine lv_istore (lv' := [(4, .int (x1 - x1 / (6 : Int32) * (6 : Int32))), (0, .ref (h 0)), (1, .int x1), (2, .int x2), (3, .int x3)]) hx hb dX6_carried_10 hl (by decide) rfl (fun ls hl => ?_)
    refine lv_iload_n hx hb dX6_carried_12 rfl (lv_at hl 2 rfl) ?_
    refine lv_bipush (v := (6 : Int32)) hx hb dX6_carried_13 (by decide) ?_
    refine lv_idiv hx hb dX6_carried_15 (And.left hw) ?_
    have hw := And.right hw
    refine lv_istore (lv' := [(5, .int (x1 / (6 : Int32))), (4, .int (x1 - x1 / (6 : Int32) * (6 : Int32))), (0, .ref (h 0)), (1, .int x1), (2, .int x2), (3, .int x3)]) hx hb dX6_carried_16 hl (by decide) rfl (fun ls hl => ?_)
    refine lv_aload_n hx hb dX6_carried_18 rfl (lv_at hl 2 rfl) ?_
    refine rg_M_X6_0_0 hC hK hP dX6_carried_19 ?_
    refine lv_iload hx hb dX6_carried_22 (lv_at hl 1 rfl) ?_
    refine lv_iload_n hx hb dX6_carried_24 rfl (lv_at hl 5 rfl) ?_
    refine lv_if_eq (tgt := 37) hx hb dX6_carried_25 (by decide) (fun hc => ?_) (fun hc => ?_)
    · have hw := And.left hw hc
      exact B37 x2 x3 (x1 - x1 / (6 : Int32) * (6 : Int32)) (x1 / (6 : Int32)) (x1 - x1 / (6 : Int32) * (6 : Int32)) z0 _ _ _ hw hP hD hS (lv_sub hl [2, 4, 5, 1, 0] rfl)
    · have hw := And.right hw hc
      refine lv_iload hx hb dX6_carried_28 (lv_at hl 0 rfl) ?_
      refine lv_if_ne (tgt := 37) hx hb dX6_carried_30 (by decide) (fun hc => ?_) (fun hc => ?_)
      · have hw := And.left hw hc
        exact B37 x2 x3 (x1 - x1 / (6 : Int32) * (6 : Int32)) (x1 / (6 : Int32)) (x1 - x1 / (6 : Int32) * (6 : Int32)) z0 _ _ _ hw hP hD hS (lv_sub hl [2, 4, 5, 1, 0] rfl)
      · have hw := And.right hw hc
        refine lv_iload_n hx hb dX6_carried_33 rfl (lv_at hl 4 rfl) ?_
        refine lv_goto (tgt := 44) hx hb dX6_carried_34 (by decide) ?_
        exact B44 x2 x3 (x1 - x1 / (6 : Int32) * (6 : Int32)) (x1 / (6 : Int32)) x2 (x1 - x1 / (6 : Int32) * (6 : Int32)) z0 _ _ _ hw hP hD hS (lv_sub hl [2, 4, 5, 1, 0] rfl)
def wpX6_image_2 (k2 : Int32 → (wSt) → Prop) (post : Int32 → (wSt) → Prop) (x1 : Int32) (z0 : wSt) : Prop := (((54 : Int32) ≤ x1 → (vp_in (54 : Int32) 64 ∧ ∀ z1 : wSt, z1 = (w_sa z0 31 (upd (w_a z0 31) (54 : Int32).toNatClampNeg (w_i z0 5))) → (vp_in (55 : Int32) 64 ∧ ∀ z2 : wSt, z2 = (w_sa z1 31 (upd (w_a z1 31) (55 : Int32).toNatClampNeg (w_i z1 6))) → (vp_in (56 : Int32) 64 ∧ ∀ z3 : wSt, z3 = (w_sa z2 31 (upd (w_a z2 31) (56 : Int32).toNatClampNeg (w_i z2 7))) → (vp_in (57 : Int32) 64 ∧ ∀ z4 : wSt, z4 = (w_sa z3 31 (upd (w_a z3 31) (57 : Int32).toNatClampNeg (w_i z3 8))) → (vp_in (58 : Int32) 64 ∧ ∀ z5 : wSt, z5 = (w_sa z4 31 (upd (w_a z4 31) (58 : Int32).toNatClampNeg (w_i z4 9))) → (vp_in (59 : Int32) 64 ∧ ∀ z6 : wSt, z6 = (w_sa z5 31 (upd (w_a z5 31) (59 : Int32).toNatClampNeg (w_i z5 10))) → (vp_in (60 : Int32) 64 ∧ ∀ z7 : wSt, z7 = (w_sa z6 31 (upd (w_a z6 31) (60 : Int32).toNatClampNeg (w_i z6 11))) → (vp_in (61 : Int32) 64 ∧ ∀ z8 : wSt, z8 = (w_sa z7 31 (upd (w_a z7 31) (61 : Int32).toNatClampNeg (w_i z7 12))) → (vp_in (62 : Int32) 64 ∧ ∀ z9 : wSt, z9 = (w_sa z8 31 (upd (w_a z8 31) (62 : Int32).toNatClampNeg (w_i z8 14))) → (vp_in (63 : Int32) 64 ∧ ∀ z10 : wSt, z10 = (w_sa z9 31 (upd (w_a z9 31) (63 : Int32).toNatClampNeg (w_i z9 15))) → (∀ z11 : wSt, z11 = (w_si z10 30 (1 : Int32)) → (post (1 : Int32) z11))))))))))))) ∧ (¬ (54 : Int32) ≤ x1 → (wpX6_carried x1 (0 : Int32) (0 : Int32) z0 (fun r1 u => ∀ z12 : wSt, z12 = u → (vp_in x1 64 ∧ ∀ z13 : wSt, z13 = (w_sa z12 31 (upd (w_a z12 31) x1.toNatClampNeg r1)) → (k2 (x1 + (1 : Int32)) z13))))))
def wpX6_image_L2  (post : Int32 → (wSt) → Prop) : Nat → Int32 → (wSt) → Prop
  | 0 => fun _ _ => False
  | n + 1 => fun x1 z0 => wpX6_image_2  (wpX6_image_L2  post n) post x1 z0
def wpX6_image (z0 : wSt) (post : Int32 → (wSt) → Prop) : Prop := (∃ n, wpX6_image_L2  post n (0 : Int32) z0)
set_option maxHeartbeats 4000000 in
set_option maxRecDepth 100000 in
theorem cX6_image_c {l : Launch} {G : wG} {h : Nat → Nat} {sz : Nat}  {post : Int32 → (wSt) → Prop} {z0 : wSt}  (hw : wpX6_image z0 post) : Met l yX6_image (.code yX6_image cX6_image 2 (some .int) :: BIG) { frames := 1, cells := 0, slots := 0, locals := 25 } (xPw G [.ref (h 0)] (wsM G h z0) sz) (xQi G post (fun q => (wsM G h q)) (va_A (wsM G h z0) sz)) 0 0 (va_A (wsM G h z0) sz) := by
  refine xm_wi (by decide) (Nat.le_of_ble_eq_true rfl) (fun p e s m args below meth c A ls R Q hC hK hA hP hD hS hl hF hL hret => ?_)
  have hx := hC.1
  have hb := hC.2.1
  have hl : lv_has ls 2 [(0, .ref (h 0))] := hl
  have B2 : ∀ n : Nat, ∀ (x1 : Int32) (z0 : wSt) (H : Heap) (locs : List Loc) (ls : Array Slot), wpX6_image_L2  post n x1 z0 → va_P G.1 vwCl (wsM G h z0) H → va_D A (wsM G h z0) → va_S A s.heap H locs → lv_has ls 2 [(0, .ref (h 0)), (1, .int x1)] → W p l e R s m args below meth c H locs 0 0 Q (F0 m 2 ls []) := by
    intro n
    induction n with
    | zero => intro x1 z0 H locs ls hw hP hD hS hl; exact False.elim hw
    | succ n I2 =>
      intro x1 z0 H locs ls hw hP hD hS hl
      have hw : wpX6_image_2  (wpX6_image_L2  post n) post x1 z0 := hw
      unfold wpX6_image_2 at hw
      refine lv_iload_n hx hb dX6_image_2 rfl (lv_at hl 1 rfl) ?_
      refine lv_bipush (v := (54 : Int32)) hx hb dX6_image_3 (by decide) ?_
      refine lv_icmp_ge (tgt := 27) hx hb dX6_image_5 (by decide) (fun hc => ?_) (fun hc => ?_)
      · have hw := And.left hw hc
        refine lv_aload_n hx hb dX6_image_27 rfl (lv_at hl 0 rfl) ?_
        refine rg_M_X6_0_31 hC hK hP dX6_image_28 ?_
        refine lv_bipush (v := (54 : Int32)) hx hb dX6_image_31 (by decide) ?_
        refine lv_aload_n hx hb dX6_image_33 rfl (lv_at hl 0 rfl) ?_
        refine rg_M_X6_0_5 hC hK hP dX6_image_34 ?_
        refine rs_M_12 hC hK hP hD hS (And.left hw) dX6_image_37 (fun z1 H locs hz1 hP hD hS => ?_)
        have hw := And.right hw z1 hz1
        refine lv_aload_n hx hb dX6_image_38 rfl (lv_at hl 0 rfl) ?_
        refine rg_M_X6_0_31 hC hK hP dX6_image_39 ?_
        refine lv_bipush (v := (55 : Int32)) hx hb dX6_image_42 (by decide) ?_
        refine lv_aload_n hx hb dX6_image_44 rfl (lv_at hl 0 rfl) ?_
        refine rg_M_X6_0_6 hC hK hP dX6_image_45 ?_
        refine rs_M_12 hC hK hP hD hS (And.left hw) dX6_image_48 (fun z2 H locs hz1 hP hD hS => ?_)
        have hw := And.right hw z2 hz1
        refine lv_aload_n hx hb dX6_image_49 rfl (lv_at hl 0 rfl) ?_
        refine rg_M_X6_0_31 hC hK hP dX6_image_50 ?_
        refine lv_bipush (v := (56 : Int32)) hx hb dX6_image_53 (by decide) ?_
        refine lv_aload_n hx hb dX6_image_55 rfl (lv_at hl 0 rfl) ?_
        refine rg_M_X6_0_7 hC hK hP dX6_image_56 ?_
        refine rs_M_12 hC hK hP hD hS (And.left hw) dX6_image_59 (fun z3 H locs hz1 hP hD hS => ?_)
        have hw := And.right hw z3 hz1
        refine lv_aload_n hx hb dX6_image_60 rfl (lv_at hl 0 rfl) ?_
        refine rg_M_X6_0_31 hC hK hP dX6_image_61 ?_
        refine lv_bipush (v := (57 : Int32)) hx hb dX6_image_64 (by decide) ?_
        refine lv_aload_n hx hb dX6_image_66 rfl (lv_at hl 0 rfl) ?_
        refine rg_M_X6_0_8 hC hK hP dX6_image_67 ?_
        refine rs_M_12 hC hK hP hD hS (And.left hw) dX6_image_70 (fun z4 H locs hz1 hP hD hS => ?_)
        have hw := And.right hw z4 hz1
        refine lv_aload_n hx hb dX6_image_71 rfl (lv_at hl 0 rfl) ?_
        refine rg_M_X6_0_31 hC hK hP dX6_image_72 ?_
        refine lv_bipush (v := (58 : Int32)) hx hb dX6_image_75 (by decide) ?_
        refine lv_aload_n hx hb dX6_image_77 rfl (lv_at hl 0 rfl) ?_
        refine rg_M_X6_0_9 hC hK hP dX6_image_78 ?_
        refine rs_M_12 hC hK hP hD hS (And.left hw) dX6_image_81 (fun z5 H locs hz1 hP hD hS => ?_)
        have hw := And.right hw z5 hz1
        refine lv_aload_n hx hb dX6_image_82 rfl (lv_at hl 0 rfl) ?_
        refine rg_M_X6_0_31 hC hK hP dX6_image_83 ?_
        refine lv_bipush (v := (59 : Int32)) hx hb dX6_image_86 (by decide) ?_
        refine lv_aload_n hx hb dX6_image_88 rfl (lv_at hl 0 rfl) ?_
        refine rg_M_X6_0_10 hC hK hP dX6_image_89 ?_
        refine rs_M_12 hC hK hP hD hS (And.left hw) dX6_image_92 (fun z6 H locs hz1 hP hD hS => ?_)
        have hw := And.right hw z6 hz1
        refine lv_aload_n hx hb dX6_image_93 rfl (lv_at hl 0 rfl) ?_
        refine rg_M_X6_0_31 hC hK hP dX6_image_94 ?_
        refine lv_bipush (v := (60 : Int32)) hx hb dX6_image_97 (by decide) ?_
        refine lv_aload_n hx hb dX6_image_99 rfl (lv_at hl 0 rfl) ?_
        refine rg_M_X6_0_11 hC hK hP dX6_image_100 ?_
        refine rs_M_12 hC hK hP hD hS (And.left hw) dX6_image_103 (fun z7 H locs hz1 hP hD hS => ?_)
        have hw := And.right hw z7 hz1
        refine lv_aload_n hx hb dX6_image_104 rfl (lv_at hl 0 rfl) ?_
        refine rg_M_X6_0_31 hC hK hP dX6_image_105 ?_
        refine lv_bipush (v := (61 : Int32)) hx hb dX6_image_108 (by decide) ?_
        refine lv_aload_n hx hb dX6_image_110 rfl (lv_at hl 0 rfl) ?_
        refine rg_M_X6_0_12 hC hK hP dX6_image_111 ?_
        refine rs_M_12 hC hK hP hD hS (And.left hw) dX6_image_114 (fun z8 H locs hz1 hP hD hS => ?_)
        have hw := And.right hw z8 hz1
        refine lv_aload_n hx hb dX6_image_115 rfl (lv_at hl 0 rfl) ?_
        refine rg_M_X6_0_31 hC hK hP dX6_image_116 ?_
        refine lv_bipush (v := (62 : Int32)) hx hb dX6_image_119 (by decide) ?_
        refine lv_aload_n hx hb dX6_image_121 rfl (lv_at hl 0 rfl) ?_
        refine rg_M_X6_0_14 hC hK hP dX6_image_122 ?_
        refine rs_M_12 hC hK hP hD hS (And.left hw) dX6_image_125 (fun z9 H locs hz1 hP hD hS => ?_)
        have hw := And.right hw z9 hz1
        refine lv_aload_n hx hb dX6_image_126 rfl (lv_at hl 0 rfl) ?_
        refine rg_M_X6_0_31 hC hK hP dX6_image_127 ?_
        refine lv_bipush (v := (63 : Int32)) hx hb dX6_image_130 (by decide) ?_
        refine lv_aload_n hx hb dX6_image_132 rfl (lv_at hl 0 rfl) ?_
        refine rg_M_X6_0_15 hC hK hP dX6_image_133 ?_
        refine rs_M_12 hC hK hP hD hS (And.left hw) dX6_image_136 (fun z10 H locs hz1 hP hD hS => ?_)
        have hw := And.right hw z10 hz1
        refine lv_aload_n hx hb dX6_image_137 rfl (lv_at hl 0 rfl) ?_
        refine lv_iconst (v := (1 : Int32)) hx hb dX6_image_138 (by decide) ?_
        refine rp_M_X6_0_30 (⟨rfl, rfl⟩) hC hK hP hD hS dX6_image_139 (fun z11 H locs hz1 hP hD hS => ?_)
        have hw := hw z11 hz1
        refine lv_iconst (v := (1 : Int32)) hx hb dX6_image_142 (by decide) ?_
        exact hret _ _ _ _ _ _ hw hP hD hS dX6_image_143
      · have hw := And.right hw hc
        refine lv_aload_n hx hb dX6_image_8 rfl (lv_at hl 0 rfl) ?_
        refine rg_M_X6_0_31 hC hK hP dX6_image_9 ?_
        refine lv_iload_n hx hb dX6_image_12 rfl (lv_at hl 1 rfl) ?_
        refine lv_aload_n hx hb dX6_image_13 rfl (lv_at hl 0 rfl) ?_
        refine lv_iload_n hx hb dX6_image_14 rfl (lv_at hl 1 rfl) ?_
        refine lv_iconst (v := (0 : Int32)) hx hb dX6_image_15 (by decide) ?_
        refine lv_iconst (v := (0 : Int32)) hx hb dX6_image_16 (by decide) ?_
        refine xc_wi (wsz := fun q => (wsM G h q)) (f := fun u => u) (xr_V hC (cX6_carried_c (h := h) hw) ⟨rfl, rfl⟩ bw_891 calX6_carried ⟨Nat.le_trans (Nat.le_of_ble_eq_true rfl) hF, Nat.le_trans (Nat.le_of_ble_eq_true rfl) hL⟩ (rest := [.int x1, .ref (h 12)]) (xpV hK (cut_all_M) hP hD rfl rfl) rfl hl rfl (Nat.le_of_ble_eq_true rfl) dX6_image_17 ⟨Nat.zero_le _, Nat.zero_le _⟩) (cut_all_M) hP hD hS hA (fun r1 u z12 H locs hz1 hw hP hD hS => ?_)
        have hw := hw z12 hz1
        refine rs_M_12 hC hK hP hD hS (And.left hw) dX6_image_20 (fun z13 H locs hz1 hP hD hS => ?_)
        have hw := And.right hw z13 hz1
        refine lv_iinc (v := (x1 + (1 : Int32))) (lv' := [(1, .int (x1 + (1 : Int32))), (0, .ref (h 0))]) hx hb dX6_image_21 hl (k := 1) rfl rfl (by decide) rfl (fun ls hl => ?_)
        refine lv_goto (tgt := 2) hx hb dX6_image_24 (by decide) ?_
        exact I2 (x1 + (1 : Int32)) z13 _ _ _ hw hP hD hS (lv_sub hl [1, 0] rfl)
  unfold wpX6_image at hw
  refine lv_iconst (v := (0 : Int32)) hx hb dX6_image_0 (by decide) ?_
  refine lv_istore_n (lv' := [(1, .int (0 : Int32)), (0, .ref (h 0))]) hx hb dX6_image_1 rfl hl (by decide) rfl (fun ls hl => ?_)
  obtain ⟨n2, hw⟩ := hw
  exact B2 n2 (0 : Int32) z0 _ _ _ hw hP hD hS (lv_sub hl [1, 0] rfl)
def wpX6_restore_12 (k12 : Int32 → (wSt) → Prop) (post : Int32 → (wSt) → Prop) (x1 : Int32) (z0 : wSt) : Prop := (((54 : Int32) ≤ x1 → (vp_in (54 : Int32) 64 ∧ (∀ z1 : wSt, z1 = (w_si z0 5 ((w_a z0 31) (54 : Int32).toNatClampNeg)) → (vp_in (55 : Int32) 64 ∧ (∀ z2 : wSt, z2 = (w_si z1 6 ((w_a z1 31) (55 : Int32).toNatClampNeg)) → (vp_in (56 : Int32) 64 ∧ (∀ z3 : wSt, z3 = (w_si z2 7 ((w_a z2 31) (56 : Int32).toNatClampNeg)) → (vp_in (57 : Int32) 64 ∧ (∀ z4 : wSt, z4 = (w_si z3 8 ((w_a z3 31) (57 : Int32).toNatClampNeg)) → (vp_in (58 : Int32) 64 ∧ (∀ z5 : wSt, z5 = (w_si z4 9 ((w_a z4 31) (58 : Int32).toNatClampNeg)) → (vp_in (59 : Int32) 64 ∧ (∀ z6 : wSt, z6 = (w_si z5 10 ((w_a z5 31) (59 : Int32).toNatClampNeg)) → (vp_in (60 : Int32) 64 ∧ (∀ z7 : wSt, z7 = (w_si z6 11 ((w_a z6 31) (60 : Int32).toNatClampNeg)) → (vp_in (61 : Int32) 64 ∧ (∀ z8 : wSt, z8 = (w_si z7 12 ((w_a z7 31) (61 : Int32).toNatClampNeg)) → (vp_in (62 : Int32) 64 ∧ (∀ z9 : wSt, z9 = (w_si z8 14 ((w_a z8 31) (62 : Int32).toNatClampNeg)) → (vp_in (63 : Int32) 64 ∧ (∀ z10 : wSt, z10 = (w_si z9 15 ((w_a z9 31) (63 : Int32).toNatClampNeg)) → (post (1 : Int32) z10)))))))))))))))))))))) ∧ (¬ (54 : Int32) ≤ x1 → (vp_in x1 64 ∧ (wpX6_carried x1 ((w_a z0 31) x1.toNatClampNeg) (1 : Int32) z0 (fun r1 u => ∀ z11 : wSt, z11 = u → (k12 (x1 + (1 : Int32)) z11))))))
def wpX6_restore_L12  (post : Int32 → (wSt) → Prop) : Nat → Int32 → (wSt) → Prop
  | 0 => fun _ _ => False
  | n + 1 => fun x1 z0 => wpX6_restore_12  (wpX6_restore_L12  post n) post x1 z0
def wpX6_restore (z0 : wSt) (post : Int32 → (wSt) → Prop) : Prop := ((¬ (w_i z0 30) = 0 → (∃ n, wpX6_restore_L12  post n (0 : Int32) z0)) ∧ ((w_i z0 30) = 0 → (post (-4 : Int32) z0)))
set_option maxHeartbeats 4000000 in
set_option maxRecDepth 100000 in
theorem cX6_restore_c {l : Launch} {G : wG} {h : Nat → Nat} {sz : Nat}  {post : Int32 → (wSt) → Prop} {z0 : wSt}  (hw : wpX6_restore z0 post) : Met l yX6_restore (.code yX6_restore cX6_restore 2 (some .int) :: BIG) { frames := 1, cells := 0, slots := 0, locals := 25 } (xPw G [.ref (h 0)] (wsM G h z0) sz) (xQi G post (fun q => (wsM G h q)) (va_A (wsM G h z0) sz)) 0 0 (va_A (wsM G h z0) sz) := by
  refine xm_wi (by decide) (Nat.le_of_ble_eq_true rfl) (fun p e s m args below meth c A ls R Q hC hK hA hP hD hS hl hF hL hret => ?_)
  have hx := hC.1
  have hb := hC.2.1
  have hl : lv_has ls 2 [(0, .ref (h 0))] := hl
  have B12 : ∀ n : Nat, ∀ (x1 : Int32) (z0 : wSt) (H : Heap) (locs : List Loc) (ls : Array Slot), wpX6_restore_L12  post n x1 z0 → va_P G.1 vwCl (wsM G h z0) H → va_D A (wsM G h z0) → va_S A s.heap H locs → lv_has ls 2 [(0, .ref (h 0)), (1, .int x1)] → W p l e R s m args below meth c H locs 0 0 Q (F0 m 12 ls []) := by
    intro n
    induction n with
    | zero => intro x1 z0 H locs ls hw hP hD hS hl; exact False.elim hw
    | succ n I12 =>
      intro x1 z0 H locs ls hw hP hD hS hl
      have hw : wpX6_restore_12  (wpX6_restore_L12  post n) post x1 z0 := hw
      unfold wpX6_restore_12 at hw
      refine lv_iload_n hx hb dX6_restore_12 rfl (lv_at hl 1 rfl) ?_
      refine lv_bipush (v := (54 : Int32)) hx hb dX6_restore_13 (by decide) ?_
      refine lv_icmp_ge (tgt := 37) hx hb dX6_restore_15 (by decide) (fun hc => ?_) (fun hc => ?_)
      · have hw := And.left hw hc
        refine lv_aload_n hx hb dX6_restore_37 rfl (lv_at hl 0 rfl) ?_
        refine lv_aload_n hx hb dX6_restore_38 rfl (lv_at hl 0 rfl) ?_
        refine rg_M_X6_0_31 hC hK hP dX6_restore_39 ?_
        refine lv_bipush (v := (54 : Int32)) hx hb dX6_restore_42 (by decide) ?_
        refine rl_M_12 hC hK hP (And.left hw) dX6_restore_44 ?_
        have hw := And.right hw
        refine rp_M_X6_0_5 hC hK hP hD hS dX6_restore_45 (fun z1 H locs hz1 hP hD hS => ?_)
        have hw := hw z1 hz1
        refine lv_aload_n hx hb dX6_restore_48 rfl (lv_at hl 0 rfl) ?_
        refine lv_aload_n hx hb dX6_restore_49 rfl (lv_at hl 0 rfl) ?_
        refine rg_M_X6_0_31 hC hK hP dX6_restore_50 ?_
        refine lv_bipush (v := (55 : Int32)) hx hb dX6_restore_53 (by decide) ?_
        refine rl_M_12 hC hK hP (And.left hw) dX6_restore_55 ?_
        have hw := And.right hw
        refine rp_M_X6_0_6 hC hK hP hD hS dX6_restore_56 (fun z2 H locs hz1 hP hD hS => ?_)
        have hw := hw z2 hz1
        refine lv_aload_n hx hb dX6_restore_59 rfl (lv_at hl 0 rfl) ?_
        refine lv_aload_n hx hb dX6_restore_60 rfl (lv_at hl 0 rfl) ?_
        refine rg_M_X6_0_31 hC hK hP dX6_restore_61 ?_
        refine lv_bipush (v := (56 : Int32)) hx hb dX6_restore_64 (by decide) ?_
        refine rl_M_12 hC hK hP (And.left hw) dX6_restore_66 ?_
        have hw := And.right hw
        refine rp_M_X6_0_7 hC hK hP hD hS dX6_restore_67 (fun z3 H locs hz1 hP hD hS => ?_)
        have hw := hw z3 hz1
        refine lv_aload_n hx hb dX6_restore_70 rfl (lv_at hl 0 rfl) ?_
        refine lv_aload_n hx hb dX6_restore_71 rfl (lv_at hl 0 rfl) ?_
        refine rg_M_X6_0_31 hC hK hP dX6_restore_72 ?_
        refine lv_bipush (v := (57 : Int32)) hx hb dX6_restore_75 (by decide) ?_
        refine rl_M_12 hC hK hP (And.left hw) dX6_restore_77 ?_
        have hw := And.right hw
        refine rp_M_X6_0_8 hC hK hP hD hS dX6_restore_78 (fun z4 H locs hz1 hP hD hS => ?_)
        have hw := hw z4 hz1
        refine lv_aload_n hx hb dX6_restore_81 rfl (lv_at hl 0 rfl) ?_
        refine lv_aload_n hx hb dX6_restore_82 rfl (lv_at hl 0 rfl) ?_
        refine rg_M_X6_0_31 hC hK hP dX6_restore_83 ?_
        refine lv_bipush (v := (58 : Int32)) hx hb dX6_restore_86 (by decide) ?_
        refine rl_M_12 hC hK hP (And.left hw) dX6_restore_88 ?_
        have hw := And.right hw
        refine rp_M_X6_0_9 hC hK hP hD hS dX6_restore_89 (fun z5 H locs hz1 hP hD hS => ?_)
        have hw := hw z5 hz1
        refine lv_aload_n hx hb dX6_restore_92 rfl (lv_at hl 0 rfl) ?_
        refine lv_aload_n hx hb dX6_restore_93 rfl (lv_at hl 0 rfl) ?_
        refine rg_M_X6_0_31 hC hK hP dX6_restore_94 ?_
        refine lv_bipush (v := (59 : Int32)) hx hb dX6_restore_97 (by decide) ?_
        refine rl_M_12 hC hK hP (And.left hw) dX6_restore_99 ?_
        have hw := And.right hw
        refine rp_M_X6_0_10 hC hK hP hD hS dX6_restore_100 (fun z6 H locs hz1 hP hD hS => ?_)
        have hw := hw z6 hz1
        refine lv_aload_n hx hb dX6_restore_103 rfl (lv_at hl 0 rfl) ?_
        refine lv_aload_n hx hb dX6_restore_104 rfl (lv_at hl 0 rfl) ?_
        refine rg_M_X6_0_31 hC hK hP dX6_restore_105 ?_
        refine lv_bipush (v := (60 : Int32)) hx hb dX6_restore_108 (by decide) ?_
        refine rl_M_12 hC hK hP (And.left hw) dX6_restore_110 ?_
        have hw := And.right hw
        refine rp_M_X6_0_11 hC hK hP hD hS dX6_restore_111 (fun z7 H locs hz1 hP hD hS => ?_)
        have hw := hw z7 hz1
        refine lv_aload_n hx hb dX6_restore_114 rfl (lv_at hl 0 rfl) ?_
        refine lv_aload_n hx hb dX6_restore_115 rfl (lv_at hl 0 rfl) ?_
        refine rg_M_X6_0_31 hC hK hP dX6_restore_116 ?_
        refine lv_bipush (v := (61 : Int32)) hx hb dX6_restore_119 (by decide) ?_
        refine rl_M_12 hC hK hP (And.left hw) dX6_restore_121 ?_
        have hw := And.right hw
        refine rp_M_X6_0_12 hC hK hP hD hS dX6_restore_122 (fun z8 H locs hz1 hP hD hS => ?_)
        have hw := hw z8 hz1
        refine lv_aload_n hx hb dX6_restore_125 rfl (lv_at hl 0 rfl) ?_
        refine lv_aload_n hx hb dX6_restore_126 rfl (lv_at hl 0 rfl) ?_
        refine rg_M_X6_0_31 hC hK hP dX6_restore_127 ?_
        refine lv_bipush (v := (62 : Int32)) hx hb dX6_restore_130 (by decide) ?_
        refine rl_M_12 hC hK hP (And.left hw) dX6_restore_132 ?_
        have hw := And.right hw
        refine rp_M_X6_0_14 hC hK hP hD hS dX6_restore_133 (fun z9 H locs hz1 hP hD hS => ?_)
        have hw := hw z9 hz1
        refine lv_aload_n hx hb dX6_restore_136 rfl (lv_at hl 0 rfl) ?_
        refine lv_aload_n hx hb dX6_restore_137 rfl (lv_at hl 0 rfl) ?_
        refine rg_M_X6_0_31 hC hK hP dX6_restore_138 ?_
        refine lv_bipush (v := (63 : Int32)) hx hb dX6_restore_141 (by decide) ?_
        refine rl_M_12 hC hK hP (And.left hw) dX6_restore_143 ?_
        have hw := And.right hw
        refine rp_M_X6_0_15 hC hK hP hD hS dX6_restore_144 (fun z10 H locs hz1 hP hD hS => ?_)
        have hw := hw z10 hz1
        refine lv_iconst (v := (1 : Int32)) hx hb dX6_restore_147 (by decide) ?_
        exact hret _ _ _ _ _ _ hw hP hD hS dX6_restore_148
      · have hw := And.right hw hc
        refine lv_aload_n hx hb dX6_restore_18 rfl (lv_at hl 0 rfl) ?_
        refine lv_iload_n hx hb dX6_restore_19 rfl (lv_at hl 1 rfl) ?_
        refine lv_aload_n hx hb dX6_restore_20 rfl (lv_at hl 0 rfl) ?_
        refine rg_M_X6_0_31 hC hK hP dX6_restore_21 ?_
        refine lv_iload_n hx hb dX6_restore_24 rfl (lv_at hl 1 rfl) ?_
        refine rl_M_12 hC hK hP (And.left hw) dX6_restore_25 ?_
        have hw := And.right hw
        refine lv_iconst (v := (1 : Int32)) hx hb dX6_restore_26 (by decide) ?_
        refine xc_wi (wsz := fun q => (wsM G h q)) (f := fun u => u) (xr_V hC (cX6_carried_c (h := h) hw) ⟨rfl, rfl⟩ bw_891 calX6_carried ⟨Nat.le_trans (Nat.le_of_ble_eq_true rfl) hF, Nat.le_trans (Nat.le_of_ble_eq_true rfl) hL⟩ (rest := []) (xpV hK (cut_all_M) hP hD rfl rfl) rfl hl rfl (Nat.le_of_ble_eq_true rfl) dX6_restore_27 ⟨Nat.zero_le _, Nat.zero_le _⟩) (cut_all_M) hP hD hS hA (fun r1 u z11 H locs hz1 hw hP hD hS => ?_)
        have hw := hw z11 hz1
        refine lv_pop hx hb dX6_restore_30 rfl ?_
        refine lv_iinc (v := (x1 + (1 : Int32))) (lv' := [(1, .int (x1 + (1 : Int32))), (0, .ref (h 0))]) hx hb dX6_restore_31 hl (k := 1) rfl rfl (by decide) rfl (fun ls hl => ?_)
        refine lv_goto (tgt := 12) hx hb dX6_restore_34 (by decide) ?_
        exact I12 (x1 + (1 : Int32)) z11 _ _ _ hw hP hD hS (lv_sub hl [1, 0] rfl)
  unfold wpX6_restore at hw
  refine lv_aload_n hx hb dX6_restore_0 rfl (lv_at hl 0 rfl) ?_
  refine rg_M_X6_0_30 hC hK hP dX6_restore_1 ?_
  refine lv_if_ne (tgt := 10) hx hb dX6_restore_4 (by decide) (fun hc => ?_) (fun hc => ?_)
  · have hw := And.left hw hc
    refine lv_iconst (v := (0 : Int32)) hx hb dX6_restore_10 (by decide) ?_
    refine lv_istore_n (lv' := [(1, .int (0 : Int32)), (0, .ref (h 0))]) hx hb dX6_restore_11 rfl hl (by decide) rfl (fun ls hl => ?_)
    obtain ⟨n12, hw⟩ := hw
    exact B12 n12 (0 : Int32) z0 _ _ _ hw hP hD hS (lv_sub hl [1, 0] rfl)
  · have hw := And.right hw hc
    refine lv_bipush (v := (-4 : Int32)) hx hb dX6_restore_7 (by decide) ?_
    exact hret _ _ _ _ _ _ hw hP hD hS dX6_restore_9
def wpX6_isSheet (x0 : Int32) (x1 : Int32) (post : Int32 → Prop) : Prop := (wpX6_in (x0.toInt64) (0 : Int64) (3 : Int64) (fun r1 => ((r1 = 0 → (post (0 : Int32))) ∧ (¬ r1 = 0 → (wpX6_in (x1.toInt64) (0 : Int64) (2 : Int64) (fun r2 => ((r2 = 0 → (post (0 : Int32))) ∧ (¬ r2 = 0 → (post (1 : Int32))))))))))
set_option maxHeartbeats 4000000 in
set_option maxRecDepth 100000 in
theorem cX6_isSheet_c {l : Launch} {G : wG} {x0 : Int32} {x1 : Int32} {post : Int32 → Prop}  (hw : wpX6_isSheet x0 x1 post) : Met l yX6_isSheet (.code yX6_isSheet cX6_isSheet 2 (some .boolean) :: BIG) { frames := 1, cells := 0, slots := 0, locals := 25 } (xPr G [.int x0, .int x1] ([] : va_W)) (vp_Si post) 0 0 (fun _ => False) := by
  refine xm_rz (by decide) (Nat.le_of_ble_eq_true rfl) (fun p e s m args below meth c ls R Q hC hK hP hl hF hL hret => ?_)
  have hx := hC.1
  have hb := hC.2.1
  have hl : lv_has ls 2 [(0, .int x0), (1, .int x1)] := hl
  unfold wpX6_isSheet at hw
  refine lv_iload_n hx hb dX6_isSheet_0 rfl (lv_at hl 0 rfl) ?_
  refine lv_i2l (v := (x0.toInt64)) hx hb dX6_isSheet_1 rfl ?_
  refine lv_lconst (v := (0 : Int64)) hx hb dX6_isSheet_2 (by decide) ?_
  refine lv_ldc2 (v := (3 : Int64)) hx hb hC.2.2.2.1 (hC.2.2.2.2 _ bw_699) dX6_isSheet_3 ?_
  refine vp_callSi (xro (xr_S hC (cX6_in_c hw) ⟨rfl, rfl⟩ bw_700 calX6_in ⟨Nat.le_trans (Nat.le_of_ble_eq_true rfl) hF, Nat.le_trans (Nat.le_of_ble_eq_true rfl) hL⟩ (rest := []) (xpS hK) rfl hl rfl (Nat.le_of_ble_eq_true rfl) dX6_isSheet_6 ⟨Nat.zero_le _, Nat.zero_le _⟩)) (fun r1 hw => ?_)
  refine lv_if_eq (tgt := 28) hx hb dX6_isSheet_9 (by decide) (fun hc => ?_) (fun hc => ?_)
  · have hw := And.left hw hc
    refine lv_iconst (v := (0 : Int32)) hx hb dX6_isSheet_28 (by decide) ?_
    exact hret _ _ _ rfl hw dX6_isSheet_29
  · have hw := And.right hw hc
    refine lv_iload_n hx hb dX6_isSheet_12 rfl (lv_at hl 1 rfl) ?_
    refine lv_i2l (v := (x1.toInt64)) hx hb dX6_isSheet_13 rfl ?_
    refine lv_lconst (v := (0 : Int64)) hx hb dX6_isSheet_14 (by decide) ?_
    refine lv_ldc2 (v := (2 : Int64)) hx hb hC.2.2.2.1 (hC.2.2.2.2 _ bw_731) dX6_isSheet_15 ?_
    refine vp_callSi (xro (xr_S hC (cX6_in_c hw) ⟨rfl, rfl⟩ bw_700 calX6_in ⟨Nat.le_trans (Nat.le_of_ble_eq_true rfl) hF, Nat.le_trans (Nat.le_of_ble_eq_true rfl) hL⟩ (rest := []) (xpS hK) rfl hl rfl (Nat.le_of_ble_eq_true rfl) dX6_isSheet_18 ⟨Nat.zero_le _, Nat.zero_le _⟩)) (fun r2 hw => ?_)
    refine lv_if_eq (tgt := 28) hx hb dX6_isSheet_21 (by decide) (fun hc => ?_) (fun hc => ?_)
    · have hw := And.left hw hc
      refine lv_iconst (v := (0 : Int32)) hx hb dX6_isSheet_28 (by decide) ?_
      exact hret _ _ _ rfl hw dX6_isSheet_29
    · have hw := And.right hw hc
      refine lv_iconst (v := (1 : Int32)) hx hb dX6_isSheet_24 (by decide) ?_
      refine lv_goto (tgt := 29) hx hb dX6_isSheet_25 (by decide) ?_
      exact hret _ _ _ rfl hw dX6_isSheet_29
def wpX6_asLane (x0 : Int32) (x1 : Int64) (post : Int64 → Prop) : Prop := ((¬ x0 = 0 → ((¬ x0 = (1 : Int32) → (post x1)) ∧ (x0 = (1 : Int32) → (post ((x1 <<< ((48 : Int32).toInt64 &&& 63)) >>> ((48 : Int32).toInt64 &&& 63)))))) ∧ (x0 = 0 → (post ((x1 <<< ((56 : Int32).toInt64 &&& 63)) >>> ((56 : Int32).toInt64 &&& 63)))))
set_option maxHeartbeats 4000000 in
set_option maxRecDepth 100000 in
theorem cX6_asLane_c {l : Launch} {G : wG} {x0 : Int32} {x1 : Int64} {post : Int64 → Prop}  (hw : wpX6_asLane x0 x1 post) : Met l yX6_asLane (.code yX6_asLane cX6_asLane 3 (some .long) :: BIG) { frames := 0, cells := 0, slots := 0, locals := 0 } (xPr G [.int x0, .long x1] ([] : va_W)) (vp_Sl post) 0 0 (fun _ => False) := by
  refine xm_rl (by decide) (Nat.le_of_ble_eq_true rfl) (fun p e s m args below meth c ls R Q hC hK hP hl hF hL hret => ?_)
  have hx := hC.1
  have hb := hC.2.1
  have hl : lv_has ls 3 [(0, .int x0), (1, .long x1)] := hl
  unfold wpX6_asLane at hw
  refine lv_iload_n hx hb dX6_asLane_0 rfl (lv_at hl 0 rfl) ?_
  refine lv_if_ne (tgt := 14) hx hb dX6_asLane_1 (by decide) (fun hc => ?_) (fun hc => ?_)
  · have hw := And.left hw hc
    refine lv_iload_n hx hb dX6_asLane_14 rfl (lv_at hl 0 rfl) ?_
    refine lv_iconst (v := (1 : Int32)) hx hb dX6_asLane_15 (by decide) ?_
    refine lv_icmp_ne (tgt := 29) hx hb dX6_asLane_16 (by decide) (fun hc => ?_) (fun hc => ?_)
    · have hw := And.left hw hc
      refine lv_lload_n hx hb dX6_asLane_29 rfl (lv_at hl 1 rfl) ?_
      exact hret _ _ _ hw dX6_asLane_30
    · have hw := And.right hw hc
      refine lv_lload_n hx hb dX6_asLane_19 rfl (lv_at hl 1 rfl) ?_
      refine lv_bipush (v := (48 : Int32)) hx hb dX6_asLane_20 (by decide) ?_
      refine lv_lshl (v := (x1 <<< ((48 : Int32).toInt64 &&& 63))) hx hb dX6_asLane_22 rfl ?_
      refine lv_bipush (v := (48 : Int32)) hx hb dX6_asLane_23 (by decide) ?_
      refine lv_lshr (v := ((x1 <<< ((48 : Int32).toInt64 &&& 63)) >>> ((48 : Int32).toInt64 &&& 63))) hx hb dX6_asLane_25 rfl ?_
      refine lv_goto (tgt := 30) hx hb dX6_asLane_26 (by decide) ?_
      exact hret _ _ _ hw dX6_asLane_30
  · have hw := And.right hw hc
    refine lv_lload_n hx hb dX6_asLane_4 rfl (lv_at hl 1 rfl) ?_
    refine lv_bipush (v := (56 : Int32)) hx hb dX6_asLane_5 (by decide) ?_
    refine lv_lshl (v := (x1 <<< ((56 : Int32).toInt64 &&& 63))) hx hb dX6_asLane_7 rfl ?_
    refine lv_bipush (v := (56 : Int32)) hx hb dX6_asLane_8 (by decide) ?_
    refine lv_lshr (v := ((x1 <<< ((56 : Int32).toInt64 &&& 63)) >>> ((56 : Int32).toInt64 &&& 63))) hx hb dX6_asLane_10 rfl ?_
    refine lv_goto (tgt := 30) hx hb dX6_asLane_11 (by decide) ?_
    exact hret _ _ _ hw dX6_asLane_30
def wpX6_sheet_40 (k40 : Int32 → Int32 → Int32 → (wSt) → Prop) (post : Int32 → (wSt) → Prop) (x1 : Int32) (x3 : Int32) (x4 : Int32) (z0 : wSt) : Prop := (((24 : Int32) ≤ x4 → (post x3 z0)) ∧ (¬ (24 : Int32) ≤ x4 → (vp_in (((24 : Int32) * x1) + x4) 96 ∧ ∀ z1 : wSt, z1 = (w_sl z0 34 (vp_updL (w_l z0 34) (((24 : Int32) * x1) + x4).toNatClampNeg (0 : Int64))) → (k40 x1 x3 (x4 + (1 : Int32)) z1))))
def wpX6_sheet_L40  (post : Int32 → (wSt) → Prop) : Nat → Int32 → Int32 → Int32 → (wSt) → Prop
  | 0 => fun _ _ _ _ => False
  | n + 1 => fun x1 x3 x4 z0 => wpX6_sheet_40  (wpX6_sheet_L40  post n) post x1 x3 x4 z0
def wpX6_sheet (x1 : Int32) (x2 : Int32) (x3 : Int32) (z0 : wSt) (post : Int32 → (wSt) → Prop) : Prop := (wpX6_isSheet x1 x2 (fun r1 => ((r1 = 0 → (post (-1 : Int32) z0)) ∧ (¬ r1 = 0 → ((x3 ≤ (24 : Int32) → ((0 ≤ x3 → (vp_in x1 4 ∧ ∀ z1 : wSt, z1 = (w_sa z0 32 (upd (w_a z0 32) x1.toNatClampNeg x2)) → (vp_in x1 4 ∧ ∀ z2 : wSt, z2 = (w_sa z1 33 (upd (w_a z1 33) x1.toNatClampNeg x3)) → (∃ n, wpX6_sheet_L40  post n x1 x3 (0 : Int32) z2)))) ∧ (¬ 0 ≤ x3 → (post (-14 : Int32) z0)))) ∧ (¬ x3 ≤ (24 : Int32) → (post (-1 : Int32) z0)))))))
set_option maxHeartbeats 4000000 in
set_option maxRecDepth 100000 in
theorem cX6_sheet_c {l : Launch} {G : wG} {h : Nat → Nat} {sz : Nat} {x1 : Int32} {x2 : Int32} {x3 : Int32} {post : Int32 → (wSt) → Prop} {z0 : wSt}  (hw : wpX6_sheet x1 x2 x3 z0 post) : Met l yX6_sheet (.code yX6_sheet cX6_sheet 5 (some .int) :: BIG) { frames := 2, cells := 0, slots := 0, locals := 46 } (xPw G [.ref (h 0), .int x1, .int x2, .int x3] (wsM G h z0) sz) (xQi G post (fun q => (wsM G h q)) (va_A (wsM G h z0) sz)) 0 0 (va_A (wsM G h z0) sz) := by
  refine xm_wi (by decide) (Nat.le_of_ble_eq_true rfl) (fun p e s m args below meth c A ls R Q hC hK hA hP hD hS hl hF hL hret => ?_)
  have hx := hC.1
  have hb := hC.2.1
  have hl : lv_has ls 5 [(0, .ref (h 0)), (1, .int x1), (2, .int x2), (3, .int x3)] := hl
  have B40 : ∀ n : Nat, ∀ (x1 : Int32) (x3 : Int32) (x4 : Int32) (z0 : wSt) (H : Heap) (locs : List Loc) (ls : Array Slot), wpX6_sheet_L40  post n x1 x3 x4 z0 → va_P G.1 vwCl (wsM G h z0) H → va_D A (wsM G h z0) → va_S A s.heap H locs → lv_has ls 5 [(0, .ref (h 0)), (1, .int x1), (3, .int x3), (4, .int x4)] → W p l e R s m args below meth c H locs 0 0 Q (F0 m 40 ls []) := by
    intro n
    induction n with
    | zero => intro x1 x3 x4 z0 H locs ls hw hP hD hS hl; exact False.elim hw
    | succ n I40 =>
      intro x1 x3 x4 z0 H locs ls hw hP hD hS hl
      have hw : wpX6_sheet_40  (wpX6_sheet_L40  post n) post x1 x3 x4 z0 := hw
      unfold wpX6_sheet_40 at hw
      refine lv_iload hx hb dX6_sheet_40 (lv_at hl 3 rfl) ?_
      refine lv_bipush (v := (24 : Int32)) hx hb dX6_sheet_42 (by decide) ?_
      refine lv_icmp_ge (tgt := 66) hx hb dX6_sheet_44 (by decide) (fun hc => ?_) (fun hc => ?_)
      · have hw := And.left hw hc
        refine lv_iload_n hx hb dX6_sheet_66 rfl (lv_at hl 2 rfl) ?_
        exact hret _ _ _ _ _ _ hw hP hD hS dX6_sheet_67
      · have hw := And.right hw hc
        refine lv_aload_n hx hb dX6_sheet_47 rfl (lv_at hl 0 rfl) ?_
        refine rg_M_X6_0_34 hC hK hP dX6_sheet_48 ?_
        refine lv_bipush (v := (24 : Int32)) hx hb dX6_sheet_51 (by decide) ?_
        refine lv_iload_n hx hb dX6_sheet_53 rfl (lv_at hl 1 rfl) ?_
        refine lv_imul hx hb dX6_sheet_54 ?_
        refine lv_iload hx hb dX6_sheet_55 (lv_at hl 3 rfl) ?_
        refine lv_iadd hx hb dX6_sheet_57 ?_
        refine lv_lconst (v := (0 : Int64)) hx hb dX6_sheet_58 (by decide) ?_
        refine rs_M_15 hC hK hP hD hS (And.left hw) dX6_sheet_59 (fun z1 H locs hz1 hP hD hS => ?_)
        have hw := And.right hw z1 hz1
        refine lv_iinc (v := (x4 + (1 : Int32))) (lv' := [(4, .int (x4 + (1 : Int32))), (0, .ref (h 0)), (1, .int x1), (3, .int x3)]) hx hb dX6_sheet_60 hl (k := 3) rfl rfl (by decide) rfl (fun ls hl => ?_)
        refine lv_goto (tgt := 40) hx hb dX6_sheet_63 (by decide) ?_
        exact I40 x1 x3 (x4 + (1 : Int32)) z1 _ _ _ hw hP hD hS (lv_sub hl [1, 2, 3, 0] rfl)
  unfold wpX6_sheet at hw
  refine lv_iload_n hx hb dX6_sheet_0 rfl (lv_at hl 1 rfl) ?_
  refine lv_iload_n hx hb dX6_sheet_1 rfl (lv_at hl 2 rfl) ?_
  refine vp_callSi (xro (xr_S hC (cX6_isSheet_c hw) ⟨rfl, rfl⟩ bw_903 calX6_isSheet ⟨Nat.le_trans (Nat.le_of_ble_eq_true rfl) hF, Nat.le_trans (Nat.le_of_ble_eq_true rfl) hL⟩ (rest := []) (xpS hK) rfl hl rfl (Nat.le_of_ble_eq_true rfl) dX6_sheet_2 ⟨Nat.zero_le _, Nat.zero_le _⟩)) (fun r1 hw => ?_)
  refine lv_if_eq (tgt := 14) hx hb dX6_sheet_5 (by decide) (fun hc => ?_) (fun hc => ?_)
  · have hw := And.left hw hc
    refine lv_iconst (v := (-1 : Int32)) hx hb dX6_sheet_14 (by decide) ?_
    exact hret _ _ _ _ _ _ hw hP hD hS dX6_sheet_15
  · have hw := And.right hw hc
    refine lv_iload_n hx hb dX6_sheet_8 rfl (lv_at hl 3 rfl) ?_
    refine lv_bipush (v := (24 : Int32)) hx hb dX6_sheet_9 (by decide) ?_
    refine lv_icmp_le (tgt := 16) hx hb dX6_sheet_11 (by decide) (fun hc => ?_) (fun hc => ?_)
    · have hw := And.left hw hc
      refine lv_iload_n hx hb dX6_sheet_16 rfl (lv_at hl 3 rfl) ?_
      refine lv_if_ge (tgt := 23) hx hb dX6_sheet_17 (by decide) (fun hc => ?_) (fun hc => ?_)
      · have hw := And.left hw hc
        refine lv_aload_n hx hb dX6_sheet_23 rfl (lv_at hl 0 rfl) ?_
        refine rg_M_X6_0_32 hC hK hP dX6_sheet_24 ?_
        refine lv_iload_n hx hb dX6_sheet_27 rfl (lv_at hl 1 rfl) ?_
        refine lv_iload_n hx hb dX6_sheet_28 rfl (lv_at hl 2 rfl) ?_
        refine rs_M_13 hC hK hP hD hS (And.left hw) dX6_sheet_29 (fun z1 H locs hz1 hP hD hS => ?_)
        have hw := And.right hw z1 hz1
        refine lv_aload_n hx hb dX6_sheet_30 rfl (lv_at hl 0 rfl) ?_
        refine rg_M_X6_0_33 hC hK hP dX6_sheet_31 ?_
        refine lv_iload_n hx hb dX6_sheet_34 rfl (lv_at hl 1 rfl) ?_
        refine lv_iload_n hx hb dX6_sheet_35 rfl (lv_at hl 3 rfl) ?_
        refine rs_M_14 hC hK hP hD hS (And.left hw) dX6_sheet_36 (fun z2 H locs hz1 hP hD hS => ?_)
        have hw := And.right hw z2 hz1
        refine lv_iconst (v := (0 : Int32)) hx hb dX6_sheet_37 (by decide) ?_
        refine lv_istore (lv' := [(4, .int (0 : Int32)), (0, .ref (h 0)), (1, .int x1), (2, .int x2), (3, .int x3)]) hx hb dX6_sheet_38 hl (by decide) rfl (fun ls hl => ?_)
        obtain ⟨n40, hw⟩ := hw
        exact B40 n40 x1 x3 (0 : Int32) z2 _ _ _ hw hP hD hS (lv_sub hl [1, 2, 4, 0] rfl)
      · have hw := And.right hw hc
        refine lv_bipush (v := (-14 : Int32)) hx hb dX6_sheet_20 (by decide) ?_
        exact hret _ _ _ _ _ _ hw hP hD hS dX6_sheet_22
    · have hw := And.right hw hc
      refine lv_iconst (v := (-1 : Int32)) hx hb dX6_sheet_14 (by decide) ?_
      exact hret _ _ _ _ _ _ hw hP hD hS dX6_sheet_15
def wpX6_drop (x1 : Int32) (z0 : wSt) (post : Int32 → (wSt) → Prop) : Prop := (wpX6_in (x1.toInt64) (0 : Int64) (3 : Int64) (fun r1 => ((¬ r1 = 0 → (vp_in x1 4 ∧ ((0 ≤ ((w_a z0 32) x1.toNatClampNeg) → (vp_in x1 4 ∧ ∀ z1 : wSt, z1 = (w_sa z0 32 (upd (w_a z0 32) x1.toNatClampNeg (-1 : Int32))) → (vp_in x1 4 ∧ (post ((w_a z1 33) x1.toNatClampNeg) z1)))) ∧ (¬ 0 ≤ ((w_a z0 32) x1.toNatClampNeg) → (post (-11 : Int32) z0))))) ∧ (r1 = 0 → (post (-1 : Int32) z0)))))
set_option maxHeartbeats 4000000 in
set_option maxRecDepth 100000 in
theorem cX6_drop_c {l : Launch} {G : wG} {h : Nat → Nat} {sz : Nat} {x1 : Int32} {post : Int32 → (wSt) → Prop} {z0 : wSt}  (hw : wpX6_drop x1 z0 post) : Met l yX6_drop (.code yX6_drop cX6_drop 2 (some .int) :: BIG) { frames := 1, cells := 0, slots := 0, locals := 25 } (xPw G [.ref (h 0), .int x1] (wsM G h z0) sz) (xQi G post (fun q => (wsM G h q)) (va_A (wsM G h z0) sz)) 0 0 (va_A (wsM G h z0) sz) := by
  refine xm_wi (by decide) (Nat.le_of_ble_eq_true rfl) (fun p e s m args below meth c A ls R Q hC hK hA hP hD hS hl hF hL hret => ?_)
  have hx := hC.1
  have hb := hC.2.1
  have hl : lv_has ls 2 [(0, .ref (h 0)), (1, .int x1)] := hl
  unfold wpX6_drop at hw
  refine lv_iload_n hx hb dX6_drop_0 rfl (lv_at hl 1 rfl) ?_
  refine lv_i2l (v := (x1.toInt64)) hx hb dX6_drop_1 rfl ?_
  refine lv_lconst (v := (0 : Int64)) hx hb dX6_drop_2 (by decide) ?_
  refine lv_ldc2 (v := (3 : Int64)) hx hb hC.2.2.2.1 (hC.2.2.2.2 _ bw_699) dX6_drop_3 ?_
  refine vp_callSi (xro (xr_S hC (cX6_in_c hw) ⟨rfl, rfl⟩ bw_700 calX6_in ⟨Nat.le_trans (Nat.le_of_ble_eq_true rfl) hF, Nat.le_trans (Nat.le_of_ble_eq_true rfl) hL⟩ (rest := []) (xpS hK) rfl hl rfl (Nat.le_of_ble_eq_true rfl) dX6_drop_6 ⟨Nat.zero_le _, Nat.zero_le _⟩)) (fun r1 hw => ?_)
  refine lv_if_ne (tgt := 14) hx hb dX6_drop_9 (by decide) (fun hc => ?_) (fun hc => ?_)
  · have hw := And.left hw hc
    refine lv_aload_n hx hb dX6_drop_14 rfl (lv_at hl 0 rfl) ?_
    refine rg_M_X6_0_32 hC hK hP dX6_drop_15 ?_
    refine lv_iload_n hx hb dX6_drop_18 rfl (lv_at hl 1 rfl) ?_
    refine rl_M_13 hC hK hP (And.left hw) dX6_drop_19 ?_
    have hw := And.right hw
    refine lv_if_ge (tgt := 26) hx hb dX6_drop_20 (by decide) (fun hc => ?_) (fun hc => ?_)
    · have hw := And.left hw hc
      refine lv_aload_n hx hb dX6_drop_26 rfl (lv_at hl 0 rfl) ?_
      refine rg_M_X6_0_32 hC hK hP dX6_drop_27 ?_
      refine lv_iload_n hx hb dX6_drop_30 rfl (lv_at hl 1 rfl) ?_
      refine lv_iconst (v := (-1 : Int32)) hx hb dX6_drop_31 (by decide) ?_
      refine rs_M_13 hC hK hP hD hS (And.left hw) dX6_drop_32 (fun z1 H locs hz1 hP hD hS => ?_)
      have hw := And.right hw z1 hz1
      refine lv_aload_n hx hb dX6_drop_33 rfl (lv_at hl 0 rfl) ?_
      refine rg_M_X6_0_33 hC hK hP dX6_drop_34 ?_
      refine lv_iload_n hx hb dX6_drop_37 rfl (lv_at hl 1 rfl) ?_
      refine rl_M_14 hC hK hP (And.left hw) dX6_drop_38 ?_
      have hw := And.right hw
      exact hret _ _ _ _ _ _ hw hP hD hS dX6_drop_39
    · have hw := And.right hw hc
      refine lv_bipush (v := (-11 : Int32)) hx hb dX6_drop_23 (by decide) ?_
      exact hret _ _ _ _ _ _ hw hP hD hS dX6_drop_25
  · have hw := And.right hw hc
    refine lv_iconst (v := (-1 : Int32)) hx hb dX6_drop_12 (by decide) ?_
    exact hret _ _ _ _ _ _ hw hP hD hS dX6_drop_13
def wpX6_lacksRow (x1 : Int32) (x2 : Int32) (x3 : Int32) (x4 : Int32) (z0 : wSt) (post : Int32 → Prop) : Prop := (vp_in x1 4 ∧ ((((w_a z0 32) x1.toNatClampNeg) = x2 → (vp_in x1 4 ∧ (wpX6_in (x3.toInt64) (0 : Int64) ((((w_a z0 33) x1.toNatClampNeg) - x4).toInt64) (fun r1 => ((r1 = 0 → (post (-13 : Int32))) ∧ (¬ r1 = 0 → (post (0 : Int32)))))))) ∧ (¬ ((w_a z0 32) x1.toNatClampNeg) = x2 → (vp_in x1 4 ∧ ((0 ≤ ((w_a z0 32) x1.toNatClampNeg) → (post (-12 : Int32))) ∧ (¬ 0 ≤ ((w_a z0 32) x1.toNatClampNeg) → (post (-11 : Int32))))))))
set_option maxHeartbeats 4000000 in
set_option maxRecDepth 100000 in
theorem cX6_lacksRow_c {l : Launch} {G : wG} {h : Nat → Nat} {x1 : Int32} {x2 : Int32} {x3 : Int32} {x4 : Int32} {post : Int32 → Prop} {z0 : wSt}  (hw : wpX6_lacksRow x1 x2 x3 x4 z0 post) : Met l yX6_lacksRow (.code yX6_lacksRow cX6_lacksRow 5 (some .int) :: BIG) { frames := 1, cells := 0, slots := 0, locals := 25 } (xPr G [.ref (h 0), .int x1, .int x2, .int x3, .int x4] (wsM G h z0)) (vp_Si post) 0 0 (fun _ => False) := by
  refine xm_ri (by decide) (Nat.le_of_ble_eq_true rfl) (fun p e s m args below meth c ls R Q hC hK hP hl hF hL hret => ?_)
  have hx := hC.1
  have hb := hC.2.1
  have hl : lv_has ls 5 [(0, .ref (h 0)), (1, .int x1), (2, .int x2), (3, .int x3), (4, .int x4)] := hl
  unfold wpX6_lacksRow at hw
  refine lv_aload_n hx hb dX6_lacksRow_0 rfl (lv_at hl 0 rfl) ?_
  refine rg_M_X6_0_32 hC hK hP dX6_lacksRow_1 ?_
  refine lv_iload_n hx hb dX6_lacksRow_4 rfl (lv_at hl 1 rfl) ?_
  refine rl_M_13 hC hK hP (And.left hw) dX6_lacksRow_5 ?_
  have hw := And.right hw
  refine lv_iload_n hx hb dX6_lacksRow_6 rfl (lv_at hl 2 rfl) ?_
  refine lv_icmp_eq (tgt := 27) hx hb dX6_lacksRow_7 (by decide) (fun hc => ?_) (fun hc => ?_)
  · have hw := And.left hw hc
    refine lv_iload_n hx hb dX6_lacksRow_27 rfl (lv_at hl 3 rfl) ?_
    refine lv_i2l (v := (x3.toInt64)) hx hb dX6_lacksRow_28 rfl ?_
    refine lv_lconst (v := (0 : Int64)) hx hb dX6_lacksRow_29 (by decide) ?_
    refine lv_aload_n hx hb dX6_lacksRow_30 rfl (lv_at hl 0 rfl) ?_
    refine rg_M_X6_0_33 hC hK hP dX6_lacksRow_31 ?_
    refine lv_iload_n hx hb dX6_lacksRow_34 rfl (lv_at hl 1 rfl) ?_
    refine rl_M_14 hC hK hP (And.left hw) dX6_lacksRow_35 ?_
    have hw := And.right hw
    refine lv_iload hx hb dX6_lacksRow_36 (lv_at hl 4 rfl) ?_
    refine lv_isub hx hb dX6_lacksRow_38 ?_
    refine lv_i2l (v := ((((w_a z0 33) x1.toNatClampNeg) - x4).toInt64)) hx hb dX6_lacksRow_39 rfl ?_
    refine vp_callSi (xro (xr_S hC (cX6_in_c hw) ⟨rfl, rfl⟩ bw_700 calX6_in ⟨Nat.le_trans (Nat.le_of_ble_eq_true rfl) hF, Nat.le_trans (Nat.le_of_ble_eq_true rfl) hL⟩ (rest := []) (xpS hK) rfl hl rfl (Nat.le_of_ble_eq_true rfl) dX6_lacksRow_40 ⟨Nat.zero_le _, Nat.zero_le _⟩)) (fun r1 hw => ?_)
    refine lv_if_eq (tgt := 50) hx hb dX6_lacksRow_43 (by decide) (fun hc => ?_) (fun hc => ?_)
    · have hw := And.left hw hc
      refine lv_bipush (v := (-13 : Int32)) hx hb dX6_lacksRow_50 (by decide) ?_
      exact hret _ _ _ hw dX6_lacksRow_52
    · have hw := And.right hw hc
      refine lv_iconst (v := (0 : Int32)) hx hb dX6_lacksRow_46 (by decide) ?_
      refine lv_goto (tgt := 52) hx hb dX6_lacksRow_47 (by decide) ?_
      exact hret _ _ _ hw dX6_lacksRow_52
  · have hw := And.right hw hc
    refine lv_aload_n hx hb dX6_lacksRow_10 rfl (lv_at hl 0 rfl) ?_
    refine rg_M_X6_0_32 hC hK hP dX6_lacksRow_11 ?_
    refine lv_iload_n hx hb dX6_lacksRow_14 rfl (lv_at hl 1 rfl) ?_
    refine rl_M_13 hC hK hP (And.left hw) dX6_lacksRow_15 ?_
    have hw := And.right hw
    refine lv_if_ge (tgt := 24) hx hb dX6_lacksRow_16 (by decide) (fun hc => ?_) (fun hc => ?_)
    · have hw := And.left hw hc
      refine lv_bipush (v := (-12 : Int32)) hx hb dX6_lacksRow_24 (by decide) ?_
      exact hret _ _ _ hw dX6_lacksRow_26
    · have hw := And.right hw hc
      refine lv_bipush (v := (-11 : Int32)) hx hb dX6_lacksRow_19 (by decide) ?_
      refine lv_goto (tgt := 26) hx hb dX6_lacksRow_21 (by decide) ?_
      exact hret _ _ _ hw dX6_lacksRow_26
def wpX6_item (x1 : Int32) (x2 : Int32) (x3 : Int32) (x4 : Int64) (z0 : wSt) (post : Int32 → (wSt) → Prop) : Prop := (wpX6_isSheet x1 x2 (fun r1 => ((¬ r1 = 0 → (wpX6_lacksRow x1 x2 x3 (1 : Int32) z0 (fun r2 => ((0 ≤ r2 → (wpX6_asLane x2 x4 (fun r3 => (vp_in (((24 : Int32) * x1) + x3) 96 ∧ ∀ z1 : wSt, z1 = (w_sl z0 34 (vp_updL (w_l z0 34) (((24 : Int32) * x1) + x3).toNatClampNeg r3)) → (post (1 : Int32) z1))))) ∧ (¬ 0 ≤ r2 → (post r2 z0)))))) ∧ (r1 = 0 → (post (-1 : Int32) z0)))))
set_option maxHeartbeats 4000000 in
set_option maxRecDepth 100000 in
theorem cX6_item_c {l : Launch} {G : wG} {h : Nat → Nat} {sz : Nat} {x1 : Int32} {x2 : Int32} {x3 : Int32} {x4 : Int64} {post : Int32 → (wSt) → Prop} {z0 : wSt}  (hw : wpX6_item x1 x2 x3 x4 z0 post) : Met l yX6_item (.code yX6_item cX6_item 7 (some .int) :: BIG) { frames := 2, cells := 0, slots := 0, locals := 49 } (xPw G [.ref (h 0), .int x1, .int x2, .int x3, .long x4] (wsM G h z0) sz) (xQi G post (fun q => (wsM G h q)) (va_A (wsM G h z0) sz)) 0 0 (va_A (wsM G h z0) sz) := by
  refine xm_wi (by decide) (Nat.le_of_ble_eq_true rfl) (fun p e s m args below meth c A ls R Q hC hK hA hP hD hS hl hF hL hret => ?_)
  have hx := hC.1
  have hb := hC.2.1
  have hl : lv_has ls 7 [(0, .ref (h 0)), (1, .int x1), (2, .int x2), (3, .int x3), (4, .long x4)] := hl
  unfold wpX6_item at hw
  refine lv_iload_n hx hb dX6_item_0 rfl (lv_at hl 1 rfl) ?_
  refine lv_iload_n hx hb dX6_item_1 rfl (lv_at hl 2 rfl) ?_
  refine vp_callSi (xro (xr_S hC (cX6_isSheet_c hw) ⟨rfl, rfl⟩ bw_903 calX6_isSheet ⟨Nat.le_trans (Nat.le_of_ble_eq_true rfl) hF, Nat.le_trans (Nat.le_of_ble_eq_true rfl) hL⟩ (rest := []) (xpS hK) rfl hl rfl (Nat.le_of_ble_eq_true rfl) dX6_item_2 ⟨Nat.zero_le _, Nat.zero_le _⟩)) (fun r1 hw => ?_)
  refine lv_if_ne (tgt := 10) hx hb dX6_item_5 (by decide) (fun hc => ?_) (fun hc => ?_)
  · have hw := And.left hw hc
    refine lv_aload_n hx hb dX6_item_10 rfl (lv_at hl 0 rfl) ?_
    refine lv_iload_n hx hb dX6_item_11 rfl (lv_at hl 1 rfl) ?_
    refine lv_iload_n hx hb dX6_item_12 rfl (lv_at hl 2 rfl) ?_
    refine lv_iload_n hx hb dX6_item_13 rfl (lv_at hl 3 rfl) ?_
    refine lv_iconst (v := (1 : Int32)) hx hb dX6_item_14 (by decide) ?_
    refine vp_callSi (xro (xr_V hC (cX6_lacksRow_c (h := h) hw) ⟨rfl, rfl⟩ bw_914 calX6_lacksRow ⟨Nat.le_trans (Nat.le_of_ble_eq_true rfl) hF, Nat.le_trans (Nat.le_of_ble_eq_true rfl) hL⟩ (rest := []) (xpR hK hP rfl rfl) rfl hl rfl (Nat.le_of_ble_eq_true rfl) dX6_item_15 ⟨Nat.zero_le _, Nat.zero_le _⟩)) (fun r2 hw => ?_)
    refine lv_istore (lv' := [(6, .int r2), (0, .ref (h 0)), (1, .int x1), (2, .int x2), (3, .int x3), (4, .long x4)]) hx hb dX6_item_18 hl (by decide) rfl (fun ls hl => ?_)
    refine lv_iload hx hb dX6_item_20 (lv_at hl 0 rfl) ?_
    refine lv_if_ge (tgt := 28) hx hb dX6_item_22 (by decide) (fun hc => ?_) (fun hc => ?_)
    · have hw := And.left hw hc
      refine lv_aload_n hx hb dX6_item_28 rfl (lv_at hl 1 rfl) ?_
      refine rg_M_X6_0_34 hC hK hP dX6_item_29 ?_
      refine lv_bipush (v := (24 : Int32)) hx hb dX6_item_32 (by decide) ?_
      refine lv_iload_n hx hb dX6_item_34 rfl (lv_at hl 2 rfl) ?_
      refine lv_imul hx hb dX6_item_35 ?_
      refine lv_iload_n hx hb dX6_item_36 rfl (lv_at hl 4 rfl) ?_
      refine lv_iadd hx hb dX6_item_37 ?_
      refine lv_iload_n hx hb dX6_item_38 rfl (lv_at hl 3 rfl) ?_
      refine lv_lload hx hb dX6_item_39 (lv_at hl 5 rfl) ?_
      refine vp_callSl (xro (xr_S hC (cX6_asLane_c hw) ⟨rfl, rfl⟩ bw_918 calX6_asLane ⟨Nat.le_trans (Nat.le_of_ble_eq_true rfl) hF, Nat.le_trans (Nat.le_of_ble_eq_true rfl) hL⟩ (rest := [.int (((24 : Int32) * x1) + x3), .ref (h 15)]) (xpS hK) rfl hl rfl (Nat.le_of_ble_eq_true rfl) dX6_item_41 ⟨Nat.zero_le _, Nat.zero_le _⟩)) (fun r3 hw => ?_)
      refine rs_M_15 hC hK hP hD hS (And.left hw) dX6_item_44 (fun z1 H locs hz1 hP hD hS => ?_)
      have hw := And.right hw z1 hz1
      refine lv_iconst (v := (1 : Int32)) hx hb dX6_item_45 (by decide) ?_
      exact hret _ _ _ _ _ _ hw hP hD hS dX6_item_46
    · have hw := And.right hw hc
      refine lv_iload hx hb dX6_item_25 (lv_at hl 0 rfl) ?_
      exact hret _ _ _ _ _ _ hw hP hD hS dX6_item_27
  · have hw := And.right hw hc
    refine lv_iconst (v := (-1 : Int32)) hx hb dX6_item_8 (by decide) ?_
    exact hret _ _ _ _ _ _ hw hP hD hS dX6_item_9
def wpX6_fits_69 (k9 : Int32 → Int32 → Int32 → Int32 → Int32 → Prop) (z0 : wSt) (post : Int32 → Prop) (x1 : Int32) (x2 : Int32) (x4 : Int32) (x6 : Int32) (x7 : Int32) (t0 : Int32) : Prop := (wpX6_feltBy x7 z0 (fun r1 => (wpX6_most9 (x4 + r1) (fun r2 => (wpX6_wane r2 (fun r3 => (k9 x1 x2 r3 t0 (x6 + (1 : Int32)))))))))
def wpX6_fits_9 (k9 : Int32 → Int32 → Int32 → Int32 → Int32 → Prop) (z0 : wSt) (post : Int32 → Prop) (x1 : Int32) (x2 : Int32) (x4 : Int32) (x5 : Int32) (x6 : Int32) : Prop := ((x2 ≤ x6 → (narrow .boolean (.int x5) = .int x5 ∧ post x5)) ∧ (¬ x2 ≤ x6 → ((x5 = 0 → (narrow .boolean (.int x5) = .int x5 ∧ post x5)) ∧ (¬ x5 = 0 → (vp_in (x1 + ((2 : Int32) * x6)) 96 ∧ (vp_in (((w_l z0 34) (x1 + ((2 : Int32) * x6)).toNatClampNeg).toInt32) 6 ∧ (wpX6_pailsOf ((w_a z0 0) (((w_l z0 34) (x1 + ((2 : Int32) * x6)).toNatClampNeg).toInt32).toNatClampNeg) x4 (fun r1 => (vp_in ((x1 + ((2 : Int32) * x6)) + (1 : Int32)) 96 ∧ ((¬ (lg_cmp (r1.toInt64) ((w_l z0 34) ((x1 + ((2 : Int32) * x6)) + (1 : Int32)).toNatClampNeg)) = 0 → (wpX6_fits_69 k9 z0 post x1 x2 x4 x6 (((w_l z0 34) (x1 + ((2 : Int32) * x6)).toNatClampNeg).toInt32) (0 : Int32))) ∧ ((lg_cmp (r1.toInt64) ((w_l z0 34) ((x1 + ((2 : Int32) * x6)) + (1 : Int32)).toNatClampNeg)) = 0 → (wpX6_fits_69 k9 z0 post x1 x2 x4 x6 (((w_l z0 34) (x1 + ((2 : Int32) * x6)).toNatClampNeg).toInt32) (1 : Int32)))))))))))))
def wpX6_fits_L9  (z0 : wSt) (post : Int32 → Prop) : Nat → Int32 → Int32 → Int32 → Int32 → Int32 → Prop
  | 0 => fun _ _ _ _ _ => False
  | n + 1 => fun x1 x2 x4 x5 x6 => wpX6_fits_9  (wpX6_fits_L9  z0 post n) z0 post x1 x2 x4 x5 x6
def wpX6_fits (x1 : Int32) (x2 : Int32) (x3 : Int32) (z0 : wSt) (post : Int32 → Prop) : Prop := (∃ n, wpX6_fits_L9  z0 post n x1 x2 x3 (1 : Int32) (0 : Int32))
set_option maxHeartbeats 4000000 in
set_option maxRecDepth 100000 in
theorem cX6_fits_c {l : Launch} {G : wG} {h : Nat → Nat} {x1 : Int32} {x2 : Int32} {x3 : Int32} {post : Int32 → Prop} {z0 : wSt}  (hw : wpX6_fits x1 x2 x3 z0 post) : Met l yX6_fits (.code yX6_fits cX6_fits 8 (some .boolean) :: BIG) { frames := 1, cells := 0, slots := 0, locals := 22 } (xPr G [.ref (h 0), .int x1, .int x2, .int x3] (wsM G h z0)) (vp_Si post) 0 0 (fun _ => False) := by
  refine xm_rz (by decide) (Nat.le_of_ble_eq_true rfl) (fun p e s m args below meth c ls R Q hC hK hP hl hF hL hret => ?_)
  have hx := hC.1
  have hb := hC.2.1
  have hl : lv_has ls 8 [(0, .ref (h 0)), (1, .int x1), (2, .int x2), (3, .int x3)] := hl
  have B9 : ∀ n : Nat, ∀ (x1 : Int32) (x2 : Int32) (x4 : Int32) (x5 : Int32) (x6 : Int32) (ls : Array Slot), wpX6_fits_L9  z0 post n x1 x2 x4 x5 x6 → lv_has ls 8 [(0, .ref (h 0)), (1, .int x1), (2, .int x2), (4, .int x4), (5, .int x5), (6, .int x6)] → W p l e R s m args below meth c s.heap [] 0 0 Q (F0 m 9 ls []) := by
    intro n
    induction n with
    | zero => intro x1 x2 x4 x5 x6 ls hw hl; exact False.elim hw
    | succ n I9 =>
      have B69 : ∀ (x1 : Int32) (x2 : Int32) (x4 : Int32) (x6 : Int32) (x7 : Int32) (t0 : Int32) (ls : Array Slot), wpX6_fits_69 (wpX6_fits_L9  z0 post n) z0 post x1 x2 x4 x6 x7 t0 → lv_has ls 8 [(0, .ref (h 0)), (1, .int x1), (2, .int x2), (4, .int x4), (6, .int x6), (7, .int x7)] → W p l e R s m args below meth c s.heap [] 0 0 Q (F0 m 69 ls [.int t0]) := by
        intro x1 x2 x4 x6 x7 t0 ls hw hl
        unfold wpX6_fits_69 at hw
        refine lv_istore (lv' := [(5, .int t0), (0, .ref (h 0)), (1, .int x1), (2, .int x2), (4, .int x4), (6, .int x6), (7, .int x7)]) hx hb dX6_fits_69 hl (by decide) rfl (fun ls hl => ?_)
        refine lv_iload hx hb dX6_fits_71 (lv_at hl 4 rfl) ?_
        refine lv_aload_n hx hb dX6_fits_73 rfl (lv_at hl 1 rfl) ?_
        refine lv_iload hx hb dX6_fits_74 (lv_at hl 6 rfl) ?_
        refine vp_callSi (xro (xr_V hC (cX6_feltBy_c (h := h) hw) ⟨rfl, rfl⟩ bw_806 calX6_feltBy ⟨Nat.le_trans (Nat.le_of_ble_eq_true rfl) hF, Nat.le_trans (Nat.le_of_ble_eq_true rfl) hL⟩ (rest := [.int x4]) (xpR hK hP rfl rfl) rfl hl rfl (Nat.le_of_ble_eq_true rfl) dX6_fits_76 ⟨Nat.zero_le _, Nat.zero_le _⟩)) (fun r1 hw => ?_)
        refine lv_iadd hx hb dX6_fits_79 ?_
        refine vp_callSi (xro (xr_S hC (cX6_most9_c hw) ⟨rfl, rfl⟩ bw_810 calX6_most9 ⟨Nat.le_trans (Nat.le_of_ble_eq_true rfl) hF, Nat.le_trans (Nat.le_of_ble_eq_true rfl) hL⟩ (rest := []) (xpS hK) rfl hl rfl (Nat.le_of_ble_eq_true rfl) dX6_fits_80 ⟨Nat.zero_le _, Nat.zero_le _⟩)) (fun r2 hw => ?_)
        refine vp_callSi (xro (xr_S hC (cX6_wane_c hw) ⟨rfl, rfl⟩ bw_813 calX6_wane ⟨Nat.le_trans (Nat.le_of_ble_eq_true rfl) hF, Nat.le_trans (Nat.le_of_ble_eq_true rfl) hL⟩ (rest := []) (xpS hK) rfl hl rfl (Nat.le_of_ble_eq_true rfl) dX6_fits_83 ⟨Nat.zero_le _, Nat.zero_le _⟩)) (fun r3 hw => ?_)
        refine lv_istore (lv' := [(4, .int r3), (5, .int t0), (0, .ref (h 0)), (1, .int x1), (2, .int x2), (6, .int x6), (7, .int x7)]) hx hb dX6_fits_86 hl (by decide) rfl (fun ls hl => ?_)
        refine lv_iinc (v := (x6 + (1 : Int32))) (lv' := [(6, .int (x6 + (1 : Int32))), (4, .int r3), (5, .int t0), (0, .ref (h 0)), (1, .int x1), (2, .int x2), (7, .int x7)]) hx hb dX6_fits_88 hl (k := 5) rfl rfl (by decide) rfl (fun ls hl => ?_)
        refine lv_goto (tgt := 9) hx hb dX6_fits_91 (by decide) ?_
        exact I9 x1 x2 r3 t0 (x6 + (1 : Int32)) _ hw (lv_sub hl [3, 4, 5, 1, 2, 0] rfl)
      intro x1 x2 x4 x5 x6 ls hw hl
      have hw : wpX6_fits_9  (wpX6_fits_L9  z0 post n) z0 post x1 x2 x4 x5 x6 := hw
      unfold wpX6_fits_9 at hw
      refine lv_iload hx hb dX6_fits_9 (lv_at hl 5 rfl) ?_
      refine lv_iload_n hx hb dX6_fits_11 rfl (lv_at hl 2 rfl) ?_
      refine lv_icmp_ge (tgt := 94) hx hb dX6_fits_12 (by decide) (fun hc => ?_) (fun hc => ?_)
      · have hw := And.left hw hc
        refine lv_iload hx hb dX6_fits_94 (lv_at hl 4 rfl) ?_
        exact hret _ _ _ (And.left hw) (And.right hw) dX6_fits_96
      · have hw := And.right hw hc
        refine lv_iload hx hb dX6_fits_15 (lv_at hl 4 rfl) ?_
        refine lv_if_eq (tgt := 94) hx hb dX6_fits_17 (by decide) (fun hc => ?_) (fun hc => ?_)
        · have hw := And.left hw hc
          refine lv_iload hx hb dX6_fits_94 (lv_at hl 4 rfl) ?_
          exact hret _ _ _ (And.left hw) (And.right hw) dX6_fits_96
        · have hw := And.right hw hc
          refine lv_aload_n hx hb dX6_fits_20 rfl (lv_at hl 0 rfl) ?_
          refine rg_M_X6_0_34 hC hK hP dX6_fits_21 ?_
          refine lv_iload_n hx hb dX6_fits_24 rfl (lv_at hl 1 rfl) ?_
          refine lv_iconst (v := (2 : Int32)) hx hb dX6_fits_25 (by decide) ?_
          refine lv_iload hx hb dX6_fits_26 (lv_at hl 5 rfl) ?_
          refine lv_imul hx hb dX6_fits_28 ?_
          refine lv_iadd hx hb dX6_fits_29 ?_
          refine rl_M_15 hC hK hP (And.left hw) dX6_fits_30 ?_
          have hw := And.right hw
          refine lv_l2i (v := (((w_l z0 34) (x1 + ((2 : Int32) * x6)).toNatClampNeg).toInt32)) hx hb dX6_fits_31 rfl ?_
          refine lv_istore (lv' := [(7, .int (((w_l z0 34) (x1 + ((2 : Int32) * x6)).toNatClampNeg).toInt32)), (0, .ref (h 0)), (1, .int x1), (2, .int x2), (4, .int x4), (5, .int x5), (6, .int x6)]) hx hb dX6_fits_32 hl (by decide) rfl (fun ls hl => ?_)
          refine lv_aload_n hx hb dX6_fits_34 rfl (lv_at hl 1 rfl) ?_
          refine rg_M_X6_0_0 hC hK hP dX6_fits_35 ?_
          refine lv_iload hx hb dX6_fits_38 (lv_at hl 0 rfl) ?_
          refine rl_M_1 hC hK hP (And.left hw) dX6_fits_40 ?_
          have hw := And.right hw
          refine lv_iload hx hb dX6_fits_41 (lv_at hl 4 rfl) ?_
          refine vp_callSi (xro (xr_S hC (cX6_pailsOf_c hw) ⟨rfl, rfl⟩ bw_800 calX6_pailsOf ⟨Nat.le_trans (Nat.le_of_ble_eq_true rfl) hF, Nat.le_trans (Nat.le_of_ble_eq_true rfl) hL⟩ (rest := []) (xpS hK) rfl hl rfl (Nat.le_of_ble_eq_true rfl) dX6_fits_43 ⟨Nat.zero_le _, Nat.zero_le _⟩)) (fun r1 hw => ?_)
          refine lv_i2l (v := (r1.toInt64)) hx hb dX6_fits_46 rfl ?_
          refine lv_aload_n hx hb dX6_fits_47 rfl (lv_at hl 1 rfl) ?_
          refine rg_M_X6_0_34 hC hK hP dX6_fits_48 ?_
          refine lv_iload_n hx hb dX6_fits_51 rfl (lv_at hl 2 rfl) ?_
          refine lv_iconst (v := (2 : Int32)) hx hb dX6_fits_52 (by decide) ?_
          refine lv_iload hx hb dX6_fits_53 (lv_at hl 6 rfl) ?_
          refine lv_imul hx hb dX6_fits_55 ?_
          refine lv_iadd hx hb dX6_fits_56 ?_
          refine lv_iconst (v := (1 : Int32)) hx hb dX6_fits_57 (by decide) ?_
          refine lv_iadd hx hb dX6_fits_58 ?_
          refine rl_M_15 hC hK hP (And.left hw) dX6_fits_59 ?_
          have hw := And.right hw
          refine W.lcmp hx hb dX6_fits_60 ?_
          refine lv_if_ne (tgt := 68) hx hb dX6_fits_61 (by decide) (fun hc => ?_) (fun hc => ?_)
          · have hw := And.left hw hc
            refine lv_iconst (v := (0 : Int32)) hx hb dX6_fits_68 (by decide) ?_
            exact B69 x1 x2 x4 x6 (((w_l z0 34) (x1 + ((2 : Int32) * x6)).toNatClampNeg).toInt32) (0 : Int32) _ hw (lv_sub hl [1, 2, 3, 4, 6, 0] rfl)
          · have hw := And.right hw hc
            refine lv_iconst (v := (1 : Int32)) hx hb dX6_fits_64 (by decide) ?_
            refine lv_goto (tgt := 69) hx hb dX6_fits_65 (by decide) ?_
            exact B69 x1 x2 x4 x6 (((w_l z0 34) (x1 + ((2 : Int32) * x6)).toNatClampNeg).toInt32) (1 : Int32) _ hw (lv_sub hl [1, 2, 3, 4, 6, 0] rfl)
  unfold wpX6_fits at hw
  refine lv_iload_n hx hb dX6_fits_0 rfl (lv_at hl 3 rfl) ?_
  refine lv_istore (lv' := [(4, .int x3), (0, .ref (h 0)), (1, .int x1), (2, .int x2), (3, .int x3)]) hx hb dX6_fits_1 hl (by decide) rfl (fun ls hl => ?_)
  refine lv_iconst (v := (1 : Int32)) hx hb dX6_fits_3 (by decide) ?_
  refine lv_istore (lv' := [(5, .int (1 : Int32)), (4, .int x3), (0, .ref (h 0)), (1, .int x1), (2, .int x2), (3, .int x3)]) hx hb dX6_fits_4 hl (by decide) rfl (fun ls hl => ?_)
  refine lv_iconst (v := (0 : Int32)) hx hb dX6_fits_6 (by decide) ?_
  refine lv_istore (lv' := [(6, .int (0 : Int32)), (5, .int (1 : Int32)), (4, .int x3), (0, .ref (h 0)), (1, .int x1), (2, .int x2), (3, .int x3)]) hx hb dX6_fits_7 hl (by decide) rfl (fun ls hl => ?_)
  obtain ⟨n9, hw⟩ := hw
  exact B9 n9 x1 x2 x3 (1 : Int32) (0 : Int32) _ hw (lv_sub hl [3, 4, 5, 2, 1, 0] rfl)
def wpX6_fit_161 (k128 : Int32 → Int32 → Int32 → Int32 → Prop) (z0 : wSt) (post : Int32 → Prop) (x4 : Int32) (x6 : Int32) (x8 : Int32) (t0 : Int32) (t1 : Int32) : Prop := (k128 x4 x6 (t1 ||| t0) (x8 + (1 : Int32)))
def wpX6_fit_128 (k128 : Int32 → Int32 → Int32 → Int32 → Prop) (z0 : wSt) (post : Int32 → Prop) (x4 : Int32) (x6 : Int32) (x7 : Int32) (x8 : Int32) : Prop := (((9 : Int32) < x8 → (post x7)) ∧ (¬ (9 : Int32) < x8 → (wpX6_fits x6 x4 x8 z0 (fun r1 => ((r1 = 0 → (wpX6_fit_161 k128 z0 post x4 x6 x8 (0 : Int32) x7)) ∧ (¬ r1 = 0 → (wpX6_fit_161 k128 z0 post x4 x6 x8 ((1 : Int32) <<< ((x8 + (9 : Int32)) &&& 31)) x7)))))))
def wpX6_fit_L128  (z0 : wSt) (post : Int32 → Prop) : Nat → Int32 → Int32 → Int32 → Int32 → Prop
  | 0 => fun _ _ _ _ => False
  | n + 1 => fun x4 x6 x7 x8 => wpX6_fit_128  (wpX6_fit_L128  z0 post n) z0 post x4 x6 x7 x8
def wpX6_fit_55 (k55 : Int32 → Int32 → Int32 → Prop) (z0 : wSt) (post : Int32 → Prop) (x4 : Int32) (x6 : Int32) (x7 : Int32) : Prop := ((x4 ≤ x7 → (∃ n, wpX6_fit_L128  z0 post n x4 x6 (0 : Int32) (-9 : Int32))) ∧ (¬ x4 ≤ x7 → (vp_in (x6 + ((2 : Int32) * x7)) 96 ∧ (wpX6_in ((w_l z0 34) (x6 + ((2 : Int32) * x7)).toNatClampNeg) (0 : Int64) (((w_i z0 5) - (1 : Int32)).toInt64) (fun r1 => ((r1 = 0 → (post (-2 : Int32))) ∧ (¬ r1 = 0 → (vp_in ((x6 + ((2 : Int32) * x7)) + (1 : Int32)) 96 ∧ (wpX6_in ((w_l z0 34) ((x6 + ((2 : Int32) * x7)) + (1 : Int32)).toNatClampNeg) (0 : Int64) (9 : Int64) (fun r2 => ((¬ r2 = 0 → (k55 x4 x6 (x7 + (1 : Int32)))) ∧ (r2 = 0 → (post (-2 : Int32))))))))))))))
def wpX6_fit_L55  (z0 : wSt) (post : Int32 → Prop) : Nat → Int32 → Int32 → Int32 → Prop
  | 0 => fun _ _ _ => False
  | n + 1 => fun x4 x6 x7 => wpX6_fit_55  (wpX6_fit_L55  z0 post n) z0 post x4 x6 x7
def wpX6_fit (x1 : Int32) (x2 : Int32) (x3 : Int32) (x4 : Int32) (z0 : wSt) (post : Int32 → Prop) : Prop := (wpX6_isSheet x1 x2 (fun r1 => ((r1 = 0 → (post (-1 : Int32))) ∧ (¬ r1 = 0 → (wpX6_in (x4.toInt64) (1 : Int64) (8 : Int64) (fun r2 => ((¬ r2 = 0 → (wpX6_lacksRow x1 x2 x3 ((2 : Int32) * x4) z0 (fun r3 => ((0 ≤ r3 → (∃ n, wpX6_fit_L55  z0 post n x4 (((24 : Int32) * x1) + x3) (0 : Int32))) ∧ (¬ 0 ≤ r3 → (post r3)))))) ∧ (r2 = 0 → (post (-1 : Int32))))))))))
set_option maxHeartbeats 4000000 in
set_option maxRecDepth 100000 in
theorem cX6_fit_c {l : Launch} {G : wG} {h : Nat → Nat} {x1 : Int32} {x2 : Int32} {x3 : Int32} {x4 : Int32} {post : Int32 → Prop} {z0 : wSt}  (hw : wpX6_fit x1 x2 x3 x4 z0 post) : Met l yX6_fit (.code yX6_fit cX6_fit 9 (some .int) :: BIG) { frames := 2, cells := 0, slots := 0, locals := 49 } (xPr G [.ref (h 0), .int x1, .int x2, .int x3, .int x4] (wsM G h z0)) (vp_Si post) 0 0 (fun _ => False) := by
  refine xm_ri (by decide) (Nat.le_of_ble_eq_true rfl) (fun p e s m args below meth c ls R Q hC hK hP hl hF hL hret => ?_)
  have hx := hC.1
  have hb := hC.2.1
  have hl : lv_has ls 9 [(0, .ref (h 0)), (1, .int x1), (2, .int x2), (3, .int x3), (4, .int x4)] := hl
  have B128 : ∀ n : Nat, ∀ (x4 : Int32) (x6 : Int32) (x7 : Int32) (x8 : Int32) (ls : Array Slot), wpX6_fit_L128  z0 post n x4 x6 x7 x8 → lv_has ls 9 [(0, .ref (h 0)), (4, .int x4), (6, .int x6), (7, .int x7), (8, .int x8)] → W p l e R s m args below meth c s.heap [] 0 0 Q (F0 m 128 ls []) := by
    intro n
    induction n with
    | zero => intro x4 x6 x7 x8 ls hw hl; exact False.elim hw
    | succ n I128 =>
      have B161 : ∀ (x4 : Int32) (x6 : Int32) (x8 : Int32) (t0 : Int32) (t1 : Int32) (ls : Array Slot), wpX6_fit_161 (wpX6_fit_L128  z0 post n) z0 post x4 x6 x8 t0 t1 → lv_has ls 9 [(0, .ref (h 0)), (4, .int x4), (6, .int x6), (8, .int x8)] → W p l e R s m args below meth c s.heap [] 0 0 Q (F0 m 161 ls [.int t0, .int t1]) := by
        intro x4 x6 x8 t0 t1 ls hw hl
        unfold wpX6_fit_161 at hw
        refine lv_ior hx hb dX6_fit_161 ?_
        refine lv_istore (lv' := [(7, .int (t1 ||| t0)), (0, .ref (h 0)), (4, .int x4), (6, .int x6), (8, .int x8)]) hx hb dX6_fit_162 hl (by decide) rfl (fun ls hl => ?_)
        refine lv_iinc (v := (x8 + (1 : Int32))) (lv' := [(8, .int (x8 + (1 : Int32))), (7, .int (t1 ||| t0)), (0, .ref (h 0)), (4, .int x4), (6, .int x6)]) hx hb dX6_fit_164 hl (k := 4) rfl rfl (by decide) rfl (fun ls hl => ?_)
        refine lv_goto (tgt := 128) hx hb dX6_fit_167 (by decide) ?_
        exact I128 x4 x6 (t1 ||| t0) (x8 + (1 : Int32)) _ hw (lv_sub hl [2, 3, 4, 1, 0] rfl)
      intro x4 x6 x7 x8 ls hw hl
      have hw : wpX6_fit_128  (wpX6_fit_L128  z0 post n) z0 post x4 x6 x7 x8 := hw
      unfold wpX6_fit_128 at hw
      refine lv_iload hx hb dX6_fit_128 (lv_at hl 4 rfl) ?_
      refine lv_bipush (v := (9 : Int32)) hx hb dX6_fit_130 (by decide) ?_
      refine lv_icmp_gt (tgt := 170) hx hb dX6_fit_132 (by decide) (fun hc => ?_) (fun hc => ?_)
      · have hw := And.left hw hc
        refine lv_iload hx hb dX6_fit_170 (lv_at hl 3 rfl) ?_
        exact hret _ _ _ hw dX6_fit_172
      · have hw := And.right hw hc
        refine lv_iload hx hb dX6_fit_135 (lv_at hl 3 rfl) ?_
        refine lv_aload_n hx hb dX6_fit_137 rfl (lv_at hl 0 rfl) ?_
        refine lv_iload hx hb dX6_fit_138 (lv_at hl 2 rfl) ?_
        refine lv_iload hx hb dX6_fit_140 (lv_at hl 1 rfl) ?_
        refine lv_iload hx hb dX6_fit_142 (lv_at hl 4 rfl) ?_
        refine vp_callSi (xro (xr_V hC (cX6_fits_c (h := h) hw) ⟨rfl, rfl⟩ bw_925 calX6_fits ⟨Nat.le_trans (Nat.le_of_ble_eq_true rfl) hF, Nat.le_trans (Nat.le_of_ble_eq_true rfl) hL⟩ (rest := [.int x7]) (xpR hK hP rfl rfl) rfl hl rfl (Nat.le_of_ble_eq_true rfl) dX6_fit_144 ⟨Nat.zero_le _, Nat.zero_le _⟩)) (fun r1 hw => ?_)
        refine lv_if_eq (tgt := 160) hx hb dX6_fit_147 (by decide) (fun hc => ?_) (fun hc => ?_)
        · have hw := And.left hw hc
          refine lv_iconst (v := (0 : Int32)) hx hb dX6_fit_160 (by decide) ?_
          exact B161 x4 x6 x8 (0 : Int32) x7 _ hw (lv_sub hl [0, 1, 2, 4] rfl)
        · have hw := And.right hw hc
          refine lv_iconst (v := (1 : Int32)) hx hb dX6_fit_150 (by decide) ?_
          refine lv_iload hx hb dX6_fit_151 (lv_at hl 4 rfl) ?_
          refine lv_bipush (v := (9 : Int32)) hx hb dX6_fit_153 (by decide) ?_
          refine lv_iadd hx hb dX6_fit_155 ?_
          refine lv_ishl hx hb dX6_fit_156 ?_
          refine lv_goto (tgt := 161) hx hb dX6_fit_157 (by decide) ?_
          exact B161 x4 x6 x8 ((1 : Int32) <<< ((x8 + (9 : Int32)) &&& 31)) x7 _ hw (lv_sub hl [0, 1, 2, 4] rfl)
  have B55 : ∀ n : Nat, ∀ (x4 : Int32) (x6 : Int32) (x7 : Int32) (ls : Array Slot), wpX6_fit_L55  z0 post n x4 x6 x7 → lv_has ls 9 [(0, .ref (h 0)), (4, .int x4), (6, .int x6), (7, .int x7)] → W p l e R s m args below meth c s.heap [] 0 0 Q (F0 m 55 ls []) := by
    intro n
    induction n with
    | zero => intro x4 x6 x7 ls hw hl; exact False.elim hw
    | succ n I55 =>
      intro x4 x6 x7 ls hw hl
      have hw : wpX6_fit_55  (wpX6_fit_L55  z0 post n) z0 post x4 x6 x7 := hw
      unfold wpX6_fit_55 at hw
      refine lv_iload hx hb dX6_fit_55 (lv_at hl 3 rfl) ?_
      refine lv_iload hx hb dX6_fit_57 (lv_at hl 1 rfl) ?_
      refine lv_icmp_ge (tgt := 121) hx hb dX6_fit_59 (by decide) (fun hc => ?_) (fun hc => ?_)
      · have hw := And.left hw hc
        refine lv_iconst (v := (0 : Int32)) hx hb dX6_fit_121 (by decide) ?_
        refine lv_istore (lv' := [(7, .int (0 : Int32)), (0, .ref (h 0)), (4, .int x4), (6, .int x6)]) hx hb dX6_fit_122 hl (by decide) rfl (fun ls hl => ?_)
        refine lv_bipush (v := (-9 : Int32)) hx hb dX6_fit_124 (by decide) ?_
        refine lv_istore (lv' := [(8, .int (-9 : Int32)), (7, .int (0 : Int32)), (0, .ref (h 0)), (4, .int x4), (6, .int x6)]) hx hb dX6_fit_126 hl (by decide) rfl (fun ls hl => ?_)
        obtain ⟨n128, hw⟩ := hw
        exact B128 n128 x4 x6 (0 : Int32) (-9 : Int32) _ hw (lv_sub hl [2, 3, 4, 1, 0] rfl)
      · have hw := And.right hw hc
        refine lv_aload_n hx hb dX6_fit_62 rfl (lv_at hl 0 rfl) ?_
        refine rg_M_X6_0_34 hC hK hP dX6_fit_63 ?_
        refine lv_iload hx hb dX6_fit_66 (lv_at hl 2 rfl) ?_
        refine lv_iconst (v := (2 : Int32)) hx hb dX6_fit_68 (by decide) ?_
        refine lv_iload hx hb dX6_fit_69 (lv_at hl 3 rfl) ?_
        refine lv_imul hx hb dX6_fit_71 ?_
        refine lv_iadd hx hb dX6_fit_72 ?_
        refine rl_M_15 hC hK hP (And.left hw) dX6_fit_73 ?_
        have hw := And.right hw
        refine lv_lconst (v := (0 : Int64)) hx hb dX6_fit_74 (by decide) ?_
        refine lv_aload_n hx hb dX6_fit_75 rfl (lv_at hl 0 rfl) ?_
        refine rg_M_X6_0_5 hC hK hP dX6_fit_76 ?_
        refine lv_iconst (v := (1 : Int32)) hx hb dX6_fit_79 (by decide) ?_
        refine lv_isub hx hb dX6_fit_80 ?_
        refine lv_i2l (v := (((w_i z0 5) - (1 : Int32)).toInt64)) hx hb dX6_fit_81 rfl ?_
        refine vp_callSi (xro (xr_S hC (cX6_in_c hw) ⟨rfl, rfl⟩ bw_700 calX6_in ⟨Nat.le_trans (Nat.le_of_ble_eq_true rfl) hF, Nat.le_trans (Nat.le_of_ble_eq_true rfl) hL⟩ (rest := []) (xpS hK) rfl hl rfl (Nat.le_of_ble_eq_true rfl) dX6_fit_82 ⟨Nat.zero_le _, Nat.zero_le _⟩)) (fun r1 hw => ?_)
        refine lv_if_eq (tgt := 112) hx hb dX6_fit_85 (by decide) (fun hc => ?_) (fun hc => ?_)
        · have hw := And.left hw hc
          refine lv_bipush (v := (-2 : Int32)) hx hb dX6_fit_112 (by decide) ?_
          exact hret _ _ _ hw dX6_fit_114
        · have hw := And.right hw hc
          refine lv_aload_n hx hb dX6_fit_88 rfl (lv_at hl 0 rfl) ?_
          refine rg_M_X6_0_34 hC hK hP dX6_fit_89 ?_
          refine lv_iload hx hb dX6_fit_92 (lv_at hl 2 rfl) ?_
          refine lv_iconst (v := (2 : Int32)) hx hb dX6_fit_94 (by decide) ?_
          refine lv_iload hx hb dX6_fit_95 (lv_at hl 3 rfl) ?_
          refine lv_imul hx hb dX6_fit_97 ?_
          refine lv_iadd hx hb dX6_fit_98 ?_
          refine lv_iconst (v := (1 : Int32)) hx hb dX6_fit_99 (by decide) ?_
          refine lv_iadd hx hb dX6_fit_100 ?_
          refine rl_M_15 hC hK hP (And.left hw) dX6_fit_101 ?_
          have hw := And.right hw
          refine lv_lconst (v := (0 : Int64)) hx hb dX6_fit_102 (by decide) ?_
          refine lv_ldc2 (v := (9 : Int64)) hx hb hC.2.2.2.1 (hC.2.2.2.2 _ bw_704) dX6_fit_103 ?_
          refine vp_callSi (xro (xr_S hC (cX6_in_c hw) ⟨rfl, rfl⟩ bw_700 calX6_in ⟨Nat.le_trans (Nat.le_of_ble_eq_true rfl) hF, Nat.le_trans (Nat.le_of_ble_eq_true rfl) hL⟩ (rest := []) (xpS hK) rfl hl rfl (Nat.le_of_ble_eq_true rfl) dX6_fit_106 ⟨Nat.zero_le _, Nat.zero_le _⟩)) (fun r2 hw => ?_)
          refine lv_if_ne (tgt := 115) hx hb dX6_fit_109 (by decide) (fun hc => ?_) (fun hc => ?_)
          · have hw := And.left hw hc
            refine lv_iinc (v := (x7 + (1 : Int32))) (lv' := [(7, .int (x7 + (1 : Int32))), (0, .ref (h 0)), (4, .int x4), (6, .int x6)]) hx hb dX6_fit_115 hl (k := 3) rfl rfl (by decide) rfl (fun ls hl => ?_)
            refine lv_goto (tgt := 55) hx hb dX6_fit_118 (by decide) ?_
            exact I55 x4 x6 (x7 + (1 : Int32)) _ hw (lv_sub hl [1, 2, 3, 0] rfl)
          · have hw := And.right hw hc
            refine lv_bipush (v := (-2 : Int32)) hx hb dX6_fit_112 (by decide) ?_
            exact hret _ _ _ hw dX6_fit_114
  unfold wpX6_fit at hw
  refine lv_iload_n hx hb dX6_fit_0 rfl (lv_at hl 1 rfl) ?_
  refine lv_iload_n hx hb dX6_fit_1 rfl (lv_at hl 2 rfl) ?_
  refine vp_callSi (xro (xr_S hC (cX6_isSheet_c hw) ⟨rfl, rfl⟩ bw_903 calX6_isSheet ⟨Nat.le_trans (Nat.le_of_ble_eq_true rfl) hF, Nat.le_trans (Nat.le_of_ble_eq_true rfl) hL⟩ (rest := []) (xpS hK) rfl hl rfl (Nat.le_of_ble_eq_true rfl) dX6_fit_2 ⟨Nat.zero_le _, Nat.zero_le _⟩)) (fun r1 hw => ?_)
  refine lv_if_eq (tgt := 21) hx hb dX6_fit_5 (by decide) (fun hc => ?_) (fun hc => ?_)
  · have hw := And.left hw hc
    refine lv_iconst (v := (-1 : Int32)) hx hb dX6_fit_21 (by decide) ?_
    exact hret _ _ _ hw dX6_fit_22
  · have hw := And.right hw hc
    refine lv_iload hx hb dX6_fit_8 (lv_at hl 4 rfl) ?_
    refine lv_i2l (v := (x4.toInt64)) hx hb dX6_fit_10 rfl ?_
    refine lv_lconst (v := (1 : Int64)) hx hb dX6_fit_11 (by decide) ?_
    refine lv_ldc2 (v := (8 : Int64)) hx hb hC.2.2.2.1 (hC.2.2.2.2 _ bw_745) dX6_fit_12 ?_
    refine vp_callSi (xro (xr_S hC (cX6_in_c hw) ⟨rfl, rfl⟩ bw_700 calX6_in ⟨Nat.le_trans (Nat.le_of_ble_eq_true rfl) hF, Nat.le_trans (Nat.le_of_ble_eq_true rfl) hL⟩ (rest := []) (xpS hK) rfl hl rfl (Nat.le_of_ble_eq_true rfl) dX6_fit_15 ⟨Nat.zero_le _, Nat.zero_le _⟩)) (fun r2 hw => ?_)
    refine lv_if_ne (tgt := 23) hx hb dX6_fit_18 (by decide) (fun hc => ?_) (fun hc => ?_)
    · have hw := And.left hw hc
      refine lv_aload_n hx hb dX6_fit_23 rfl (lv_at hl 0 rfl) ?_
      refine lv_iload_n hx hb dX6_fit_24 rfl (lv_at hl 1 rfl) ?_
      refine lv_iload_n hx hb dX6_fit_25 rfl (lv_at hl 2 rfl) ?_
      refine lv_iload_n hx hb dX6_fit_26 rfl (lv_at hl 3 rfl) ?_
      refine lv_iconst (v := (2 : Int32)) hx hb dX6_fit_27 (by decide) ?_
      refine lv_iload hx hb dX6_fit_28 (lv_at hl 4 rfl) ?_
      refine lv_imul hx hb dX6_fit_30 ?_
      refine vp_callSi (xro (xr_V hC (cX6_lacksRow_c (h := h) hw) ⟨rfl, rfl⟩ bw_914 calX6_lacksRow ⟨Nat.le_trans (Nat.le_of_ble_eq_true rfl) hF, Nat.le_trans (Nat.le_of_ble_eq_true rfl) hL⟩ (rest := []) (xpR hK hP rfl rfl) rfl hl rfl (Nat.le_of_ble_eq_true rfl) dX6_fit_31 ⟨Nat.zero_le _, Nat.zero_le _⟩)) (fun r3 hw => ?_)
      refine lv_istore (lv' := [(5, .int r3), (0, .ref (h 0)), (1, .int x1), (2, .int x2), (3, .int x3), (4, .int x4)]) hx hb dX6_fit_34 hl (by decide) rfl (fun ls hl => ?_)
      refine lv_iload hx hb dX6_fit_36 (lv_at hl 0 rfl) ?_
      refine lv_if_ge (tgt := 44) hx hb dX6_fit_38 (by decide) (fun hc => ?_) (fun hc => ?_)
      · have hw := And.left hw hc
        refine lv_bipush (v := (24 : Int32)) hx hb dX6_fit_44 (by decide) ?_
        refine lv_iload_n hx hb dX6_fit_46 rfl (lv_at hl 2 rfl) ?_
        refine lv_imul hx hb dX6_fit_47 ?_
        refine lv_iload_n hx hb dX6_fit_48 rfl (lv_at hl 4 rfl) ?_
        refine lv_iadd hx hb dX6_fit_49 ?_
        refine lv_istore (lv' := [(6, .int (((24 : Int32) * x1) + x3)), (5, .int r3), (0, .ref (h 0)), (1, .int x1), (2, .int x2), (3, .int x3), (4, .int x4)]) hx hb dX6_fit_50 hl (by decide) rfl (fun ls hl => ?_)
        refine lv_iconst (v := (0 : Int32)) hx hb dX6_fit_52 (by decide) ?_
        refine lv_istore (lv' := [(7, .int (0 : Int32)), (6, .int (((24 : Int32) * x1) + x3)), (5, .int r3), (0, .ref (h 0)), (1, .int x1), (2, .int x2), (3, .int x3), (4, .int x4)]) hx hb dX6_fit_53 hl (by decide) rfl (fun ls hl => ?_)
        obtain ⟨n55, hw⟩ := hw
        exact B55 n55 x4 (((24 : Int32) * x1) + x3) (0 : Int32) _ hw (lv_sub hl [3, 7, 1, 0] rfl)
      · have hw := And.right hw hc
        refine lv_iload hx hb dX6_fit_41 (lv_at hl 0 rfl) ?_
        exact hret _ _ _ hw dX6_fit_43
    · have hw := And.right hw hc
      refine lv_iconst (v := (-1 : Int32)) hx hb dX6_fit_21 (by decide) ?_
      exact hret _ _ _ hw dX6_fit_22
def wpX6_film_42 (k42 : Int32 → Int32 → Int32 → Int32 → (wSt) → Prop) (post : Int32 → (wSt) → Prop) (x1 : Int32) (x2 : Int32) (x4 : Int32) (x6 : Int32) (z0 : wSt) : Prop := (((9 : Int32) < x6 → (post (19 : Int32) z0)) ∧ (¬ (9 : Int32) < x6 → (wpX6_givesOf x1 x6 z0 (fun r1 => (vp_in (((((24 : Int32) * x2) + x4) + x6) + (9 : Int32)) 96 ∧ ∀ z1 : wSt, z1 = (w_sl z0 34 (vp_updL (w_l z0 34) (((((24 : Int32) * x2) + x4) + x6) + (9 : Int32)).toNatClampNeg (r1.toInt64))) → (k42 x1 x2 x4 (x6 + (1 : Int32)) z1))))))
def wpX6_film_L42  (post : Int32 → (wSt) → Prop) : Nat → Int32 → Int32 → Int32 → Int32 → (wSt) → Prop
  | 0 => fun _ _ _ _ _ => False
  | n + 1 => fun x1 x2 x4 x6 z0 => wpX6_film_42  (wpX6_film_L42  post n) post x1 x2 x4 x6 z0
def wpX6_film (x1 : Int32) (x2 : Int32) (x3 : Int32) (x4 : Int32) (z0 : wSt) (post : Int32 → (wSt) → Prop) : Prop := (wpX6_isOne x1 z0 (fun r1 => ((r1 = 0 → (post (-1 : Int32) z0)) ∧ (¬ r1 = 0 → (wpX6_isSheet x2 x3 (fun r2 => ((¬ r2 = 0 → (wpX6_lacksRow x2 x3 x4 (19 : Int32) z0 (fun r3 => ((0 ≤ r3 → (∃ n, wpX6_film_L42  post n x1 x2 x4 (-9 : Int32) z0)) ∧ (¬ 0 ≤ r3 → (post r3 z0)))))) ∧ (r2 = 0 → (post (-1 : Int32) z0)))))))))
set_option maxHeartbeats 4000000 in
set_option maxRecDepth 100000 in
theorem cX6_film_c {l : Launch} {G : wG} {h : Nat → Nat} {sz : Nat} {x1 : Int32} {x2 : Int32} {x3 : Int32} {x4 : Int32} {post : Int32 → (wSt) → Prop} {z0 : wSt}  (hw : wpX6_film x1 x2 x3 x4 z0 post) : Met l yX6_film (.code yX6_film cX6_film 7 (some .int) :: BIG) { frames := 2, cells := 0, slots := 0, locals := 49 } (xPw G [.ref (h 0), .int x1, .int x2, .int x3, .int x4] (wsM G h z0) sz) (xQi G post (fun q => (wsM G h q)) (va_A (wsM G h z0) sz)) 0 0 (va_A (wsM G h z0) sz) := by
  refine xm_wi (by decide) (Nat.le_of_ble_eq_true rfl) (fun p e s m args below meth c A ls R Q hC hK hA hP hD hS hl hF hL hret => ?_)
  have hx := hC.1
  have hb := hC.2.1
  have hl : lv_has ls 7 [(0, .ref (h 0)), (1, .int x1), (2, .int x2), (3, .int x3), (4, .int x4)] := hl
  have B42 : ∀ n : Nat, ∀ (x1 : Int32) (x2 : Int32) (x4 : Int32) (x6 : Int32) (z0 : wSt) (H : Heap) (locs : List Loc) (ls : Array Slot), wpX6_film_L42  post n x1 x2 x4 x6 z0 → va_P G.1 vwCl (wsM G h z0) H → va_D A (wsM G h z0) → va_S A s.heap H locs → lv_has ls 7 [(0, .ref (h 0)), (1, .int x1), (2, .int x2), (4, .int x4), (6, .int x6)] → W p l e R s m args below meth c H locs 0 0 Q (F0 m 42 ls []) := by
    intro n
    induction n with
    | zero => intro x1 x2 x4 x6 z0 H locs ls hw hP hD hS hl; exact False.elim hw
    | succ n I42 =>
      intro x1 x2 x4 x6 z0 H locs ls hw hP hD hS hl
      have hw : wpX6_film_42  (wpX6_film_L42  post n) post x1 x2 x4 x6 z0 := hw
      unfold wpX6_film_42 at hw
      refine lv_iload hx hb dX6_film_42 (lv_at hl 4 rfl) ?_
      refine lv_bipush (v := (9 : Int32)) hx hb dX6_film_44 (by decide) ?_
      refine lv_icmp_gt (tgt := 81) hx hb dX6_film_46 (by decide) (fun hc => ?_) (fun hc => ?_)
      · have hw := And.left hw hc
        refine lv_bipush (v := (19 : Int32)) hx hb dX6_film_81 (by decide) ?_
        exact hret _ _ _ _ _ _ hw hP hD hS dX6_film_83
      · have hw := And.right hw hc
        refine lv_aload_n hx hb dX6_film_49 rfl (lv_at hl 0 rfl) ?_
        refine rg_M_X6_0_34 hC hK hP dX6_film_50 ?_
        refine lv_bipush (v := (24 : Int32)) hx hb dX6_film_53 (by decide) ?_
        refine lv_iload_n hx hb dX6_film_55 rfl (lv_at hl 2 rfl) ?_
        refine lv_imul hx hb dX6_film_56 ?_
        refine lv_iload hx hb dX6_film_57 (lv_at hl 3 rfl) ?_
        refine lv_iadd hx hb dX6_film_59 ?_
        refine lv_iload hx hb dX6_film_60 (lv_at hl 4 rfl) ?_
        refine lv_iadd hx hb dX6_film_62 ?_
        refine lv_bipush (v := (9 : Int32)) hx hb dX6_film_63 (by decide) ?_
        refine lv_iadd hx hb dX6_film_65 ?_
        refine lv_aload_n hx hb dX6_film_66 rfl (lv_at hl 0 rfl) ?_
        refine lv_iload_n hx hb dX6_film_67 rfl (lv_at hl 1 rfl) ?_
        refine lv_iload hx hb dX6_film_68 (lv_at hl 4 rfl) ?_
        refine vp_callSi (xro (xr_V hC (cX6_givesOf_c (h := h) hw) ⟨rfl, rfl⟩ bw_863 calX6_givesOf ⟨Nat.le_trans (Nat.le_of_ble_eq_true rfl) hF, Nat.le_trans (Nat.le_of_ble_eq_true rfl) hL⟩ (rest := [.int (((((24 : Int32) * x2) + x4) + x6) + (9 : Int32)), .ref (h 15)]) (xpR hK hP rfl rfl) rfl hl rfl (Nat.le_of_ble_eq_true rfl) dX6_film_70 ⟨Nat.zero_le _, Nat.zero_le _⟩)) (fun r1 hw => ?_)
        refine lv_i2l (v := (r1.toInt64)) hx hb dX6_film_73 rfl ?_
        refine rs_M_15 hC hK hP hD hS (And.left hw) dX6_film_74 (fun z1 H locs hz1 hP hD hS => ?_)
        have hw := And.right hw z1 hz1
        refine lv_iinc (v := (x6 + (1 : Int32))) (lv' := [(6, .int (x6 + (1 : Int32))), (0, .ref (h 0)), (1, .int x1), (2, .int x2), (4, .int x4)]) hx hb dX6_film_75 hl (k := 4) rfl rfl (by decide) rfl (fun ls hl => ?_)
        refine lv_goto (tgt := 42) hx hb dX6_film_78 (by decide) ?_
        exact I42 x1 x2 x4 (x6 + (1 : Int32)) z1 _ _ _ hw hP hD hS (lv_sub hl [1, 2, 3, 4, 0] rfl)
  unfold wpX6_film at hw
  refine lv_aload_n hx hb dX6_film_0 rfl (lv_at hl 0 rfl) ?_
  refine lv_iload_n hx hb dX6_film_1 rfl (lv_at hl 1 rfl) ?_
  refine vp_callSi (xro (xr_V hC (cX6_isOne_c (h := h) hw) ⟨rfl, rfl⟩ bw_713 calX6_isOne ⟨Nat.le_trans (Nat.le_of_ble_eq_true rfl) hF, Nat.le_trans (Nat.le_of_ble_eq_true rfl) hL⟩ (rest := []) (xpR hK hP rfl rfl) rfl hl rfl (Nat.le_of_ble_eq_true rfl) dX6_film_2 ⟨Nat.zero_le _, Nat.zero_le _⟩)) (fun r1 hw => ?_)
  refine lv_if_eq (tgt := 16) hx hb dX6_film_5 (by decide) (fun hc => ?_) (fun hc => ?_)
  · have hw := And.left hw hc
    refine lv_iconst (v := (-1 : Int32)) hx hb dX6_film_16 (by decide) ?_
    exact hret _ _ _ _ _ _ hw hP hD hS dX6_film_17
  · have hw := And.right hw hc
    refine lv_iload_n hx hb dX6_film_8 rfl (lv_at hl 2 rfl) ?_
    refine lv_iload_n hx hb dX6_film_9 rfl (lv_at hl 3 rfl) ?_
    refine vp_callSi (xro (xr_S hC (cX6_isSheet_c hw) ⟨rfl, rfl⟩ bw_903 calX6_isSheet ⟨Nat.le_trans (Nat.le_of_ble_eq_true rfl) hF, Nat.le_trans (Nat.le_of_ble_eq_true rfl) hL⟩ (rest := []) (xpS hK) rfl hl rfl (Nat.le_of_ble_eq_true rfl) dX6_film_10 ⟨Nat.zero_le _, Nat.zero_le _⟩)) (fun r2 hw => ?_)
    refine lv_if_ne (tgt := 18) hx hb dX6_film_13 (by decide) (fun hc => ?_) (fun hc => ?_)
    · have hw := And.left hw hc
      refine lv_aload_n hx hb dX6_film_18 rfl (lv_at hl 0 rfl) ?_
      refine lv_iload_n hx hb dX6_film_19 rfl (lv_at hl 2 rfl) ?_
      refine lv_iload_n hx hb dX6_film_20 rfl (lv_at hl 3 rfl) ?_
      refine lv_iload hx hb dX6_film_21 (lv_at hl 4 rfl) ?_
      refine lv_bipush (v := (19 : Int32)) hx hb dX6_film_23 (by decide) ?_
      refine vp_callSi (xro (xr_V hC (cX6_lacksRow_c (h := h) hw) ⟨rfl, rfl⟩ bw_914 calX6_lacksRow ⟨Nat.le_trans (Nat.le_of_ble_eq_true rfl) hF, Nat.le_trans (Nat.le_of_ble_eq_true rfl) hL⟩ (rest := []) (xpR hK hP rfl rfl) rfl hl rfl (Nat.le_of_ble_eq_true rfl) dX6_film_25 ⟨Nat.zero_le _, Nat.zero_le _⟩)) (fun r3 hw => ?_)
      refine lv_istore (lv' := [(5, .int r3), (0, .ref (h 0)), (1, .int x1), (2, .int x2), (3, .int x3), (4, .int x4)]) hx hb dX6_film_28 hl (by decide) rfl (fun ls hl => ?_)
      refine lv_iload hx hb dX6_film_30 (lv_at hl 0 rfl) ?_
      refine lv_if_ge (tgt := 38) hx hb dX6_film_32 (by decide) (fun hc => ?_) (fun hc => ?_)
      · have hw := And.left hw hc
        refine lv_bipush (v := (-9 : Int32)) hx hb dX6_film_38 (by decide) ?_
        refine lv_istore (lv' := [(6, .int (-9 : Int32)), (5, .int r3), (0, .ref (h 0)), (1, .int x1), (2, .int x2), (3, .int x3), (4, .int x4)]) hx hb dX6_film_40 hl (by decide) rfl (fun ls hl => ?_)
        obtain ⟨n42, hw⟩ := hw
        exact B42 n42 x1 x2 x4 (-9 : Int32) z0 _ _ _ hw hP hD hS (lv_sub hl [2, 3, 4, 6, 0] rfl)
      · have hw := And.right hw hc
        refine lv_iload hx hb dX6_film_35 (lv_at hl 0 rfl) ?_
        exact hret _ _ _ _ _ _ hw hP hD hS dX6_film_37
    · have hw := And.right hw hc
      refine lv_iconst (v := (-1 : Int32)) hx hb dX6_film_16 (by decide) ?_
      exact hret _ _ _ _ _ _ hw hP hD hS dX6_film_17
def wpX6_copy_154 (k154 : Int32 → Int32 → Int32 → Int32 → (wSt) → Prop) (post : Int32 → (wSt) → Prop) (x3 : Int32) (x4 : Int32) (x5 : Int32) (x6 : Int32) (z0 : wSt) : Prop := ((x5 ≤ x6 → (post x5 z0)) ∧ (¬ x5 ≤ x6 → (vp_in x6 24 ∧ (vp_in ((((24 : Int32) * x3) + x4) + x6) 96 ∧ ∀ z1 : wSt, z1 = (w_sl z0 34 (vp_updL (w_l z0 34) ((((24 : Int32) * x3) + x4) + x6).toNatClampNeg ((w_l z0 35) x6.toNatClampNeg))) → (k154 x3 x4 x5 (x6 + (1 : Int32)) z1)))))
def wpX6_copy_L154  (post : Int32 → (wSt) → Prop) : Nat → Int32 → Int32 → Int32 → Int32 → (wSt) → Prop
  | 0 => fun _ _ _ _ _ => False
  | n + 1 => fun x3 x4 x5 x6 z0 => wpX6_copy_154  (wpX6_copy_L154  post n) post x3 x4 x5 x6 z0
def wpX6_copy_117 (k117 : Int32 → Int32 → Int32 → Int32 → Int32 → Int32 → (wSt) → Prop) (post : Int32 → (wSt) → Prop) (x1 : Int32) (x2 : Int32) (x3 : Int32) (x4 : Int32) (x5 : Int32) (x6 : Int32) (z0 : wSt) : Prop := ((x5 ≤ x6 → (∃ n, wpX6_copy_L154  post n x3 x4 x5 (0 : Int32) z0)) ∧ (¬ x5 ≤ x6 → (vp_in ((((24 : Int32) * x1) + x2) + x6) 96 ∧ (vp_in x6 24 ∧ ∀ z1 : wSt, z1 = (w_sl z0 35 (vp_updL (w_l z0 35) x6.toNatClampNeg ((w_l z0 34) ((((24 : Int32) * x1) + x2) + x6).toNatClampNeg))) → (k117 x1 x2 x3 x4 x5 (x6 + (1 : Int32)) z1)))))
def wpX6_copy_L117  (post : Int32 → (wSt) → Prop) : Nat → Int32 → Int32 → Int32 → Int32 → Int32 → Int32 → (wSt) → Prop
  | 0 => fun _ _ _ _ _ _ _ => False
  | n + 1 => fun x1 x2 x3 x4 x5 x6 z0 => wpX6_copy_117  (wpX6_copy_L117  post n) post x1 x2 x3 x4 x5 x6 z0
def wpX6_copy (x1 : Int32) (x2 : Int32) (x3 : Int32) (x4 : Int32) (x5 : Int32) (z0 : wSt) (post : Int32 → (wSt) → Prop) : Prop := (wpX6_in (x1.toInt64) (0 : Int64) (3 : Int64) (fun r1 => ((r1 = 0 → (post (-1 : Int32) z0)) ∧ (¬ r1 = 0 → (wpX6_in (x3.toInt64) (0 : Int64) (3 : Int64) (fun r2 => ((¬ r2 = 0 → (vp_in x1 4 ∧ ((((w_a z0 32) x1.toNatClampNeg) < 0 → (post (-11 : Int32) z0)) ∧ (¬ ((w_a z0 32) x1.toNatClampNeg) < 0 → (vp_in x3 4 ∧ ((0 ≤ ((w_a z0 32) x3.toNatClampNeg) → (vp_in x1 4 ∧ (vp_in x3 4 ∧ ((((w_a z0 32) x1.toNatClampNeg) = ((w_a z0 32) x3.toNatClampNeg) → ((x5 < 0 → (post (-13 : Int32) z0)) ∧ (¬ x5 < 0 → (vp_in x1 4 ∧ (wpX6_in (x2.toInt64) (0 : Int64) ((((w_a z0 33) x1.toNatClampNeg).toInt64) - (x5.toInt64)) (fun r3 => ((r3 = 0 → (post (-13 : Int32) z0)) ∧ (¬ r3 = 0 → (vp_in x3 4 ∧ (wpX6_in (x4.toInt64) (0 : Int64) ((((w_a z0 33) x3.toNatClampNeg).toInt64) - (x5.toInt64)) (fun r4 => ((¬ r4 = 0 → (∃ n, wpX6_copy_L117  post n x1 x2 x3 x4 x5 (0 : Int32) z0)) ∧ (r4 = 0 → (post (-13 : Int32) z0)))))))))))))) ∧ (¬ ((w_a z0 32) x1.toNatClampNeg) = ((w_a z0 32) x3.toNatClampNeg) → (post (-12 : Int32) z0)))))) ∧ (¬ 0 ≤ ((w_a z0 32) x3.toNatClampNeg) → (post (-11 : Int32) z0)))))))) ∧ (r2 = 0 → (post (-1 : Int32) z0)))))))))
set_option maxHeartbeats 4000000 in
set_option maxRecDepth 100000 in
theorem cX6_copy_c {l : Launch} {G : wG} {h : Nat → Nat} {sz : Nat} {x1 : Int32} {x2 : Int32} {x3 : Int32} {x4 : Int32} {x5 : Int32} {post : Int32 → (wSt) → Prop} {z0 : wSt}  (hw : wpX6_copy x1 x2 x3 x4 x5 z0 post) : Met l yX6_copy (.code yX6_copy cX6_copy 7 (some .int) :: BIG) { frames := 1, cells := 0, slots := 0, locals := 25 } (xPw G [.ref (h 0), .int x1, .int x2, .int x3, .int x4, .int x5] (wsM G h z0) sz) (xQi G post (fun q => (wsM G h q)) (va_A (wsM G h z0) sz)) 0 0 (va_A (wsM G h z0) sz) := by
  refine xm_wi (by decide) (Nat.le_of_ble_eq_true rfl) (fun p e s m args below meth c A ls R Q hC hK hA hP hD hS hl hF hL hret => ?_)
  have hx := hC.1
  have hb := hC.2.1
  have hl : lv_has ls 7 [(0, .ref (h 0)), (1, .int x1), (2, .int x2), (3, .int x3), (4, .int x4), (5, .int x5)] := hl
  have B154 : ∀ n : Nat, ∀ (x3 : Int32) (x4 : Int32) (x5 : Int32) (x6 : Int32) (z0 : wSt) (H : Heap) (locs : List Loc) (ls : Array Slot), wpX6_copy_L154  post n x3 x4 x5 x6 z0 → va_P G.1 vwCl (wsM G h z0) H → va_D A (wsM G h z0) → va_S A s.heap H locs → lv_has ls 7 [(0, .ref (h 0)), (3, .int x3), (4, .int x4), (5, .int x5), (6, .int x6)] → W p l e R s m args below meth c H locs 0 0 Q (F0 m 154 ls []) := by
    intro n
    induction n with
    | zero => intro x3 x4 x5 x6 z0 H locs ls hw hP hD hS hl; exact False.elim hw
    | succ n I154 =>
      intro x3 x4 x5 x6 z0 H locs ls hw hP hD hS hl
      have hw : wpX6_copy_154  (wpX6_copy_L154  post n) post x3 x4 x5 x6 z0 := hw
      unfold wpX6_copy_154 at hw
      refine lv_iload hx hb dX6_copy_154 (lv_at hl 4 rfl) ?_
      refine lv_iload hx hb dX6_copy_156 (lv_at hl 3 rfl) ?_
      refine lv_icmp_ge (tgt := 189) hx hb dX6_copy_158 (by decide) (fun hc => ?_) (fun hc => ?_)
      · have hw := And.left hw hc
        refine lv_iload hx hb dX6_copy_189 (lv_at hl 3 rfl) ?_
        exact hret _ _ _ _ _ _ hw hP hD hS dX6_copy_191
      · have hw := And.right hw hc
        refine lv_aload_n hx hb dX6_copy_161 rfl (lv_at hl 0 rfl) ?_
        refine rg_M_X6_0_34 hC hK hP dX6_copy_162 ?_
        refine lv_bipush (v := (24 : Int32)) hx hb dX6_copy_165 (by decide) ?_
        refine lv_iload_n hx hb dX6_copy_167 rfl (lv_at hl 1 rfl) ?_
        refine lv_imul hx hb dX6_copy_168 ?_
        refine lv_iload hx hb dX6_copy_169 (lv_at hl 2 rfl) ?_
        refine lv_iadd hx hb dX6_copy_171 ?_
        refine lv_iload hx hb dX6_copy_172 (lv_at hl 4 rfl) ?_
        refine lv_iadd hx hb dX6_copy_174 ?_
        refine lv_aload_n hx hb dX6_copy_175 rfl (lv_at hl 0 rfl) ?_
        refine rg_M_X6_0_35 hC hK hP dX6_copy_176 ?_
        refine lv_iload hx hb dX6_copy_179 (lv_at hl 4 rfl) ?_
        refine rl_M_16 hC hK hP (And.left hw) dX6_copy_181 ?_
        have hw := And.right hw
        refine rs_M_15 hC hK hP hD hS (And.left hw) dX6_copy_182 (fun z1 H locs hz1 hP hD hS => ?_)
        have hw := And.right hw z1 hz1
        refine lv_iinc (v := (x6 + (1 : Int32))) (lv' := [(6, .int (x6 + (1 : Int32))), (0, .ref (h 0)), (3, .int x3), (4, .int x4), (5, .int x5)]) hx hb dX6_copy_183 hl (k := 4) rfl rfl (by decide) rfl (fun ls hl => ?_)
        refine lv_goto (tgt := 154) hx hb dX6_copy_186 (by decide) ?_
        exact I154 x3 x4 x5 (x6 + (1 : Int32)) z1 _ _ _ hw hP hD hS (lv_sub hl [1, 2, 3, 4, 0] rfl)
  have B117 : ∀ n : Nat, ∀ (x1 : Int32) (x2 : Int32) (x3 : Int32) (x4 : Int32) (x5 : Int32) (x6 : Int32) (z0 : wSt) (H : Heap) (locs : List Loc) (ls : Array Slot), wpX6_copy_L117  post n x1 x2 x3 x4 x5 x6 z0 → va_P G.1 vwCl (wsM G h z0) H → va_D A (wsM G h z0) → va_S A s.heap H locs → lv_has ls 7 [(0, .ref (h 0)), (1, .int x1), (2, .int x2), (3, .int x3), (4, .int x4), (5, .int x5), (6, .int x6)] → W p l e R s m args below meth c H locs 0 0 Q (F0 m 117 ls []) := by
    intro n
    induction n with
    | zero => intro x1 x2 x3 x4 x5 x6 z0 H locs ls hw hP hD hS hl; exact False.elim hw
    | succ n I117 =>
      intro x1 x2 x3 x4 x5 x6 z0 H locs ls hw hP hD hS hl
      have hw : wpX6_copy_117  (wpX6_copy_L117  post n) post x1 x2 x3 x4 x5 x6 z0 := hw
      unfold wpX6_copy_117 at hw
      refine lv_iload hx hb dX6_copy_117 (lv_at hl 6 rfl) ?_
      refine lv_iload hx hb dX6_copy_119 (lv_at hl 5 rfl) ?_
      refine lv_icmp_ge (tgt := 151) hx hb dX6_copy_121 (by decide) (fun hc => ?_) (fun hc => ?_)
      · have hw := And.left hw hc
        refine lv_iconst (v := (0 : Int32)) hx hb dX6_copy_151 (by decide) ?_
        refine lv_istore (lv' := [(6, .int (0 : Int32)), (0, .ref (h 0)), (1, .int x1), (2, .int x2), (3, .int x3), (4, .int x4), (5, .int x5)]) hx hb dX6_copy_152 hl (by decide) rfl (fun ls hl => ?_)
        obtain ⟨n154, hw⟩ := hw
        exact B154 n154 x3 x4 x5 (0 : Int32) z0 _ _ _ hw hP hD hS (lv_sub hl [1, 4, 5, 6, 0] rfl)
      · have hw := And.right hw hc
        refine lv_aload_n hx hb dX6_copy_124 rfl (lv_at hl 0 rfl) ?_
        refine rg_M_X6_0_35 hC hK hP dX6_copy_125 ?_
        refine lv_iload hx hb dX6_copy_128 (lv_at hl 6 rfl) ?_
        refine lv_aload_n hx hb dX6_copy_130 rfl (lv_at hl 0 rfl) ?_
        refine rg_M_X6_0_34 hC hK hP dX6_copy_131 ?_
        refine lv_bipush (v := (24 : Int32)) hx hb dX6_copy_134 (by decide) ?_
        refine lv_iload_n hx hb dX6_copy_136 rfl (lv_at hl 1 rfl) ?_
        refine lv_imul hx hb dX6_copy_137 ?_
        refine lv_iload_n hx hb dX6_copy_138 rfl (lv_at hl 2 rfl) ?_
        refine lv_iadd hx hb dX6_copy_139 ?_
        refine lv_iload hx hb dX6_copy_140 (lv_at hl 6 rfl) ?_
        refine lv_iadd hx hb dX6_copy_142 ?_
        refine rl_M_15 hC hK hP (And.left hw) dX6_copy_143 ?_
        have hw := And.right hw
        refine rs_M_16 hC hK hP hD hS (And.left hw) dX6_copy_144 (fun z1 H locs hz1 hP hD hS => ?_)
        have hw := And.right hw z1 hz1
        refine lv_iinc (v := (x6 + (1 : Int32))) (lv' := [(6, .int (x6 + (1 : Int32))), (0, .ref (h 0)), (1, .int x1), (2, .int x2), (3, .int x3), (4, .int x4), (5, .int x5)]) hx hb dX6_copy_145 hl (k := 6) rfl rfl (by decide) rfl (fun ls hl => ?_)
        refine lv_goto (tgt := 117) hx hb dX6_copy_148 (by decide) ?_
        exact I117 x1 x2 x3 x4 x5 (x6 + (1 : Int32)) z1 _ _ _ hw hP hD hS (lv_sub hl [1, 2, 3, 4, 5, 6, 0] rfl)
  unfold wpX6_copy at hw
  refine lv_iload_n hx hb dX6_copy_0 rfl (lv_at hl 1 rfl) ?_
  refine lv_i2l (v := (x1.toInt64)) hx hb dX6_copy_1 rfl ?_
  refine lv_lconst (v := (0 : Int64)) hx hb dX6_copy_2 (by decide) ?_
  refine lv_ldc2 (v := (3 : Int64)) hx hb hC.2.2.2.1 (hC.2.2.2.2 _ bw_699) dX6_copy_3 ?_
  refine vp_callSi (xro (xr_S hC (cX6_in_c hw) ⟨rfl, rfl⟩ bw_700 calX6_in ⟨Nat.le_trans (Nat.le_of_ble_eq_true rfl) hF, Nat.le_trans (Nat.le_of_ble_eq_true rfl) hL⟩ (rest := []) (xpS hK) rfl hl rfl (Nat.le_of_ble_eq_true rfl) dX6_copy_6 ⟨Nat.zero_le _, Nat.zero_le _⟩)) (fun r1 hw => ?_)
  refine lv_if_eq (tgt := 24) hx hb dX6_copy_9 (by decide) (fun hc => ?_) (fun hc => ?_)
  · have hw := And.left hw hc
    refine lv_iconst (v := (-1 : Int32)) hx hb dX6_copy_24 (by decide) ?_
    exact hret _ _ _ _ _ _ hw hP hD hS dX6_copy_25
  · have hw := And.right hw hc
    refine lv_iload_n hx hb dX6_copy_12 rfl (lv_at hl 3 rfl) ?_
    refine lv_i2l (v := (x3.toInt64)) hx hb dX6_copy_13 rfl ?_
    refine lv_lconst (v := (0 : Int64)) hx hb dX6_copy_14 (by decide) ?_
    refine lv_ldc2 (v := (3 : Int64)) hx hb hC.2.2.2.1 (hC.2.2.2.2 _ bw_699) dX6_copy_15 ?_
    refine vp_callSi (xro (xr_S hC (cX6_in_c hw) ⟨rfl, rfl⟩ bw_700 calX6_in ⟨Nat.le_trans (Nat.le_of_ble_eq_true rfl) hF, Nat.le_trans (Nat.le_of_ble_eq_true rfl) hL⟩ (rest := []) (xpS hK) rfl hl rfl (Nat.le_of_ble_eq_true rfl) dX6_copy_18 ⟨Nat.zero_le _, Nat.zero_le _⟩)) (fun r2 hw => ?_)
    refine lv_if_ne (tgt := 26) hx hb dX6_copy_21 (by decide) (fun hc => ?_) (fun hc => ?_)
    · have hw := And.left hw hc
      refine lv_aload_n hx hb dX6_copy_26 rfl (lv_at hl 0 rfl) ?_
      refine rg_M_X6_0_32 hC hK hP dX6_copy_27 ?_
      refine lv_iload_n hx hb dX6_copy_30 rfl (lv_at hl 1 rfl) ?_
      refine rl_M_13 hC hK hP (And.left hw) dX6_copy_31 ?_
      have hw := And.right hw
      refine lv_if_lt (tgt := 44) hx hb dX6_copy_32 (by decide) (fun hc => ?_) (fun hc => ?_)
      · have hw := And.left hw hc
        refine lv_bipush (v := (-11 : Int32)) hx hb dX6_copy_44 (by decide) ?_
        exact hret _ _ _ _ _ _ hw hP hD hS dX6_copy_46
      · have hw := And.right hw hc
        refine lv_aload_n hx hb dX6_copy_35 rfl (lv_at hl 0 rfl) ?_
        refine rg_M_X6_0_32 hC hK hP dX6_copy_36 ?_
        refine lv_iload_n hx hb dX6_copy_39 rfl (lv_at hl 3 rfl) ?_
        refine rl_M_13 hC hK hP (And.left hw) dX6_copy_40 ?_
        have hw := And.right hw
        refine lv_if_ge (tgt := 47) hx hb dX6_copy_41 (by decide) (fun hc => ?_) (fun hc => ?_)
        · have hw := And.left hw hc
          refine lv_aload_n hx hb dX6_copy_47 rfl (lv_at hl 0 rfl) ?_
          refine rg_M_X6_0_32 hC hK hP dX6_copy_48 ?_
          refine lv_iload_n hx hb dX6_copy_51 rfl (lv_at hl 1 rfl) ?_
          refine rl_M_13 hC hK hP (And.left hw) dX6_copy_52 ?_
          have hw := And.right hw
          refine lv_aload_n hx hb dX6_copy_53 rfl (lv_at hl 0 rfl) ?_
          refine rg_M_X6_0_32 hC hK hP dX6_copy_54 ?_
          refine lv_iload_n hx hb dX6_copy_57 rfl (lv_at hl 3 rfl) ?_
          refine rl_M_13 hC hK hP (And.left hw) dX6_copy_58 ?_
          have hw := And.right hw
          refine lv_icmp_eq (tgt := 65) hx hb dX6_copy_59 (by decide) (fun hc => ?_) (fun hc => ?_)
          · have hw := And.left hw hc
            refine lv_iload hx hb dX6_copy_65 (lv_at hl 5 rfl) ?_
            refine lv_if_lt (tgt := 111) hx hb dX6_copy_67 (by decide) (fun hc => ?_) (fun hc => ?_)
            · have hw := And.left hw hc
              refine lv_bipush (v := (-13 : Int32)) hx hb dX6_copy_111 (by decide) ?_
              exact hret _ _ _ _ _ _ hw hP hD hS dX6_copy_113
            · have hw := And.right hw hc
              refine lv_iload_n hx hb dX6_copy_70 rfl (lv_at hl 2 rfl) ?_
              refine lv_i2l (v := (x2.toInt64)) hx hb dX6_copy_71 rfl ?_
              refine lv_lconst (v := (0 : Int64)) hx hb dX6_copy_72 (by decide) ?_
              refine lv_aload_n hx hb dX6_copy_73 rfl (lv_at hl 0 rfl) ?_
              refine rg_M_X6_0_33 hC hK hP dX6_copy_74 ?_
              refine lv_iload_n hx hb dX6_copy_77 rfl (lv_at hl 1 rfl) ?_
              refine rl_M_14 hC hK hP (And.left hw) dX6_copy_78 ?_
              have hw := And.right hw
              refine lv_i2l (v := (((w_a z0 33) x1.toNatClampNeg).toInt64)) hx hb dX6_copy_79 rfl ?_
              refine lv_iload hx hb dX6_copy_80 (lv_at hl 5 rfl) ?_
              refine lv_i2l (v := (x5.toInt64)) hx hb dX6_copy_82 rfl ?_
              refine lv_lsub hx hb dX6_copy_83 ?_
              refine vp_callSi (xro (xr_S hC (cX6_in_c hw) ⟨rfl, rfl⟩ bw_700 calX6_in ⟨Nat.le_trans (Nat.le_of_ble_eq_true rfl) hF, Nat.le_trans (Nat.le_of_ble_eq_true rfl) hL⟩ (rest := []) (xpS hK) rfl hl rfl (Nat.le_of_ble_eq_true rfl) dX6_copy_84 ⟨Nat.zero_le _, Nat.zero_le _⟩)) (fun r3 hw => ?_)
              refine lv_if_eq (tgt := 111) hx hb dX6_copy_87 (by decide) (fun hc => ?_) (fun hc => ?_)
              · have hw := And.left hw hc
                refine lv_bipush (v := (-13 : Int32)) hx hb dX6_copy_111 (by decide) ?_
                exact hret _ _ _ _ _ _ hw hP hD hS dX6_copy_113
              · have hw := And.right hw hc
                refine lv_iload hx hb dX6_copy_90 (lv_at hl 4 rfl) ?_
                refine lv_i2l (v := (x4.toInt64)) hx hb dX6_copy_92 rfl ?_
                refine lv_lconst (v := (0 : Int64)) hx hb dX6_copy_93 (by decide) ?_
                refine lv_aload_n hx hb dX6_copy_94 rfl (lv_at hl 0 rfl) ?_
                refine rg_M_X6_0_33 hC hK hP dX6_copy_95 ?_
                refine lv_iload_n hx hb dX6_copy_98 rfl (lv_at hl 3 rfl) ?_
                refine rl_M_14 hC hK hP (And.left hw) dX6_copy_99 ?_
                have hw := And.right hw
                refine lv_i2l (v := (((w_a z0 33) x3.toNatClampNeg).toInt64)) hx hb dX6_copy_100 rfl ?_
                refine lv_iload hx hb dX6_copy_101 (lv_at hl 5 rfl) ?_
                refine lv_i2l (v := (x5.toInt64)) hx hb dX6_copy_103 rfl ?_
                refine lv_lsub hx hb dX6_copy_104 ?_
                refine vp_callSi (xro (xr_S hC (cX6_in_c hw) ⟨rfl, rfl⟩ bw_700 calX6_in ⟨Nat.le_trans (Nat.le_of_ble_eq_true rfl) hF, Nat.le_trans (Nat.le_of_ble_eq_true rfl) hL⟩ (rest := []) (xpS hK) rfl hl rfl (Nat.le_of_ble_eq_true rfl) dX6_copy_105 ⟨Nat.zero_le _, Nat.zero_le _⟩)) (fun r4 hw => ?_)
                refine lv_if_ne (tgt := 114) hx hb dX6_copy_108 (by decide) (fun hc => ?_) (fun hc => ?_)
                · have hw := And.left hw hc
                  refine lv_iconst (v := (0 : Int32)) hx hb dX6_copy_114 (by decide) ?_
                  refine lv_istore (lv' := [(6, .int (0 : Int32)), (0, .ref (h 0)), (1, .int x1), (2, .int x2), (3, .int x3), (4, .int x4), (5, .int x5)]) hx hb dX6_copy_115 hl (by decide) rfl (fun ls hl => ?_)
                  obtain ⟨n117, hw⟩ := hw
                  exact B117 n117 x1 x2 x3 x4 x5 (0 : Int32) z0 _ _ _ hw hP hD hS (lv_sub hl [1, 2, 3, 4, 5, 6, 0] rfl)
                · have hw := And.right hw hc
                  refine lv_bipush (v := (-13 : Int32)) hx hb dX6_copy_111 (by decide) ?_
                  exact hret _ _ _ _ _ _ hw hP hD hS dX6_copy_113
          · have hw := And.right hw hc
            refine lv_bipush (v := (-12 : Int32)) hx hb dX6_copy_62 (by decide) ?_
            exact hret _ _ _ _ _ _ hw hP hD hS dX6_copy_64
        · have hw := And.right hw hc
          refine lv_bipush (v := (-11 : Int32)) hx hb dX6_copy_44 (by decide) ?_
          exact hret _ _ _ _ _ _ hw hP hD hS dX6_copy_46
    · have hw := And.right hw hc
      refine lv_iconst (v := (-1 : Int32)) hx hb dX6_copy_24 (by decide) ?_
      exact hret _ _ _ _ _ _ hw hP hD hS dX6_copy_25
