def wpX6_in (x0 : Int64) (x2 : Int64) (x4 : Int64) (post : Int32 → Prop) : Prop := (((lg_cmp x0 x2) < 0 → (post (0 : Int32))) ∧ (¬ (lg_cmp x0 x2) < 0 → ((0 < (lg_cmp x0 x4) → (post (0 : Int32))) ∧ (¬ 0 < (lg_cmp x0 x4) → (post (1 : Int32))))))
set_option maxHeartbeats 4000000 in
set_option maxRecDepth 100000 in
theorem cX6_in_c {l : Launch} {G : wG} {x0 : Int64} {x2 : Int64} {x4 : Int64} {post : Int32 → Prop}  (hw : wpX6_in x0 x2 x4 post) : Met l yX6_in (.code yX6_in cX6_in 6 (some .boolean) :: BIG) { frames := 0, cells := 0, slots := 0, locals := 0 } (xPr G [.long x0, .long x2, .long x4] ([] : va_W)) (vp_Si post) 0 0 (fun _ => False) := by
  refine xm_rz (by decide) (Nat.le_of_ble_eq_true rfl) (fun p e s m args below meth c ls R Q hC hK hP hl hF hL hret => ?_)
  have hx := hC.1
  have hb := hC.2.1
  have hl : lv_has ls 6 [(0, .long x0), (2, .long x2), (4, .long x4)] := hl
  unfold wpX6_in at hw
  refine lv_lload_n hx hb dX6_in_0 rfl (lv_at hl 0 rfl) ?_
  refine lv_lload_n hx hb dX6_in_1 rfl (lv_at hl 1 rfl) ?_
  refine W.lcmp hx hb dX6_in_2 ?_
  refine lv_if_lt (tgt := 17) hx hb dX6_in_3 (by decide) (fun hc => ?_) (fun hc => ?_)
  · have hw := And.left hw hc
    refine lv_iconst (v := (0 : Int32)) hx hb dX6_in_17 (by decide) ?_
    exact hret _ _ _ rfl hw dX6_in_18
  · have hw := And.right hw hc
    refine lv_lload_n hx hb dX6_in_6 rfl (lv_at hl 0 rfl) ?_
    refine lv_lload hx hb dX6_in_7 (lv_at hl 2 rfl) ?_
    refine W.lcmp hx hb dX6_in_9 ?_
    refine lv_if_gt (tgt := 17) hx hb dX6_in_10 (by decide) (fun hc => ?_) (fun hc => ?_)
    · have hw := And.left hw hc
      refine lv_iconst (v := (0 : Int32)) hx hb dX6_in_17 (by decide) ?_
      exact hret _ _ _ rfl hw dX6_in_18
    · have hw := And.right hw hc
      refine lv_iconst (v := (1 : Int32)) hx hb dX6_in_13 (by decide) ?_
      refine lv_goto (tgt := 18) hx hb dX6_in_14 (by decide) ?_
      exact hret _ _ _ rfl hw dX6_in_18
def wpX6_has (x0 : Int32) (x1 : Int32) (post : Int32 → Prop) : Prop := ((¬ ((x0 >>> (x1 &&& 31)) &&& (1 : Int32)) = (1 : Int32) → (post (0 : Int32))) ∧ (((x0 >>> (x1 &&& 31)) &&& (1 : Int32)) = (1 : Int32) → (post (1 : Int32))))
set_option maxHeartbeats 4000000 in
set_option maxRecDepth 100000 in
theorem cX6_has_c {l : Launch} {G : wG} {x0 : Int32} {x1 : Int32} {post : Int32 → Prop}  (hw : wpX6_has x0 x1 post) : Met l yX6_has (.code yX6_has cX6_has 2 (some .boolean) :: BIG) { frames := 0, cells := 0, slots := 0, locals := 0 } (xPr G [.int x0, .int x1] ([] : va_W)) (vp_Si post) 0 0 (fun _ => False) := by
  refine xm_rz (by decide) (Nat.le_of_ble_eq_true rfl) (fun p e s m args below meth c ls R Q hC hK hP hl hF hL hret => ?_)
  have hx := hC.1
  have hb := hC.2.1
  have hl : lv_has ls 2 [(0, .int x0), (1, .int x1)] := hl
  unfold wpX6_has at hw
  refine lv_iload_n hx hb dX6_has_0 rfl (lv_at hl 0 rfl) ?_
  refine lv_iload_n hx hb dX6_has_1 rfl (lv_at hl 1 rfl) ?_
  refine lv_ishr hx hb dX6_has_2 ?_
  refine lv_iconst (v := (1 : Int32)) hx hb dX6_has_3 (by decide) ?_
  refine lv_iand hx hb dX6_has_4 ?_
  refine lv_iconst (v := (1 : Int32)) hx hb dX6_has_5 (by decide) ?_
  refine lv_icmp_ne (tgt := 13) hx hb dX6_has_6 (by decide) (fun hc => ?_) (fun hc => ?_)
  · have hw := And.left hw hc
    refine lv_iconst (v := (0 : Int32)) hx hb dX6_has_13 (by decide) ?_
    exact hret _ _ _ rfl hw dX6_has_14
  · have hw := And.right hw hc
    refine lv_iconst (v := (1 : Int32)) hx hb dX6_has_9 (by decide) ?_
    refine lv_goto (tgt := 14) hx hb dX6_has_10 (by decide) ?_
    exact hret _ _ _ rfl hw dX6_has_14
def wpX6_isOne (x1 : Int32) (z0 : wSt) (post : Int32 → Prop) : Prop := (wpX6_in (x1.toInt64) (0 : Int64) (((w_i z0 5) - (1 : Int32)).toInt64) (fun r1 => (narrow .boolean (.int r1) = .int r1 ∧ post r1)))
set_option maxHeartbeats 4000000 in
set_option maxRecDepth 100000 in
theorem cX6_isOne_c {l : Launch} {G : wG} {h : Nat → Nat} {x1 : Int32} {post : Int32 → Prop} {z0 : wSt}  (hw : wpX6_isOne x1 z0 post) : Met l yX6_isOne (.code yX6_isOne cX6_isOne 2 (some .boolean) :: BIG) { frames := 1, cells := 0, slots := 0, locals := 25 } (xPr G [.ref (h 0), .int x1] (wsM G h z0)) (vp_Si post) 0 0 (fun _ => False) := by
  refine xm_rz (by decide) (Nat.le_of_ble_eq_true rfl) (fun p e s m args below meth c ls R Q hC hK hP hl hF hL hret => ?_)
  have hx := hC.1
  have hb := hC.2.1
  have hl : lv_has ls 2 [(0, .ref (h 0)), (1, .int x1)] := hl
  unfold wpX6_isOne at hw
  refine lv_iload_n hx hb dX6_isOne_0 rfl (lv_at hl 1 rfl) ?_
  refine lv_i2l (v := (x1.toInt64)) hx hb dX6_isOne_1 rfl ?_
  refine lv_lconst (v := (0 : Int64)) hx hb dX6_isOne_2 (by decide) ?_
  refine lv_aload_n hx hb dX6_isOne_3 rfl (lv_at hl 0 rfl) ?_
  refine rg_M_X6_0_5 hC hK hP dX6_isOne_4 ?_
  refine lv_iconst (v := (1 : Int32)) hx hb dX6_isOne_7 (by decide) ?_
  refine lv_isub hx hb dX6_isOne_8 ?_
  refine lv_i2l (v := (((w_i z0 5) - (1 : Int32)).toInt64)) hx hb dX6_isOne_9 rfl ?_
  refine vp_callSi (xro (xr_S hC (cX6_in_c hw) ⟨rfl, rfl⟩ bw_700 calX6_in ⟨Nat.le_trans (Nat.le_of_ble_eq_true rfl) hF, Nat.le_trans (Nat.le_of_ble_eq_true rfl) hL⟩ (rest := []) (xpS hK) rfl hl rfl (Nat.le_of_ble_eq_true rfl) dX6_isOne_10 ⟨Nat.zero_le _, Nat.zero_le _⟩)) (fun r1 hw => ?_)
  exact hret _ _ _ (And.left hw) (And.right hw) dX6_isOne_13
def wpX6_isMood (x0 : Int32) (post : Int32 → Prop) : Prop := (wpX6_in (x0.toInt64) (-9 : Int64) (9 : Int64) (fun r1 => (narrow .boolean (.int r1) = .int r1 ∧ post r1)))
set_option maxHeartbeats 4000000 in
set_option maxRecDepth 100000 in
theorem cX6_isMood_c {l : Launch} {G : wG} {x0 : Int32} {post : Int32 → Prop}  (hw : wpX6_isMood x0 post) : Met l yX6_isMood (.code yX6_isMood cX6_isMood 1 (some .boolean) :: BIG) { frames := 1, cells := 0, slots := 0, locals := 25 } (xPr G [.int x0] ([] : va_W)) (vp_Si post) 0 0 (fun _ => False) := by
  refine xm_rz (by decide) (Nat.le_of_ble_eq_true rfl) (fun p e s m args below meth c ls R Q hC hK hP hl hF hL hret => ?_)
  have hx := hC.1
  have hb := hC.2.1
  have hl : lv_has ls 1 [(0, .int x0)] := hl
  unfold wpX6_isMood at hw
  refine lv_iload_n hx hb dX6_isMood_0 rfl (lv_at hl 0 rfl) ?_
  refine lv_i2l (v := (x0.toInt64)) hx hb dX6_isMood_1 rfl ?_
  refine lv_ldc2 (v := (-9 : Int64)) hx hb hC.2.2.2.1 (hC.2.2.2.2 _ bw_735) dX6_isMood_2 ?_
  refine lv_ldc2 (v := (9 : Int64)) hx hb hC.2.2.2.1 (hC.2.2.2.2 _ bw_704) dX6_isMood_5 ?_
  refine vp_callSi (xro (xr_S hC (cX6_in_c hw) ⟨rfl, rfl⟩ bw_700 calX6_in ⟨Nat.le_trans (Nat.le_of_ble_eq_true rfl) hF, Nat.le_trans (Nat.le_of_ble_eq_true rfl) hL⟩ (rest := []) (xpS hK) rfl hl rfl (Nat.le_of_ble_eq_true rfl) dX6_isMood_8 ⟨Nat.zero_le _, Nat.zero_le _⟩)) (fun r1 hw => ?_)
  exact hret _ _ _ (And.left hw) (And.right hw) dX6_isMood_11
def wpX6_add (x1 : Int32) (x2 : Int32) (x3 : Int32) (z0 : wSt) (post : (wSt) → Prop) : Prop := (vp_in (w_i z0 5) 6 ∧ ∀ z1 : wSt, z1 = (w_sa z0 0 (upd (w_a z0 0) (w_i z0 5).toNatClampNeg x1)) → (vp_in (w_i z1 5) 6 ∧ ∀ z2 : wSt, z2 = (w_sa z1 1 (upd (w_a z1 1) (w_i z1 5).toNatClampNeg x2)) → (vp_in (w_i z2 5) 6 ∧ ∀ z3 : wSt, z3 = (w_sa z2 2 (upd (w_a z2 2) (w_i z2 5).toNatClampNeg x3)) → (vp_in (w_i z3 5) 6 ∧ ∀ z4 : wSt, z4 = (w_sa z3 3 (upd (w_a z3 3) (w_i z3 5).toNatClampNeg (0 : Int32))) → (vp_in (w_i z4 5) 6 ∧ ∀ z5 : wSt, z5 = (w_sa z4 4 (upd (w_a z4 4) (w_i z4 5).toNatClampNeg (0 : Int32))) → (∀ z6 : wSt, z6 = (w_si z5 5 ((w_i z5 5) + (1 : Int32))) → (post z6)))))))
set_option maxHeartbeats 4000000 in
set_option maxRecDepth 100000 in
theorem cX6_add_c {l : Launch} {G : wG} {h : Nat → Nat} {sz : Nat} {x1 : Int32} {x2 : Int32} {x3 : Int32} {post : (wSt) → Prop} {z0 : wSt}  (hw : wpX6_add x1 x2 x3 z0 post) : Met l yX6_add (.code yX6_add cX6_add 4 none :: BIG) { frames := 0, cells := 0, slots := 0, locals := 0 } (xPw G [.ref (h 0), .int x1, .int x2, .int x3] (wsM G h z0) sz) (xQv G post (fun q => (wsM G h q)) (va_A (wsM G h z0) sz)) 0 0 (va_A (wsM G h z0) sz) := by
  refine xm_wv (by decide) (Nat.le_of_ble_eq_true rfl) (fun p e s m args below meth c A ls R Q hC hK hA hP hD hS hl hF hL hret => ?_)
  have hx := hC.1
  have hb := hC.2.1
  have hl : lv_has ls 4 [(0, .ref (h 0)), (1, .int x1), (2, .int x2), (3, .int x3)] := hl
  unfold wpX6_add at hw
  refine lv_aload_n hx hb dX6_add_0 rfl (lv_at hl 0 rfl) ?_
  refine rg_M_X6_0_0 hC hK hP dX6_add_1 ?_
  refine lv_aload_n hx hb dX6_add_4 rfl (lv_at hl 0 rfl) ?_
  refine rg_M_X6_0_5 hC hK hP dX6_add_5 ?_
  refine lv_iload_n hx hb dX6_add_8 rfl (lv_at hl 1 rfl) ?_
  refine rs_M_1 hC hK hP hD hS (And.left hw) dX6_add_9 (fun z1 H locs hz1 hP hD hS => ?_)
  have hw := And.right hw z1 hz1
  refine lv_aload_n hx hb dX6_add_10 rfl (lv_at hl 0 rfl) ?_
  refine rg_M_X6_0_1 hC hK hP dX6_add_11 ?_
  refine lv_aload_n hx hb dX6_add_14 rfl (lv_at hl 0 rfl) ?_
  refine rg_M_X6_0_5 hC hK hP dX6_add_15 ?_
  refine lv_iload_n hx hb dX6_add_18 rfl (lv_at hl 2 rfl) ?_
  refine rs_M_2 hC hK hP hD hS (And.left hw) dX6_add_19 (fun z2 H locs hz1 hP hD hS => ?_)
  have hw := And.right hw z2 hz1
  refine lv_aload_n hx hb dX6_add_20 rfl (lv_at hl 0 rfl) ?_
  refine rg_M_X6_0_2 hC hK hP dX6_add_21 ?_
  refine lv_aload_n hx hb dX6_add_24 rfl (lv_at hl 0 rfl) ?_
  refine rg_M_X6_0_5 hC hK hP dX6_add_25 ?_
  refine lv_iload_n hx hb dX6_add_28 rfl (lv_at hl 3 rfl) ?_
  refine rs_M_3 hC hK hP hD hS (And.left hw) dX6_add_29 (fun z3 H locs hz1 hP hD hS => ?_)
  have hw := And.right hw z3 hz1
  refine lv_aload_n hx hb dX6_add_30 rfl (lv_at hl 0 rfl) ?_
  refine rg_M_X6_0_3 hC hK hP dX6_add_31 ?_
  refine lv_aload_n hx hb dX6_add_34 rfl (lv_at hl 0 rfl) ?_
  refine rg_M_X6_0_5 hC hK hP dX6_add_35 ?_
  refine lv_iconst (v := (0 : Int32)) hx hb dX6_add_38 (by decide) ?_
  refine rs_M_4 hC hK hP hD hS (And.left hw) dX6_add_39 (fun z4 H locs hz1 hP hD hS => ?_)
  have hw := And.right hw z4 hz1
  refine lv_aload_n hx hb dX6_add_40 rfl (lv_at hl 0 rfl) ?_
  refine rg_M_X6_0_4 hC hK hP dX6_add_41 ?_
  refine lv_aload_n hx hb dX6_add_44 rfl (lv_at hl 0 rfl) ?_
  refine rg_M_X6_0_5 hC hK hP dX6_add_45 ?_
  refine lv_iconst (v := (0 : Int32)) hx hb dX6_add_48 (by decide) ?_
  refine rs_M_5 hC hK hP hD hS (And.left hw) dX6_add_49 (fun z5 H locs hz1 hP hD hS => ?_)
  have hw := And.right hw z5 hz1
  refine lv_aload_n hx hb dX6_add_50 rfl (lv_at hl 0 rfl) ?_
  refine lv_dup hx hb dX6_add_51 rfl ?_
  refine rg_M_X6_0_5 hC hK hP dX6_add_52 ?_
  refine lv_iconst (v := (1 : Int32)) hx hb dX6_add_55 (by decide) ?_
  refine lv_iadd hx hb dX6_add_56 ?_
  refine rp_M_X6_0_5 hC hK hP hD hS dX6_add_57 (fun z6 H locs hz1 hP hD hS => ?_)
  have hw := hw z6 hz1
  exact hret _ _ _ _ _ hw hP hD hS dX6_add_60
def wpX6_folk (x1 : Int32) (x2 : Int32) (x3 : Int32) (z0 : wSt) (post : Int32 → (wSt) → Prop) : Prop := (wpX6_in (x1.toInt64) (0 : Int64) (3 : Int64) (fun r1 => ((r1 = 0 → (post (-1 : Int32) z0)) ∧ (¬ r1 = 0 → (wpX6_in (x2.toInt64) (-3 : Int64) (3 : Int64) (fun r2 => ((r2 = 0 → (post (-1 : Int32) z0)) ∧ (¬ r2 = 0 → (wpX6_in (x3.toInt64) (1 : Int64) (9 : Int64) (fun r3 => ((¬ r3 = 0 → ((¬ (w_i z0 5) = (6 : Int32) → (wpX6_add x1 x2 x3 z0 (fun u => ∀ z1 : wSt, z1 = u → (post ((w_i z1 5) - (1 : Int32)) z1)))) ∧ ((w_i z0 5) = (6 : Int32) → (post (-3 : Int32) z0)))) ∧ (r3 = 0 → (post (-1 : Int32) z0)))))))))))))
set_option maxHeartbeats 4000000 in
set_option maxRecDepth 100000 in
theorem cX6_folk_c {l : Launch} {G : wG} {h : Nat → Nat} {sz : Nat} {x1 : Int32} {x2 : Int32} {x3 : Int32} {post : Int32 → (wSt) → Prop} {z0 : wSt}  (hw : wpX6_folk x1 x2 x3 z0 post) : Met l yX6_folk (.code yX6_folk cX6_folk 4 (some .int) :: BIG) { frames := 1, cells := 0, slots := 0, locals := 25 } (xPw G [.ref (h 0), .int x1, .int x2, .int x3] (wsM G h z0) sz) (xQi G post (fun q => (wsM G h q)) (va_A (wsM G h z0) sz)) 0 0 (va_A (wsM G h z0) sz) := by
  refine xm_wi (by decide) (Nat.le_of_ble_eq_true rfl) (fun p e s m args below meth c A ls R Q hC hK hA hP hD hS hl hF hL hret => ?_)
  have hx := hC.1
  have hb := hC.2.1
  have hl : lv_has ls 4 [(0, .ref (h 0)), (1, .int x1), (2, .int x2), (3, .int x3)] := hl
  unfold wpX6_folk at hw
  refine lv_iload_n hx hb dX6_folk_0 rfl (lv_at hl 1 rfl) ?_
  refine lv_i2l (v := (x1.toInt64)) hx hb dX6_folk_1 rfl ?_
  refine lv_lconst (v := (0 : Int64)) hx hb dX6_folk_2 (by decide) ?_
  refine lv_ldc2 (v := (3 : Int64)) hx hb hC.2.2.2.1 (hC.2.2.2.2 _ bw_699) dX6_folk_3 ?_
  refine vp_callSi (xro (xr_S hC (cX6_in_c hw) ⟨rfl, rfl⟩ bw_700 calX6_in ⟨Nat.le_trans (Nat.le_of_ble_eq_true rfl) hF, Nat.le_trans (Nat.le_of_ble_eq_true rfl) hL⟩ (rest := []) (xpS hK) rfl hl rfl (Nat.le_of_ble_eq_true rfl) dX6_folk_6 ⟨Nat.zero_le _, Nat.zero_le _⟩)) (fun r1 hw => ?_)
  refine lv_if_eq (tgt := 38) hx hb dX6_folk_9 (by decide) (fun hc => ?_) (fun hc => ?_)
  · have hw := And.left hw hc
    refine lv_iconst (v := (-1 : Int32)) hx hb dX6_folk_38 (by decide) ?_
    exact hret _ _ _ _ _ _ hw hP hD hS dX6_folk_39
  · have hw := And.right hw hc
    refine lv_iload_n hx hb dX6_folk_12 rfl (lv_at hl 2 rfl) ?_
    refine lv_i2l (v := (x2.toInt64)) hx hb dX6_folk_13 rfl ?_
    refine lv_ldc2 (v := (-3 : Int64)) hx hb hC.2.2.2.1 (hC.2.2.2.2 _ bw_703) dX6_folk_14 ?_
    refine lv_ldc2 (v := (3 : Int64)) hx hb hC.2.2.2.1 (hC.2.2.2.2 _ bw_699) dX6_folk_17 ?_
    refine vp_callSi (xro (xr_S hC (cX6_in_c hw) ⟨rfl, rfl⟩ bw_700 calX6_in ⟨Nat.le_trans (Nat.le_of_ble_eq_true rfl) hF, Nat.le_trans (Nat.le_of_ble_eq_true rfl) hL⟩ (rest := []) (xpS hK) rfl hl rfl (Nat.le_of_ble_eq_true rfl) dX6_folk_20 ⟨Nat.zero_le _, Nat.zero_le _⟩)) (fun r2 hw => ?_)
    refine lv_if_eq (tgt := 38) hx hb dX6_folk_23 (by decide) (fun hc => ?_) (fun hc => ?_)
    · have hw := And.left hw hc
      refine lv_iconst (v := (-1 : Int32)) hx hb dX6_folk_38 (by decide) ?_
      exact hret _ _ _ _ _ _ hw hP hD hS dX6_folk_39
    · have hw := And.right hw hc
      refine lv_iload_n hx hb dX6_folk_26 rfl (lv_at hl 3 rfl) ?_
      refine lv_i2l (v := (x3.toInt64)) hx hb dX6_folk_27 rfl ?_
      refine lv_lconst (v := (1 : Int64)) hx hb dX6_folk_28 (by decide) ?_
      refine lv_ldc2 (v := (9 : Int64)) hx hb hC.2.2.2.1 (hC.2.2.2.2 _ bw_704) dX6_folk_29 ?_
      refine vp_callSi (xro (xr_S hC (cX6_in_c hw) ⟨rfl, rfl⟩ bw_700 calX6_in ⟨Nat.le_trans (Nat.le_of_ble_eq_true rfl) hF, Nat.le_trans (Nat.le_of_ble_eq_true rfl) hL⟩ (rest := []) (xpS hK) rfl hl rfl (Nat.le_of_ble_eq_true rfl) dX6_folk_32 ⟨Nat.zero_le _, Nat.zero_le _⟩)) (fun r3 hw => ?_)
      refine lv_if_ne (tgt := 40) hx hb dX6_folk_35 (by decide) (fun hc => ?_) (fun hc => ?_)
      · have hw := And.left hw hc
        refine lv_aload_n hx hb dX6_folk_40 rfl (lv_at hl 0 rfl) ?_
        refine rg_M_X6_0_5 hC hK hP dX6_folk_41 ?_
        refine lv_bipush (v := (6 : Int32)) hx hb dX6_folk_44 (by decide) ?_
        refine lv_icmp_ne (tgt := 52) hx hb dX6_folk_46 (by decide) (fun hc => ?_) (fun hc => ?_)
        · have hw := And.left hw hc
          refine lv_aload_n hx hb dX6_folk_52 rfl (lv_at hl 0 rfl) ?_
          refine lv_iload_n hx hb dX6_folk_53 rfl (lv_at hl 1 rfl) ?_
          refine lv_iload_n hx hb dX6_folk_54 rfl (lv_at hl 2 rfl) ?_
          refine lv_iload_n hx hb dX6_folk_55 rfl (lv_at hl 3 rfl) ?_
          refine xc_wv (S := wSt) (wsz := fun q => (wsM G h q)) (f := fun u => u) (xr_V hC (cX6_add_c (h := h) hw) ⟨rfl, rfl⟩ bw_705 calX6_add ⟨Nat.le_trans (Nat.le_of_ble_eq_true rfl) hF, Nat.le_trans (Nat.le_of_ble_eq_true rfl) hL⟩ (rest := []) (xpV hK (cut_all_M) hP hD rfl rfl) rfl hl rfl (Nat.le_of_ble_eq_true rfl) dX6_folk_56 ⟨Nat.zero_le _, Nat.zero_le _⟩) (cut_all_M) hP hD hS hA (fun u z1 H locs hz1 hw hP hD hS => ?_)
          have hw := hw z1 hz1
          refine lv_aload_n hx hb dX6_folk_59 rfl (lv_at hl 0 rfl) ?_
          refine rg_M_X6_0_5 hC hK hP dX6_folk_60 ?_
          refine lv_iconst (v := (1 : Int32)) hx hb dX6_folk_63 (by decide) ?_
          refine lv_isub hx hb dX6_folk_64 ?_
          exact hret _ _ _ _ _ _ hw hP hD hS dX6_folk_65
        · have hw := And.right hw hc
          refine lv_bipush (v := (-3 : Int32)) hx hb dX6_folk_49 (by decide) ?_
          exact hret _ _ _ _ _ _ hw hP hD hS dX6_folk_51
      · have hw := And.right hw hc
        refine lv_iconst (v := (-1 : Int32)) hx hb dX6_folk_38 (by decide) ?_
        exact hret _ _ _ _ _ _ hw hP hD hS dX6_folk_39
def wpX6_told_51  (z0 : wSt) (post : Int32 → Prop) (x1 : Int32) (x2 : Int32) (t0 : Int32) : Prop := ((¬ x2 = 0 → ((¬ x2 = (1 : Int32) → ((¬ x2 = (2 : Int32) → ((¬ x2 = (3 : Int32) → (vp_in x1 6 ∧ (post ((w_a z0 3) x1.toNatClampNeg)))) ∧ (x2 = (3 : Int32) → (post t0)))) ∧ (x2 = (2 : Int32) → (vp_in x1 6 ∧ (post ((w_a z0 2) x1.toNatClampNeg)))))) ∧ (x2 = (1 : Int32) → (vp_in x1 6 ∧ (post ((w_a z0 1) x1.toNatClampNeg)))))) ∧ (x2 = 0 → (vp_in x1 6 ∧ (post ((w_a z0 0) x1.toNatClampNeg)))))
def wpX6_told (x1 : Int32) (x2 : Int32) (z0 : wSt) (post : Int32 → Prop) : Prop := (wpX6_isOne x1 z0 (fun r1 => ((r1 = 0 → (post (-100001 : Int32))) ∧ (¬ r1 = 0 → (wpX6_in (x2.toInt64) (0 : Int64) (4 : Int64) (fun r2 => ((¬ r2 = 0 → (vp_in x1 6 ∧ ((((w_a z0 4) x1.toNatClampNeg) ≤ (w_i z0 11) → (wpX6_told_51  z0 post x1 x2 (0 : Int32))) ∧ (¬ ((w_a z0 4) x1.toNatClampNeg) ≤ (w_i z0 11) → (vp_in x1 6 ∧ (wpX6_told_51  z0 post x1 x2 (((w_a z0 4) x1.toNatClampNeg) - (w_i z0 11)))))))) ∧ (r2 = 0 → (post (-100001 : Int32))))))))))
set_option maxHeartbeats 4000000 in
set_option maxRecDepth 100000 in
theorem cX6_told_c {l : Launch} {G : wG} {h : Nat → Nat} {x1 : Int32} {x2 : Int32} {post : Int32 → Prop} {z0 : wSt}  (hw : wpX6_told x1 x2 z0 post) : Met l yX6_told (.code yX6_told cX6_told 4 (some .int) :: BIG) { frames := 2, cells := 0, slots := 0, locals := 46 } (xPr G [.ref (h 0), .int x1, .int x2] (wsM G h z0)) (vp_Si post) 0 0 (fun _ => False) := by
  refine xm_ri (by decide) (Nat.le_of_ble_eq_true rfl) (fun p e s m args below meth c ls R Q hC hK hP hl hF hL hret => ?_)
  have hx := hC.1
  have hb := hC.2.1
  have hl : lv_has ls 4 [(0, .ref (h 0)), (1, .int x1), (2, .int x2)] := hl
  have B51 : ∀ (x1 : Int32) (x2 : Int32) (t0 : Int32) (ls : Array Slot), wpX6_told_51  z0 post x1 x2 t0 → lv_has ls 4 [(0, .ref (h 0)), (1, .int x1), (2, .int x2)] → W p l e R s m args below meth c s.heap [] 0 0 Q (F0 m 51 ls [.int t0]) := by
    intro x1 x2 t0 ls hw hl
    unfold wpX6_told_51 at hw
    refine lv_istore_n (lv' := [(3, .int t0), (0, .ref (h 0)), (1, .int x1), (2, .int x2)]) hx hb dX6_told_51 rfl hl (by decide) rfl (fun ls hl => ?_)
    refine lv_iload_n hx hb dX6_told_52 rfl (lv_at hl 3 rfl) ?_
    refine lv_if_ne (tgt := 65) hx hb dX6_told_53 (by decide) (fun hc => ?_) (fun hc => ?_)
    · have hw := And.left hw hc
      refine lv_iload_n hx hb dX6_told_65 rfl (lv_at hl 3 rfl) ?_
      refine lv_iconst (v := (1 : Int32)) hx hb dX6_told_66 (by decide) ?_
      refine lv_icmp_ne (tgt := 79) hx hb dX6_told_67 (by decide) (fun hc => ?_) (fun hc => ?_)
      · have hw := And.left hw hc
        refine lv_iload_n hx hb dX6_told_79 rfl (lv_at hl 3 rfl) ?_
        refine lv_iconst (v := (2 : Int32)) hx hb dX6_told_80 (by decide) ?_
        refine lv_icmp_ne (tgt := 93) hx hb dX6_told_81 (by decide) (fun hc => ?_) (fun hc => ?_)
        · have hw := And.left hw hc
          refine lv_iload_n hx hb dX6_told_93 rfl (lv_at hl 3 rfl) ?_
          refine lv_iconst (v := (3 : Int32)) hx hb dX6_told_94 (by decide) ?_
          refine lv_icmp_ne (tgt := 102) hx hb dX6_told_95 (by decide) (fun hc => ?_) (fun hc => ?_)
          · have hw := And.left hw hc
            refine lv_aload_n hx hb dX6_told_102 rfl (lv_at hl 1 rfl) ?_
            refine rg_M_X6_0_3 hC hK hP dX6_told_103 ?_
            refine lv_iload_n hx hb dX6_told_106 rfl (lv_at hl 2 rfl) ?_
            refine rl_M_4 hC hK hP (And.left hw) dX6_told_107 ?_
            have hw := And.right hw
            exact hret _ _ _ hw dX6_told_108
          · have hw := And.right hw hc
            refine lv_iload_n hx hb dX6_told_98 rfl (lv_at hl 0 rfl) ?_
            refine lv_goto (tgt := 108) hx hb dX6_told_99 (by decide) ?_
            exact hret _ _ _ hw dX6_told_108
        · have hw := And.right hw hc
          refine lv_aload_n hx hb dX6_told_84 rfl (lv_at hl 1 rfl) ?_
          refine rg_M_X6_0_2 hC hK hP dX6_told_85 ?_
          refine lv_iload_n hx hb dX6_told_88 rfl (lv_at hl 2 rfl) ?_
          refine rl_M_3 hC hK hP (And.left hw) dX6_told_89 ?_
          have hw := And.right hw
          refine lv_goto (tgt := 108) hx hb dX6_told_90 (by decide) ?_
          exact hret _ _ _ hw dX6_told_108
      · have hw := And.right hw hc
        refine lv_aload_n hx hb dX6_told_70 rfl (lv_at hl 1 rfl) ?_
        refine rg_M_X6_0_1 hC hK hP dX6_told_71 ?_
        refine lv_iload_n hx hb dX6_told_74 rfl (lv_at hl 2 rfl) ?_
        refine rl_M_2 hC hK hP (And.left hw) dX6_told_75 ?_
        have hw := And.right hw
        refine lv_goto (tgt := 108) hx hb dX6_told_76 (by decide) ?_
        exact hret _ _ _ hw dX6_told_108
    · have hw := And.right hw hc
      refine lv_aload_n hx hb dX6_told_56 rfl (lv_at hl 1 rfl) ?_
      refine rg_M_X6_0_0 hC hK hP dX6_told_57 ?_
      refine lv_iload_n hx hb dX6_told_60 rfl (lv_at hl 2 rfl) ?_
      refine rl_M_1 hC hK hP (And.left hw) dX6_told_61 ?_
      have hw := And.right hw
      refine lv_goto (tgt := 108) hx hb dX6_told_62 (by decide) ?_
      exact hret _ _ _ hw dX6_told_108
  unfold wpX6_told at hw
  refine lv_aload_n hx hb dX6_told_0 rfl (lv_at hl 0 rfl) ?_
  refine lv_iload_n hx hb dX6_told_1 rfl (lv_at hl 1 rfl) ?_
  refine vp_callSi (xro (xr_V hC (cX6_isOne_c (h := h) hw) ⟨rfl, rfl⟩ bw_713 calX6_isOne ⟨Nat.le_trans (Nat.le_of_ble_eq_true rfl) hF, Nat.le_trans (Nat.le_of_ble_eq_true rfl) hL⟩ (rest := []) (xpR hK hP rfl rfl) rfl hl rfl (Nat.le_of_ble_eq_true rfl) dX6_told_2 ⟨Nat.zero_le _, Nat.zero_le _⟩)) (fun r1 hw => ?_)
  refine lv_if_eq (tgt := 20) hx hb dX6_told_5 (by decide) (fun hc => ?_) (fun hc => ?_)
  · have hw := And.left hw hc
    refine lv_ldc (v := (-100001 : Int32)) hx hb hC.2.2.2.1 (hC.2.2.2.2 _ bw_718) dX6_told_20 ?_
    exact hret _ _ _ hw dX6_told_22
  · have hw := And.right hw hc
    refine lv_iload_n hx hb dX6_told_8 rfl (lv_at hl 2 rfl) ?_
    refine lv_i2l (v := (x2.toInt64)) hx hb dX6_told_9 rfl ?_
    refine lv_lconst (v := (0 : Int64)) hx hb dX6_told_10 (by decide) ?_
    refine lv_ldc2 (v := (4 : Int64)) hx hb hC.2.2.2.1 (hC.2.2.2.2 _ bw_717) dX6_told_11 ?_
    refine vp_callSi (xro (xr_S hC (cX6_in_c hw) ⟨rfl, rfl⟩ bw_700 calX6_in ⟨Nat.le_trans (Nat.le_of_ble_eq_true rfl) hF, Nat.le_trans (Nat.le_of_ble_eq_true rfl) hL⟩ (rest := []) (xpS hK) rfl hl rfl (Nat.le_of_ble_eq_true rfl) dX6_told_14 ⟨Nat.zero_le _, Nat.zero_le _⟩)) (fun r2 hw => ?_)
    refine lv_if_ne (tgt := 23) hx hb dX6_told_17 (by decide) (fun hc => ?_) (fun hc => ?_)
    · have hw := And.left hw hc
      refine lv_aload_n hx hb dX6_told_23 rfl (lv_at hl 0 rfl) ?_
      refine rg_M_X6_0_4 hC hK hP dX6_told_24 ?_
      refine lv_iload_n hx hb dX6_told_27 rfl (lv_at hl 1 rfl) ?_
      refine rl_M_5 hC hK hP (And.left hw) dX6_told_28 ?_
      have hw := And.right hw
      refine lv_aload_n hx hb dX6_told_29 rfl (lv_at hl 0 rfl) ?_
      refine rg_M_X6_0_11 hC hK hP dX6_told_30 ?_
      refine lv_icmp_le (tgt := 50) hx hb dX6_told_33 (by decide) (fun hc => ?_) (fun hc => ?_)
      · have hw := And.left hw hc
        refine lv_iconst (v := (0 : Int32)) hx hb dX6_told_50 (by decide) ?_
        exact B51 x1 x2 (0 : Int32) _ hw (lv_sub hl [0, 1, 2] rfl)
      · have hw := And.right hw hc
        refine lv_aload_n hx hb dX6_told_36 rfl (lv_at hl 0 rfl) ?_
        refine rg_M_X6_0_4 hC hK hP dX6_told_37 ?_
        refine lv_iload_n hx hb dX6_told_40 rfl (lv_at hl 1 rfl) ?_
        refine rl_M_5 hC hK hP (And.left hw) dX6_told_41 ?_
        have hw := And.right hw
        refine lv_aload_n hx hb dX6_told_42 rfl (lv_at hl 0 rfl) ?_
        refine rg_M_X6_0_11 hC hK hP dX6_told_43 ?_
        refine lv_isub hx hb dX6_told_46 ?_
        refine lv_goto (tgt := 51) hx hb dX6_told_47 (by decide) ?_
        exact B51 x1 x2 (((w_a z0 4) x1.toNatClampNeg) - (w_i z0 11)) _ hw (lv_sub hl [0, 1, 2] rfl)
    · have hw := And.right hw hc
      refine lv_ldc (v := (-100001 : Int32)) hx hb hC.2.2.2.1 (hC.2.2.2.2 _ bw_718) dX6_told_20 ?_
      exact hret _ _ _ hw dX6_told_22
def wpX6_setQuarrel_69  (post : (wSt) → Prop) (t0 : Int32) (t1 : Int32) (z0 : wSt) : Prop := (vp_in t1 6 ∧ ∀ z1 : wSt, z1 = (w_sa z0 3 (upd (w_a z0 3) t1.toNatClampNeg t0)) → (post z1))
def wpX6_setQuarrel_34  (post : (wSt) → Prop) (x1 : Int32) (x2 : Int32) (x3 : Int32) (t0 : Int32) (t1 : Int32) (z0 : wSt) : Prop := (vp_in t1 6 ∧ ∀ z1 : wSt, z1 = (w_sa z0 3 (upd (w_a z0 3) t1.toNatClampNeg t0)) → ((x3 = 0 → (vp_in x2 6 ∧ (wpX6_setQuarrel_69  post (((w_a z1 3) x2.toNatClampNeg) &&& (((1 : Int32) <<< (x1 &&& 31)) ^^^ (-1 : Int32))) x2 z1))) ∧ (¬ x3 = 0 → (vp_in x2 6 ∧ (wpX6_setQuarrel_69  post (((w_a z1 3) x2.toNatClampNeg) ||| ((1 : Int32) <<< (x1 &&& 31))) x2 z1)))))
def wpX6_setQuarrel (x1 : Int32) (x2 : Int32) (x3 : Int32) (z0 : wSt) (post : (wSt) → Prop) : Prop := ((x3 = 0 → (vp_in x1 6 ∧ (wpX6_setQuarrel_34  post x1 x2 x3 (((w_a z0 3) x1.toNatClampNeg) &&& (((1 : Int32) <<< (x2 &&& 31)) ^^^ (-1 : Int32))) x1 z0))) ∧ (¬ x3 = 0 → (vp_in x1 6 ∧ (wpX6_setQuarrel_34  post x1 x2 x3 (((w_a z0 3) x1.toNatClampNeg) ||| ((1 : Int32) <<< (x2 &&& 31))) x1 z0))))
set_option maxHeartbeats 4000000 in
set_option maxRecDepth 100000 in
theorem cX6_setQuarrel_c {l : Launch} {G : wG} {h : Nat → Nat} {sz : Nat} {x1 : Int32} {x2 : Int32} {x3 : Int32} {post : (wSt) → Prop} {z0 : wSt}  (hw : wpX6_setQuarrel x1 x2 x3 z0 post) : Met l yX6_setQuarrel (.code yX6_setQuarrel cX6_setQuarrel 4 none :: BIG) { frames := 0, cells := 0, slots := 0, locals := 0 } (xPw G [.ref (h 0), .int x1, .int x2, .int x3] (wsM G h z0) sz) (xQv G post (fun q => (wsM G h q)) (va_A (wsM G h z0) sz)) 0 0 (va_A (wsM G h z0) sz) := by
  refine xm_wv (by decide) (Nat.le_of_ble_eq_true rfl) (fun p e s m args below meth c A ls R Q hC hK hA hP hD hS hl hF hL hret => ?_)
  have hx := hC.1
  have hb := hC.2.1
  have hl : lv_has ls 4 [(0, .ref (h 0)), (1, .int x1), (2, .int x2), (3, .int x3)] := hl
  have B69 : ∀ (t0 : Int32) (t1 : Int32) (z0 : wSt) (H : Heap) (locs : List Loc) (ls : Array Slot), wpX6_setQuarrel_69  post t0 t1 z0 → va_P G.1 vwCl (wsM G h z0) H → va_D A (wsM G h z0) → va_S A s.heap H locs → lv_has ls 4 [] → W p l e R s m args below meth c H locs 0 0 Q (F0 m 69 ls [.int t0, .int t1, .ref (h 4)]) := by
    intro t0 t1 z0 H locs ls hw hP hD hS hl
    unfold wpX6_setQuarrel_69 at hw
    refine rs_M_4 hC hK hP hD hS (And.left hw) dX6_setQuarrel_69 (fun z1 H locs hz1 hP hD hS => ?_)
    have hw := And.right hw z1 hz1
    exact hret _ _ _ _ _ hw hP hD hS dX6_setQuarrel_70
  have B34 : ∀ (x1 : Int32) (x2 : Int32) (x3 : Int32) (t0 : Int32) (t1 : Int32) (z0 : wSt) (H : Heap) (locs : List Loc) (ls : Array Slot), wpX6_setQuarrel_34  post x1 x2 x3 t0 t1 z0 → va_P G.1 vwCl (wsM G h z0) H → va_D A (wsM G h z0) → va_S A s.heap H locs → lv_has ls 4 [(0, .ref (h 0)), (1, .int x1), (2, .int x2), (3, .int x3)] → W p l e R s m args below meth c H locs 0 0 Q (F0 m 34 ls [.int t0, .int t1, .ref (h 4)]) := by
    intro x1 x2 x3 t0 t1 z0 H locs ls hw hP hD hS hl
    unfold wpX6_setQuarrel_34 at hw
    refine rs_M_4 hC hK hP hD hS (And.left hw) dX6_setQuarrel_34 (fun z1 H locs hz1 hP hD hS => ?_)
    have hw := And.right hw z1 hz1
    refine lv_aload_n hx hb dX6_setQuarrel_35 rfl (lv_at hl 0 rfl) ?_
    refine rg_M_X6_0_3 hC hK hP dX6_setQuarrel_36 ?_
    refine lv_iload_n hx hb dX6_setQuarrel_39 rfl (lv_at hl 2 rfl) ?_
    refine lv_iload_n hx hb dX6_setQuarrel_40 rfl (lv_at hl 3 rfl) ?_
    refine lv_if_eq (tgt := 57) hx hb dX6_setQuarrel_41 (by decide) (fun hc => ?_) (fun hc => ?_)
    · have hw := And.left hw hc
      refine lv_aload_n hx hb dX6_setQuarrel_57 rfl (lv_at hl 0 rfl) ?_
      refine rg_M_X6_0_3 hC hK hP dX6_setQuarrel_58 ?_
      refine lv_iload_n hx hb dX6_setQuarrel_61 rfl (lv_at hl 2 rfl) ?_
      refine rl_M_4 hC hK hP (And.left hw) dX6_setQuarrel_62 ?_
      have hw := And.right hw
      refine lv_iconst (v := (1 : Int32)) hx hb dX6_setQuarrel_63 (by decide) ?_
      refine lv_iload_n hx hb dX6_setQuarrel_64 rfl (lv_at hl 1 rfl) ?_
      refine lv_ishl hx hb dX6_setQuarrel_65 ?_
      refine lv_iconst (v := (-1 : Int32)) hx hb dX6_setQuarrel_66 (by decide) ?_
      refine lv_ixor hx hb dX6_setQuarrel_67 ?_
      refine lv_iand hx hb dX6_setQuarrel_68 ?_
      exact B69 (((w_a z1 3) x2.toNatClampNeg) &&& (((1 : Int32) <<< (x1 &&& 31)) ^^^ (-1 : Int32))) x2 z1 _ _ _ hw hP hD hS (lv_sub hl [] rfl)
    · have hw := And.right hw hc
      refine lv_aload_n hx hb dX6_setQuarrel_44 rfl (lv_at hl 0 rfl) ?_
      refine rg_M_X6_0_3 hC hK hP dX6_setQuarrel_45 ?_
      refine lv_iload_n hx hb dX6_setQuarrel_48 rfl (lv_at hl 2 rfl) ?_
      refine rl_M_4 hC hK hP (And.left hw) dX6_setQuarrel_49 ?_
      have hw := And.right hw
      refine lv_iconst (v := (1 : Int32)) hx hb dX6_setQuarrel_50 (by decide) ?_
      refine lv_iload_n hx hb dX6_setQuarrel_51 rfl (lv_at hl 1 rfl) ?_
      refine lv_ishl hx hb dX6_setQuarrel_52 ?_
      refine lv_ior hx hb dX6_setQuarrel_53 ?_
      refine lv_goto (tgt := 69) hx hb dX6_setQuarrel_54 (by decide) ?_
      exact B69 (((w_a z1 3) x2.toNatClampNeg) ||| ((1 : Int32) <<< (x1 &&& 31))) x2 z1 _ _ _ hw hP hD hS (lv_sub hl [] rfl)
  unfold wpX6_setQuarrel at hw
  refine lv_aload_n hx hb dX6_setQuarrel_0 rfl (lv_at hl 0 rfl) ?_
  refine rg_M_X6_0_3 hC hK hP dX6_setQuarrel_1 ?_
  refine lv_iload_n hx hb dX6_setQuarrel_4 rfl (lv_at hl 1 rfl) ?_
  refine lv_iload_n hx hb dX6_setQuarrel_5 rfl (lv_at hl 3 rfl) ?_
  refine lv_if_eq (tgt := 22) hx hb dX6_setQuarrel_6 (by decide) (fun hc => ?_) (fun hc => ?_)
  · have hw := And.left hw hc
    refine lv_aload_n hx hb dX6_setQuarrel_22 rfl (lv_at hl 0 rfl) ?_
    refine rg_M_X6_0_3 hC hK hP dX6_setQuarrel_23 ?_
    refine lv_iload_n hx hb dX6_setQuarrel_26 rfl (lv_at hl 1 rfl) ?_
    refine rl_M_4 hC hK hP (And.left hw) dX6_setQuarrel_27 ?_
    have hw := And.right hw
    refine lv_iconst (v := (1 : Int32)) hx hb dX6_setQuarrel_28 (by decide) ?_
    refine lv_iload_n hx hb dX6_setQuarrel_29 rfl (lv_at hl 2 rfl) ?_
    refine lv_ishl hx hb dX6_setQuarrel_30 ?_
    refine lv_iconst (v := (-1 : Int32)) hx hb dX6_setQuarrel_31 (by decide) ?_
    refine lv_ixor hx hb dX6_setQuarrel_32 ?_
    refine lv_iand hx hb dX6_setQuarrel_33 ?_
    exact B34 x1 x2 x3 (((w_a z0 3) x1.toNatClampNeg) &&& (((1 : Int32) <<< (x2 &&& 31)) ^^^ (-1 : Int32))) x1 z0 _ _ _ hw hP hD hS (lv_sub hl [0, 1, 2, 3] rfl)
  · have hw := And.right hw hc
    refine lv_aload_n hx hb dX6_setQuarrel_9 rfl (lv_at hl 0 rfl) ?_
    refine rg_M_X6_0_3 hC hK hP dX6_setQuarrel_10 ?_
    refine lv_iload_n hx hb dX6_setQuarrel_13 rfl (lv_at hl 1 rfl) ?_
    refine rl_M_4 hC hK hP (And.left hw) dX6_setQuarrel_14 ?_
    have hw := And.right hw
    refine lv_iconst (v := (1 : Int32)) hx hb dX6_setQuarrel_15 (by decide) ?_
    refine lv_iload_n hx hb dX6_setQuarrel_16 rfl (lv_at hl 2 rfl) ?_
    refine lv_ishl hx hb dX6_setQuarrel_17 ?_
    refine lv_ior hx hb dX6_setQuarrel_18 ?_
    refine lv_goto (tgt := 34) hx hb dX6_setQuarrel_19 (by decide) ?_
    exact B34 x1 x2 x3 (((w_a z0 3) x1.toNatClampNeg) ||| ((1 : Int32) <<< (x2 &&& 31))) x1 z0 _ _ _ hw hP hD hS (lv_sub hl [0, 1, 2, 3] rfl)
def wpX6_quarrel (x1 : Int32) (x2 : Int32) (x3 : Int32) (z0 : wSt) (post : Int32 → (wSt) → Prop) : Prop := (wpX6_isOne x1 z0 (fun r1 => ((r1 = 0 → (post (-1 : Int32) z0)) ∧ (¬ r1 = 0 → (wpX6_isOne x2 z0 (fun r2 => ((r2 = 0 → (post (-1 : Int32) z0)) ∧ (¬ r2 = 0 → ((¬ x1 = x2 → (vp_in x1 6 ∧ (wpX6_setQuarrel x1 x2 x3 z0 (fun u => ∀ z1 : wSt, z1 = u → (post ((((w_a z0 3) x1.toNatClampNeg) >>> (x2 &&& 31)) &&& (1 : Int32)) z1))))) ∧ (x1 = x2 → (post (-1 : Int32) z0)))))))))))
set_option maxHeartbeats 4000000 in
set_option maxRecDepth 100000 in
theorem cX6_quarrel_c {l : Launch} {G : wG} {h : Nat → Nat} {sz : Nat} {x1 : Int32} {x2 : Int32} {x3 : Int32} {post : Int32 → (wSt) → Prop} {z0 : wSt}  (hw : wpX6_quarrel x1 x2 x3 z0 post) : Met l yX6_quarrel (.code yX6_quarrel cX6_quarrel 5 (some .int) :: BIG) { frames := 2, cells := 0, slots := 0, locals := 46 } (xPw G [.ref (h 0), .int x1, .int x2, .int x3] (wsM G h z0) sz) (xQi G post (fun q => (wsM G h q)) (va_A (wsM G h z0) sz)) 0 0 (va_A (wsM G h z0) sz) := by
  refine xm_wi (by decide) (Nat.le_of_ble_eq_true rfl) (fun p e s m args below meth c A ls R Q hC hK hA hP hD hS hl hF hL hret => ?_)
  have hx := hC.1
  have hb := hC.2.1
  have hl : lv_has ls 5 [(0, .ref (h 0)), (1, .int x1), (2, .int x2), (3, .int x3)] := hl
  unfold wpX6_quarrel at hw
  refine lv_aload_n hx hb dX6_quarrel_0 rfl (lv_at hl 0 rfl) ?_
  refine lv_iload_n hx hb dX6_quarrel_1 rfl (lv_at hl 1 rfl) ?_
  refine vp_callSi (xro (xr_V hC (cX6_isOne_c (h := h) hw) ⟨rfl, rfl⟩ bw_713 calX6_isOne ⟨Nat.le_trans (Nat.le_of_ble_eq_true rfl) hF, Nat.le_trans (Nat.le_of_ble_eq_true rfl) hL⟩ (rest := []) (xpR hK hP rfl rfl) rfl hl rfl (Nat.le_of_ble_eq_true rfl) dX6_quarrel_2 ⟨Nat.zero_le _, Nat.zero_le _⟩)) (fun r1 hw => ?_)
  refine lv_if_eq (tgt := 21) hx hb dX6_quarrel_5 (by decide) (fun hc => ?_) (fun hc => ?_)
  · have hw := And.left hw hc
    refine lv_iconst (v := (-1 : Int32)) hx hb dX6_quarrel_21 (by decide) ?_
    exact hret _ _ _ _ _ _ hw hP hD hS dX6_quarrel_22
  · have hw := And.right hw hc
    refine lv_aload_n hx hb dX6_quarrel_8 rfl (lv_at hl 0 rfl) ?_
    refine lv_iload_n hx hb dX6_quarrel_9 rfl (lv_at hl 2 rfl) ?_
    refine vp_callSi (xro (xr_V hC (cX6_isOne_c (h := h) hw) ⟨rfl, rfl⟩ bw_713 calX6_isOne ⟨Nat.le_trans (Nat.le_of_ble_eq_true rfl) hF, Nat.le_trans (Nat.le_of_ble_eq_true rfl) hL⟩ (rest := []) (xpR hK hP rfl rfl) rfl hl rfl (Nat.le_of_ble_eq_true rfl) dX6_quarrel_10 ⟨Nat.zero_le _, Nat.zero_le _⟩)) (fun r2 hw => ?_)
    refine lv_if_eq (tgt := 21) hx hb dX6_quarrel_13 (by decide) (fun hc => ?_) (fun hc => ?_)
    · have hw := And.left hw hc
      refine lv_iconst (v := (-1 : Int32)) hx hb dX6_quarrel_21 (by decide) ?_
      exact hret _ _ _ _ _ _ hw hP hD hS dX6_quarrel_22
    · have hw := And.right hw hc
      refine lv_iload_n hx hb dX6_quarrel_16 rfl (lv_at hl 1 rfl) ?_
      refine lv_iload_n hx hb dX6_quarrel_17 rfl (lv_at hl 2 rfl) ?_
      refine lv_icmp_ne (tgt := 23) hx hb dX6_quarrel_18 (by decide) (fun hc => ?_) (fun hc => ?_)
      · have hw := And.left hw hc
        refine lv_aload_n hx hb dX6_quarrel_23 rfl (lv_at hl 0 rfl) ?_
        refine rg_M_X6_0_3 hC hK hP dX6_quarrel_24 ?_
        refine lv_iload_n hx hb dX6_quarrel_27 rfl (lv_at hl 1 rfl) ?_
        refine rl_M_4 hC hK hP (And.left hw) dX6_quarrel_28 ?_
        have hw := And.right hw
        refine lv_iload_n hx hb dX6_quarrel_29 rfl (lv_at hl 2 rfl) ?_
        refine lv_ishr hx hb dX6_quarrel_30 ?_
        refine lv_iconst (v := (1 : Int32)) hx hb dX6_quarrel_31 (by decide) ?_
        refine lv_iand hx hb dX6_quarrel_32 ?_
        refine lv_istore (lv' := [(4, .int ((((w_a z0 3) x1.toNatClampNeg) >>> (x2 &&& 31)) &&& (1 : Int32))), (0, .ref (h 0)), (1, .int x1), (2, .int x2), (3, .int x3)]) hx hb dX6_quarrel_33 hl (by decide) rfl (fun ls hl => ?_)
        refine lv_aload_n hx hb dX6_quarrel_35 rfl (lv_at hl 1 rfl) ?_
        refine lv_iload_n hx hb dX6_quarrel_36 rfl (lv_at hl 2 rfl) ?_
        refine lv_iload_n hx hb dX6_quarrel_37 rfl (lv_at hl 3 rfl) ?_
        refine lv_iload_n hx hb dX6_quarrel_38 rfl (lv_at hl 4 rfl) ?_
        refine xc_wv (S := wSt) (wsz := fun q => (wsM G h q)) (f := fun u => u) (xr_V hC (cX6_setQuarrel_c (h := h) hw) ⟨rfl, rfl⟩ bw_723 calX6_setQuarrel ⟨Nat.le_trans (Nat.le_of_ble_eq_true rfl) hF, Nat.le_trans (Nat.le_of_ble_eq_true rfl) hL⟩ (rest := []) (xpV hK (cut_all_M) hP hD rfl rfl) rfl hl rfl (Nat.le_of_ble_eq_true rfl) dX6_quarrel_39 ⟨Nat.zero_le _, Nat.zero_le _⟩) (cut_all_M) hP hD hS hA (fun u z1 H locs hz1 hw hP hD hS => ?_)
        have hw := hw z1 hz1
        refine lv_iload hx hb dX6_quarrel_42 (lv_at hl 0 rfl) ?_
        exact hret _ _ _ _ _ _ hw hP hD hS dX6_quarrel_44
      · have hw := And.right hw hc
        refine lv_iconst (v := (-1 : Int32)) hx hb dX6_quarrel_21 (by decide) ?_
        exact hret _ _ _ _ _ _ hw hP hD hS dX6_quarrel_22
def wpX6_set_127  (post : Int32 → (wSt) → Prop) (x3 : Int32) (t0 : Int32) (z0 : wSt) : Prop := (∀ z1 : wSt, z1 = (w_si z0 8 t0) → (post x3 z1))
def wpX6_set_110  (post : Int32 → (wSt) → Prop) (x1 : Int32) (x2 : Int32) (x3 : Int32) (t0 : Int32) (z0 : wSt) : Prop := (∀ z1 : wSt, z1 = (w_si z0 7 t0) → ((¬ x1 = (2 : Int32) → (wpX6_set_127  post x3 (w_i z1 8) z1)) ∧ (x1 = (2 : Int32) → (wpX6_set_127  post x3 x2 z1))))
def wpX6_set_93  (post : Int32 → (wSt) → Prop) (x1 : Int32) (x2 : Int32) (x3 : Int32) (t0 : Int32) (z0 : wSt) : Prop := (∀ z1 : wSt, z1 = (w_si z0 6 t0) → ((¬ x1 = (1 : Int32) → (wpX6_set_110  post x1 x2 x3 (w_i z1 7) z1)) ∧ (x1 = (1 : Int32) → (wpX6_set_110  post x1 x2 x3 x2 z1))))
def wpX6_set_79  (post : Int32 → (wSt) → Prop) (x1 : Int32) (x2 : Int32) (t0 : Int32) (z0 : wSt) : Prop := ((¬ x1 = 0 → (wpX6_set_93  post x1 x2 t0 (w_i z0 6) z0)) ∧ (x1 = 0 → (wpX6_set_93  post x1 x2 t0 x2 z0)))
def wpX6_set_52  (post : Int32 → (wSt) → Prop) (x1 : Int32) (x2 : Int32) (z0 : wSt) : Prop := ((¬ x1 = 0 → ((¬ x1 = (1 : Int32) → (wpX6_set_79  post x1 x2 (w_i z0 8) z0)) ∧ (x1 = (1 : Int32) → (wpX6_set_79  post x1 x2 (w_i z0 7) z0)))) ∧ (x1 = 0 → (wpX6_set_79  post x1 x2 (w_i z0 6) z0)))
def wpX6_set_43  (post : Int32 → (wSt) → Prop) (x1 : Int32) (x2 : Int32) (t0 : Int64) (t1 : Int64) (t2 : Int64) (z0 : wSt) : Prop := (wpX6_in t2 t1 t0 (fun r1 => ((¬ r1 = 0 → (wpX6_set_52  post x1 x2 z0)) ∧ (r1 = 0 → (post (-100001 : Int32) z0)))))
def wpX6_set (x1 : Int32) (x2 : Int32) (z0 : wSt) (post : Int32 → (wSt) → Prop) : Prop := (wpX6_in (x1.toInt64) (0 : Int64) (2 : Int64) (fun r1 => ((r1 = 0 → (post (-100001 : Int32) z0)) ∧ (¬ r1 = 0 → ((¬ x1 = 0 → ((¬ x1 = (1 : Int32) → (wpX6_set_43  post x1 x2 (9 : Int64) (0 : Int64) (x2.toInt64) z0)) ∧ (x1 = (1 : Int32) → (wpX6_set_43  post x1 x2 (999 : Int64) (0 : Int64) (x2.toInt64) z0)))) ∧ (x1 = 0 → (wpX6_isMood x2 (fun r2 => ((r2 = 0 → (post (-100001 : Int32) z0)) ∧ (¬ r2 = 0 → (wpX6_set_52  post x1 x2 z0)))))))))))
set_option maxHeartbeats 4000000 in
set_option maxRecDepth 100000 in
theorem cX6_set_c {l : Launch} {G : wG} {h : Nat → Nat} {sz : Nat} {x1 : Int32} {x2 : Int32} {post : Int32 → (wSt) → Prop} {z0 : wSt}  (hw : wpX6_set x1 x2 z0 post) : Met l yX6_set (.code yX6_set cX6_set 4 (some .int) :: BIG) { frames := 2, cells := 0, slots := 0, locals := 45 } (xPw G [.ref (h 0), .int x1, .int x2] (wsM G h z0) sz) (xQi G post (fun q => (wsM G h q)) (va_A (wsM G h z0) sz)) 0 0 (va_A (wsM G h z0) sz) := by
  refine xm_wi (by decide) (Nat.le_of_ble_eq_true rfl) (fun p e s m args below meth c A ls R Q hC hK hA hP hD hS hl hF hL hret => ?_)
  have hx := hC.1
  have hb := hC.2.1
  have hl : lv_has ls 4 [(0, .ref (h 0)), (1, .int x1), (2, .int x2)] := hl
  have B127 : ∀ (x3 : Int32) (t0 : Int32) (z0 : wSt) (H : Heap) (locs : List Loc) (ls : Array Slot), wpX6_set_127  post x3 t0 z0 → va_P G.1 vwCl (wsM G h z0) H → va_D A (wsM G h z0) → va_S A s.heap H locs → lv_has ls 4 [(3, .int x3)] → W p l e R s m args below meth c H locs 0 0 Q (F0 m 127 ls [.int t0, .ref (h 0)]) := by
    intro x3 t0 z0 H locs ls hw hP hD hS hl
    unfold wpX6_set_127 at hw
    refine rp_M_X6_0_8 hC hK hP hD hS dX6_set_127 (fun z1 H locs hz1 hP hD hS => ?_)
    have hw := hw z1 hz1
    refine lv_iload_n hx hb dX6_set_130 rfl (lv_at hl 0 rfl) ?_
    exact hret _ _ _ _ _ _ hw hP hD hS dX6_set_131
  have B110 : ∀ (x1 : Int32) (x2 : Int32) (x3 : Int32) (t0 : Int32) (z0 : wSt) (H : Heap) (locs : List Loc) (ls : Array Slot), wpX6_set_110  post x1 x2 x3 t0 z0 → va_P G.1 vwCl (wsM G h z0) H → va_D A (wsM G h z0) → va_S A s.heap H locs → lv_has ls 4 [(0, .ref (h 0)), (1, .int x1), (2, .int x2), (3, .int x3)] → W p l e R s m args below meth c H locs 0 0 Q (F0 m 110 ls [.int t0, .ref (h 0)]) := by
    intro x1 x2 x3 t0 z0 H locs ls hw hP hD hS hl
    unfold wpX6_set_110 at hw
    refine rp_M_X6_0_7 hC hK hP hD hS dX6_set_110 (fun z1 H locs hz1 hP hD hS => ?_)
    have hw := hw z1 hz1
    refine lv_aload_n hx hb dX6_set_113 rfl (lv_at hl 0 rfl) ?_
    refine lv_iload_n hx hb dX6_set_114 rfl (lv_at hl 1 rfl) ?_
    refine lv_iconst (v := (2 : Int32)) hx hb dX6_set_115 (by decide) ?_
    refine lv_icmp_ne (tgt := 123) hx hb dX6_set_116 (by decide) (fun hc => ?_) (fun hc => ?_)
    · have hw := And.left hw hc
      refine lv_aload_n hx hb dX6_set_123 rfl (lv_at hl 0 rfl) ?_
      refine rg_M_X6_0_8 hC hK hP dX6_set_124 ?_
      exact B127 x3 (w_i z1 8) z1 _ _ _ hw hP hD hS (lv_sub hl [3] rfl)
    · have hw := And.right hw hc
      refine lv_iload_n hx hb dX6_set_119 rfl (lv_at hl 2 rfl) ?_
      refine lv_goto (tgt := 127) hx hb dX6_set_120 (by decide) ?_
      exact B127 x3 x2 z1 _ _ _ hw hP hD hS (lv_sub hl [3] rfl)
  have B93 : ∀ (x1 : Int32) (x2 : Int32) (x3 : Int32) (t0 : Int32) (z0 : wSt) (H : Heap) (locs : List Loc) (ls : Array Slot), wpX6_set_93  post x1 x2 x3 t0 z0 → va_P G.1 vwCl (wsM G h z0) H → va_D A (wsM G h z0) → va_S A s.heap H locs → lv_has ls 4 [(0, .ref (h 0)), (1, .int x1), (2, .int x2), (3, .int x3)] → W p l e R s m args below meth c H locs 0 0 Q (F0 m 93 ls [.int t0, .ref (h 0)]) := by
    intro x1 x2 x3 t0 z0 H locs ls hw hP hD hS hl
    unfold wpX6_set_93 at hw
    refine rp_M_X6_0_6 hC hK hP hD hS dX6_set_93 (fun z1 H locs hz1 hP hD hS => ?_)
    have hw := hw z1 hz1
    refine lv_aload_n hx hb dX6_set_96 rfl (lv_at hl 0 rfl) ?_
    refine lv_iload_n hx hb dX6_set_97 rfl (lv_at hl 1 rfl) ?_
    refine lv_iconst (v := (1 : Int32)) hx hb dX6_set_98 (by decide) ?_
    refine lv_icmp_ne (tgt := 106) hx hb dX6_set_99 (by decide) (fun hc => ?_) (fun hc => ?_)
    · have hw := And.left hw hc
      refine lv_aload_n hx hb dX6_set_106 rfl (lv_at hl 0 rfl) ?_
      refine rg_M_X6_0_7 hC hK hP dX6_set_107 ?_
      exact B110 x1 x2 x3 (w_i z1 7) z1 _ _ _ hw hP hD hS (lv_sub hl [0, 1, 2, 3] rfl)
    · have hw := And.right hw hc
      refine lv_iload_n hx hb dX6_set_102 rfl (lv_at hl 2 rfl) ?_
      refine lv_goto (tgt := 110) hx hb dX6_set_103 (by decide) ?_
      exact B110 x1 x2 x3 x2 z1 _ _ _ hw hP hD hS (lv_sub hl [0, 1, 2, 3] rfl)
  have B79 : ∀ (x1 : Int32) (x2 : Int32) (t0 : Int32) (z0 : wSt) (H : Heap) (locs : List Loc) (ls : Array Slot), wpX6_set_79  post x1 x2 t0 z0 → va_P G.1 vwCl (wsM G h z0) H → va_D A (wsM G h z0) → va_S A s.heap H locs → lv_has ls 4 [(0, .ref (h 0)), (1, .int x1), (2, .int x2)] → W p l e R s m args below meth c H locs 0 0 Q (F0 m 79 ls [.int t0]) := by
    intro x1 x2 t0 z0 H locs ls hw hP hD hS hl
    unfold wpX6_set_79 at hw
    refine lv_istore_n (lv' := [(3, .int t0), (0, .ref (h 0)), (1, .int x1), (2, .int x2)]) hx hb dX6_set_79 rfl hl (by decide) rfl (fun ls hl => ?_)
    refine lv_aload_n hx hb dX6_set_80 rfl (lv_at hl 1 rfl) ?_
    refine lv_iload_n hx hb dX6_set_81 rfl (lv_at hl 2 rfl) ?_
    refine lv_if_ne (tgt := 89) hx hb dX6_set_82 (by decide) (fun hc => ?_) (fun hc => ?_)
    · have hw := And.left hw hc
      refine lv_aload_n hx hb dX6_set_89 rfl (lv_at hl 1 rfl) ?_
      refine rg_M_X6_0_6 hC hK hP dX6_set_90 ?_
      exact B93 x1 x2 t0 (w_i z0 6) z0 _ _ _ hw hP hD hS (lv_sub hl [1, 2, 3, 0] rfl)
    · have hw := And.right hw hc
      refine lv_iload_n hx hb dX6_set_85 rfl (lv_at hl 3 rfl) ?_
      refine lv_goto (tgt := 93) hx hb dX6_set_86 (by decide) ?_
      exact B93 x1 x2 t0 x2 z0 _ _ _ hw hP hD hS (lv_sub hl [1, 2, 3, 0] rfl)
  have B52 : ∀ (x1 : Int32) (x2 : Int32) (z0 : wSt) (H : Heap) (locs : List Loc) (ls : Array Slot), wpX6_set_52  post x1 x2 z0 → va_P G.1 vwCl (wsM G h z0) H → va_D A (wsM G h z0) → va_S A s.heap H locs → lv_has ls 4 [(0, .ref (h 0)), (1, .int x1), (2, .int x2)] → W p l e R s m args below meth c H locs 0 0 Q (F0 m 52 ls []) := by
    intro x1 x2 z0 H locs ls hw hP hD hS hl
    unfold wpX6_set_52 at hw
    refine lv_iload_n hx hb dX6_set_52 rfl (lv_at hl 1 rfl) ?_
    refine lv_if_ne (tgt := 63) hx hb dX6_set_53 (by decide) (fun hc => ?_) (fun hc => ?_)
    · have hw := And.left hw hc
      refine lv_iload_n hx hb dX6_set_63 rfl (lv_at hl 1 rfl) ?_
      refine lv_iconst (v := (1 : Int32)) hx hb dX6_set_64 (by decide) ?_
      refine lv_icmp_ne (tgt := 75) hx hb dX6_set_65 (by decide) (fun hc => ?_) (fun hc => ?_)
      · have hw := And.left hw hc
        refine lv_aload_n hx hb dX6_set_75 rfl (lv_at hl 0 rfl) ?_
        refine rg_M_X6_0_8 hC hK hP dX6_set_76 ?_
        exact B79 x1 x2 (w_i z0 8) z0 _ _ _ hw hP hD hS (lv_sub hl [0, 1, 2] rfl)
      · have hw := And.right hw hc
        refine lv_aload_n hx hb dX6_set_68 rfl (lv_at hl 0 rfl) ?_
        refine rg_M_X6_0_7 hC hK hP dX6_set_69 ?_
        refine lv_goto (tgt := 79) hx hb dX6_set_72 (by decide) ?_
        exact B79 x1 x2 (w_i z0 7) z0 _ _ _ hw hP hD hS (lv_sub hl [0, 1, 2] rfl)
    · have hw := And.right hw hc
      refine lv_aload_n hx hb dX6_set_56 rfl (lv_at hl 0 rfl) ?_
      refine rg_M_X6_0_6 hC hK hP dX6_set_57 ?_
      refine lv_goto (tgt := 79) hx hb dX6_set_60 (by decide) ?_
      exact B79 x1 x2 (w_i z0 6) z0 _ _ _ hw hP hD hS (lv_sub hl [0, 1, 2] rfl)
  have B43 : ∀ (x1 : Int32) (x2 : Int32) (t0 : Int64) (t1 : Int64) (t2 : Int64) (z0 : wSt) (H : Heap) (locs : List Loc) (ls : Array Slot), wpX6_set_43  post x1 x2 t0 t1 t2 z0 → va_P G.1 vwCl (wsM G h z0) H → va_D A (wsM G h z0) → va_S A s.heap H locs → lv_has ls 4 [(0, .ref (h 0)), (1, .int x1), (2, .int x2)] → W p l e R s m args below meth c H locs 0 0 Q (F0 m 43 ls [.long t0, .long t1, .long t2]) := by
    intro x1 x2 t0 t1 t2 z0 H locs ls hw hP hD hS hl
    unfold wpX6_set_43 at hw
    refine vp_callSi (xro (xr_S hC (cX6_in_c hw) ⟨rfl, rfl⟩ bw_700 calX6_in ⟨Nat.le_trans (Nat.le_of_ble_eq_true rfl) hF, Nat.le_trans (Nat.le_of_ble_eq_true rfl) hL⟩ (rest := []) (xpS hK) rfl hl rfl (Nat.le_of_ble_eq_true rfl) dX6_set_43 ⟨Nat.zero_le _, Nat.zero_le _⟩)) (fun r1 hw => ?_)
    refine lv_if_ne (tgt := 52) hx hb dX6_set_46 (by decide) (fun hc => ?_) (fun hc => ?_)
    · have hw := And.left hw hc
      exact B52 x1 x2 z0 _ _ _ hw hP hD hS (lv_sub hl [0, 1, 2] rfl)
    · have hw := And.right hw hc
      refine lv_ldc (v := (-100001 : Int32)) hx hb hC.2.2.2.1 (hC.2.2.2.2 _ bw_718) dX6_set_49 ?_
      exact hret _ _ _ _ _ _ hw hP hD hS dX6_set_51
  unfold wpX6_set at hw
  refine lv_iload_n hx hb dX6_set_0 rfl (lv_at hl 1 rfl) ?_
  refine lv_i2l (v := (x1.toInt64)) hx hb dX6_set_1 rfl ?_
  refine lv_lconst (v := (0 : Int64)) hx hb dX6_set_2 (by decide) ?_
  refine lv_ldc2 (v := (2 : Int64)) hx hb hC.2.2.2.1 (hC.2.2.2.2 _ bw_731) dX6_set_3 ?_
  refine vp_callSi (xro (xr_S hC (cX6_in_c hw) ⟨rfl, rfl⟩ bw_700 calX6_in ⟨Nat.le_trans (Nat.le_of_ble_eq_true rfl) hF, Nat.le_trans (Nat.le_of_ble_eq_true rfl) hL⟩ (rest := []) (xpS hK) rfl hl rfl (Nat.le_of_ble_eq_true rfl) dX6_set_6 ⟨Nat.zero_le _, Nat.zero_le _⟩)) (fun r1 hw => ?_)
  refine lv_if_eq (tgt := 49) hx hb dX6_set_9 (by decide) (fun hc => ?_) (fun hc => ?_)
  · have hw := And.left hw hc
    refine lv_ldc (v := (-100001 : Int32)) hx hb hC.2.2.2.1 (hC.2.2.2.2 _ bw_718) dX6_set_49 ?_
    exact hret _ _ _ _ _ _ hw hP hD hS dX6_set_51
  · have hw := And.right hw hc
    refine lv_iload_n hx hb dX6_set_12 rfl (lv_at hl 1 rfl) ?_
    refine lv_if_ne (tgt := 26) hx hb dX6_set_13 (by decide) (fun hc => ?_) (fun hc => ?_)
    · have hw := And.left hw hc
      refine lv_iload_n hx hb dX6_set_26 rfl (lv_at hl 2 rfl) ?_
      refine lv_i2l (v := (x2.toInt64)) hx hb dX6_set_27 rfl ?_
      refine lv_lconst (v := (0 : Int64)) hx hb dX6_set_28 (by decide) ?_
      refine lv_iload_n hx hb dX6_set_29 rfl (lv_at hl 1 rfl) ?_
      refine lv_iconst (v := (1 : Int32)) hx hb dX6_set_30 (by decide) ?_
      refine lv_icmp_ne (tgt := 40) hx hb dX6_set_31 (by decide) (fun hc => ?_) (fun hc => ?_)
      · have hw := And.left hw hc
        refine lv_ldc2 (v := (9 : Int64)) hx hb hC.2.2.2.1 (hC.2.2.2.2 _ bw_704) dX6_set_40 ?_
        exact B43 x1 x2 (9 : Int64) (0 : Int64) (x2.toInt64) z0 _ _ _ hw hP hD hS (lv_sub hl [0, 1, 2] rfl)
      · have hw := And.right hw hc
        refine lv_ldc2 (v := (999 : Int64)) hx hb hC.2.2.2.1 (hC.2.2.2.2 _ bw_736) dX6_set_34 ?_
        refine lv_goto (tgt := 43) hx hb dX6_set_37 (by decide) ?_
        exact B43 x1 x2 (999 : Int64) (0 : Int64) (x2.toInt64) z0 _ _ _ hw hP hD hS (lv_sub hl [0, 1, 2] rfl)
    · have hw := And.right hw hc
      refine lv_iload_n hx hb dX6_set_16 rfl (lv_at hl 2 rfl) ?_
      refine vp_callSi (xro (xr_S hC (cX6_isMood_c hw) ⟨rfl, rfl⟩ bw_732 calX6_isMood ⟨Nat.le_trans (Nat.le_of_ble_eq_true rfl) hF, Nat.le_trans (Nat.le_of_ble_eq_true rfl) hL⟩ (rest := []) (xpS hK) rfl hl rfl (Nat.le_of_ble_eq_true rfl) dX6_set_17 ⟨Nat.zero_le _, Nat.zero_le _⟩)) (fun r2 hw => ?_)
      refine lv_if_eq (tgt := 49) hx hb dX6_set_20 (by decide) (fun hc => ?_) (fun hc => ?_)
      · have hw := And.left hw hc
        refine lv_ldc (v := (-100001 : Int32)) hx hb hC.2.2.2.1 (hC.2.2.2.2 _ bw_718) dX6_set_49 ?_
        exact hret _ _ _ _ _ _ hw hP hD hS dX6_set_51
      · have hw := And.right hw hc
        refine lv_goto (tgt := 52) hx hb dX6_set_23 (by decide) ?_
        exact B52 x1 x2 z0 _ _ _ hw hP hD hS (lv_sub hl [0, 1, 2] rfl)
def wpX6_is (x1 : Int32) (z0 : wSt) (post : Int32 → Prop) : Prop := ((x1.toInt < 0 ∨ 8 < x1.toInt → (post (-100001 : Int32))) ∧ (x1 = (0 : Int32) → (post (w_i z0 6))) ∧ (x1 = (1 : Int32) → (post (w_i z0 7))) ∧ (x1 = (2 : Int32) → (post (w_i z0 8))) ∧ (x1 = (3 : Int32) → (post (w_i z0 9))) ∧ (x1 = (4 : Int32) → (post (w_i z0 10))) ∧ (x1 = (5 : Int32) → (post (w_i z0 11))) ∧ (x1 = (6 : Int32) → (post (w_i z0 5))) ∧ (x1 = (7 : Int32) → (post (w_i z0 14))) ∧ (x1 = (8 : Int32) → (post (w_i z0 12))))
set_option maxHeartbeats 4000000 in
set_option maxRecDepth 100000 in
theorem cX6_is_c {l : Launch} {G : wG} {h : Nat → Nat} {x1 : Int32} {post : Int32 → Prop} {z0 : wSt}  (hw : wpX6_is x1 z0 post) : Met l yX6_is (.code yX6_is cX6_is 2 (some .int) :: BIG) { frames := 0, cells := 0, slots := 0, locals := 0 } (xPr G [.ref (h 0), .int x1] (wsM G h z0)) (vp_Si post) 0 0 (fun _ => False) := by
  refine xm_ri (by decide) (Nat.le_of_ble_eq_true rfl) (fun p e s m args below meth c ls R Q hC hK hP hl hF hL hret => ?_)
  have hx := hC.1
  have hb := hC.2.1
  have hl : lv_has ls 2 [(0, .ref (h 0)), (1, .int x1)] := hl
  unfold wpX6_is at hw
  refine lv_iload_n hx hb dX6_is_0 rfl (lv_at hl 1 rfl) ?_
  rcases x_tswL x1 0 9 (by decide) with hq | ⟨j, hj, hq⟩
  · have hw := And.left hw (by omega)
    refine lv_tableOut (tgt := 97) hx hb dX6_is_1 (by omega) (by decide) ?_
    refine lv_ldc (v := (-100001 : Int32)) hx hb hC.2.2.2.1 (hC.2.2.2.2 _ bw_718) dX6_is_97 ?_
    exact hret _ _ _ hw dX6_is_99
  · have hw := And.right hw
    obtain rfl | rfl | rfl | rfl | rfl | rfl | rfl | rfl | rfl : j = 0 ∨ j = 1 ∨ j = 2 ∨ j = 3 ∨ j = 4 ∨ j = 5 ∨ j = 6 ∨ j = 7 ∨ j = 8 := by omega
    · have hw := (And.left hw) hq
      refine lv_tableIn (off := 51) (tgt := 52) hx hb dX6_is_1 (by rw [hq]; decide) (by rw [hq]; decide) (by rw [hq]; rfl) (by decide) ?_
      refine lv_aload_n hx hb dX6_is_52 rfl (lv_at hl 0 rfl) ?_
      refine rg_M_X6_0_6 hC hK hP dX6_is_53 ?_
      exact hret _ _ _ hw dX6_is_56
    · have hw := (And.left (And.right hw)) hq
      refine lv_tableIn (off := 56) (tgt := 57) hx hb dX6_is_1 (by rw [hq]; decide) (by rw [hq]; decide) (by rw [hq]; rfl) (by decide) ?_
      refine lv_aload_n hx hb dX6_is_57 rfl (lv_at hl 0 rfl) ?_
      refine rg_M_X6_0_7 hC hK hP dX6_is_58 ?_
      exact hret _ _ _ hw dX6_is_61
    · have hw := (And.left (And.right (And.right hw))) hq
      refine lv_tableIn (off := 61) (tgt := 62) hx hb dX6_is_1 (by rw [hq]; decide) (by rw [hq]; decide) (by rw [hq]; rfl) (by decide) ?_
      refine lv_aload_n hx hb dX6_is_62 rfl (lv_at hl 0 rfl) ?_
      refine rg_M_X6_0_8 hC hK hP dX6_is_63 ?_
      exact hret _ _ _ hw dX6_is_66
    · have hw := (And.left (And.right (And.right (And.right hw)))) hq
      refine lv_tableIn (off := 66) (tgt := 67) hx hb dX6_is_1 (by rw [hq]; decide) (by rw [hq]; decide) (by rw [hq]; rfl) (by decide) ?_
      refine lv_aload_n hx hb dX6_is_67 rfl (lv_at hl 0 rfl) ?_
      refine rg_M_X6_0_9 hC hK hP dX6_is_68 ?_
      exact hret _ _ _ hw dX6_is_71
    · have hw := (And.left (And.right (And.right (And.right (And.right hw))))) hq
      refine lv_tableIn (off := 71) (tgt := 72) hx hb dX6_is_1 (by rw [hq]; decide) (by rw [hq]; decide) (by rw [hq]; rfl) (by decide) ?_
      refine lv_aload_n hx hb dX6_is_72 rfl (lv_at hl 0 rfl) ?_
      refine rg_M_X6_0_10 hC hK hP dX6_is_73 ?_
      exact hret _ _ _ hw dX6_is_76
    · have hw := (And.left (And.right (And.right (And.right (And.right (And.right hw)))))) hq
      refine lv_tableIn (off := 76) (tgt := 77) hx hb dX6_is_1 (by rw [hq]; decide) (by rw [hq]; decide) (by rw [hq]; rfl) (by decide) ?_
      refine lv_aload_n hx hb dX6_is_77 rfl (lv_at hl 0 rfl) ?_
      refine rg_M_X6_0_11 hC hK hP dX6_is_78 ?_
      exact hret _ _ _ hw dX6_is_81
    · have hw := (And.left (And.right (And.right (And.right (And.right (And.right (And.right hw))))))) hq
      refine lv_tableIn (off := 81) (tgt := 82) hx hb dX6_is_1 (by rw [hq]; decide) (by rw [hq]; decide) (by rw [hq]; rfl) (by decide) ?_
      refine lv_aload_n hx hb dX6_is_82 rfl (lv_at hl 0 rfl) ?_
      refine rg_M_X6_0_5 hC hK hP dX6_is_83 ?_
      exact hret _ _ _ hw dX6_is_86
    · have hw := (And.left (And.right (And.right (And.right (And.right (And.right (And.right (And.right hw)))))))) hq
      refine lv_tableIn (off := 86) (tgt := 87) hx hb dX6_is_1 (by rw [hq]; decide) (by rw [hq]; decide) (by rw [hq]; rfl) (by decide) ?_
      refine lv_aload_n hx hb dX6_is_87 rfl (lv_at hl 0 rfl) ?_
      refine rg_M_X6_0_14 hC hK hP dX6_is_88 ?_
      exact hret _ _ _ hw dX6_is_91
    · have hw := ((And.right (And.right (And.right (And.right (And.right (And.right (And.right (And.right hw))))))))) hq
      refine lv_tableIn (off := 91) (tgt := 92) hx hb dX6_is_1 (by rw [hq]; decide) (by rw [hq]; decide) (by rw [hq]; rfl) (by decide) ?_
      refine lv_aload_n hx hb dX6_is_92 rfl (lv_at hl 0 rfl) ?_
      refine rg_M_X6_0_12 hC hK hP dX6_is_93 ?_
      exact hret _ _ _ hw dX6_is_96
def wpX6_type_74 (k74 : Int64 → Int32 → (wSt) → Prop) (post : Int32 → (wSt) → Prop) (x1 : Int64) (x4 : Int32) (z0 : wSt) : Prop := ((x4 < 0 → (post (w_i z0 17) z0)) ∧ (¬ x4 < 0 → (vp_in (w_i z0 17) 60 ∧ ∀ z1 : wSt, z1 = (w_sa z0 16 (upd (w_a z0 16) (w_i z0 17).toNatClampNeg (((x1 >>> (((8 : Int32) * x4).toInt64 &&& 63)) &&& (255 : Int64)).toInt32))) → (∀ z2 : wSt, z2 = (w_si z1 17 ((w_i z1 17) + (1 : Int32))) → (k74 x1 (x4 + (-1 : Int32)) z2)))))
def wpX6_type_L74  (post : Int32 → (wSt) → Prop) : Nat → Int64 → Int32 → (wSt) → Prop
  | 0 => fun _ _ _ => False
  | n + 1 => fun x1 x4 z0 => wpX6_type_74  (wpX6_type_L74  post n) post x1 x4 z0
def wpX6_type_19 (k19 : Int64 → Int32 → Int32 → (wSt) → Prop) (post : Int32 → (wSt) → Prop) (x1 : Int64) (x3 : Int32) (x4 : Int32) (z0 : wSt) : Prop := ((x4 < 0 → ((((w_i z0 17) + x3) ≤ (60 : Int32) → (∃ n, wpX6_type_L74  post n x1 (x3 - (1 : Int32)) z0)) ∧ (¬ ((w_i z0 17) + x3) ≤ (60 : Int32) → (post (-3 : Int32) z0)))) ∧ (¬ x4 < 0 → (wpX6_in ((x1 >>> (((8 : Int32) * x4).toInt64 &&& 63)) &&& (255 : Int64)) (32 : Int64) (126 : Int64) (fun r1 => ((¬ r1 = 0 → (k19 x1 x3 (x4 + (-1 : Int32)) z0)) ∧ (r1 = 0 → (post (-1 : Int32) z0)))))))
def wpX6_type_L19  (post : Int32 → (wSt) → Prop) : Nat → Int64 → Int32 → Int32 → (wSt) → Prop
  | 0 => fun _ _ _ _ => False
  | n + 1 => fun x1 x3 x4 z0 => wpX6_type_19  (wpX6_type_L19  post n) post x1 x3 x4 z0
def wpX6_type (x1 : Int64) (x3 : Int32) (z0 : wSt) (post : Int32 → (wSt) → Prop) : Prop := (wpX6_in (x3.toInt64) (1 : Int64) (8 : Int64) (fun r1 => ((¬ r1 = 0 → (∃ n, wpX6_type_L19  post n x1 x3 (x3 - (1 : Int32)) z0)) ∧ (r1 = 0 → (post (-1 : Int32) z0)))))
set_option maxHeartbeats 4000000 in
set_option maxRecDepth 100000 in
theorem cX6_type_c {l : Launch} {G : wG} {h : Nat → Nat} {sz : Nat} {x1 : Int64} {x3 : Int32} {post : Int32 → (wSt) → Prop} {z0 : wSt}  (hw : wpX6_type x1 x3 z0 post) : Met l yX6_type (.code yX6_type cX6_type 5 (some .int) :: BIG) { frames := 1, cells := 0, slots := 0, locals := 25 } (xPw G [.ref (h 0), .long x1, .int x3] (wsM G h z0) sz) (xQi G post (fun q => (wsM G h q)) (va_A (wsM G h z0) sz)) 0 0 (va_A (wsM G h z0) sz) := by
  refine xm_wi (by decide) (Nat.le_of_ble_eq_true rfl) (fun p e s m args below meth c A ls R Q hC hK hA hP hD hS hl hF hL hret => ?_)
  have hx := hC.1
  have hb := hC.2.1
  have hl : lv_has ls 5 [(0, .ref (h 0)), (1, .long x1), (3, .int x3)] := hl
  have B74 : ∀ n74 : Nat, ∀ (x1 : Int64) (x4 : Int32) (z0 : wSt) (H : Heap) (locs : List Loc) (ls : Array Slot), wpX6_type_L74  post n74 x1 x4 z0 → va_P G.1 vwCl (wsM G h z0) H → va_D A (wsM G h z0) → va_S A s.heap H locs → lv_has ls 5 [(0, .ref (h 0)), (1, .long x1), (4, .int x4)] → W p l e R s m args below meth c H locs 0 0 Q (F0 m 74 ls []) := by
    intro n74
    induction n74 with
    | zero => intro x1 x4 z0 H locs ls hw hP hD hS hl; exact False.elim hw
    | succ n74 I74 =>
      intro x1 x4 z0 H locs ls hw hP hD hS hl
      have hw : wpX6_type_74  (wpX6_type_L74  post n74) post x1 x4 z0 := hw
      unfold wpX6_type_74 at hw
      refine lv_iload hx hb dX6_type_74 (lv_at hl 2 rfl) ?_
      refine lv_if_lt (tgt := 116) hx hb dX6_type_76 (by decide) (fun hc => ?_) (fun hc => ?_)
      · have hw := And.left hw hc
        refine lv_aload_n hx hb dX6_type_116 rfl (lv_at hl 0 rfl) ?_
        refine rg_M_X6_0_17 hC hK hP dX6_type_117 ?_
        exact hret _ _ _ _ _ _ hw hP hD hS dX6_type_120
      · have hw := And.right hw hc
        refine lv_aload_n hx hb dX6_type_79 rfl (lv_at hl 0 rfl) ?_
        refine rg_M_X6_0_16 hC hK hP dX6_type_80 ?_
        refine lv_aload_n hx hb dX6_type_83 rfl (lv_at hl 0 rfl) ?_
        refine rg_M_X6_0_17 hC hK hP dX6_type_84 ?_
        refine lv_lload_n hx hb dX6_type_87 rfl (lv_at hl 1 rfl) ?_
        refine lv_bipush (v := (8 : Int32)) hx hb dX6_type_88 (by decide) ?_
        refine lv_iload hx hb dX6_type_90 (lv_at hl 2 rfl) ?_
        refine lv_imul hx hb dX6_type_92 ?_
        refine lv_lshr (v := (x1 >>> (((8 : Int32) * x4).toInt64 &&& 63))) hx hb dX6_type_93 rfl ?_
        refine lv_ldc2 (v := (255 : Int64)) hx hb hC.2.2.2.1 (hC.2.2.2.2 _ bw_746) dX6_type_94 ?_
        refine lv_land hx hb dX6_type_97 ?_
        refine lv_l2i (v := (((x1 >>> (((8 : Int32) * x4).toInt64 &&& 63)) &&& (255 : Int64)).toInt32)) hx hb dX6_type_98 rfl ?_
        refine rs_M_7 hC hK hP hD hS (And.left hw) dX6_type_99 (fun z1 H locs hz1 hP hD hS => ?_)
        have hw := And.right hw z1 hz1
        refine lv_aload_n hx hb dX6_type_100 rfl (lv_at hl 0 rfl) ?_
        refine lv_dup hx hb dX6_type_101 rfl ?_
        refine rg_M_X6_0_17 hC hK hP dX6_type_102 ?_
        refine lv_iconst (v := (1 : Int32)) hx hb dX6_type_105 (by decide) ?_
        refine lv_iadd hx hb dX6_type_106 ?_
        refine rp_M_X6_0_17 hC hK hP hD hS dX6_type_107 (fun z2 H locs hz1 hP hD hS => ?_)
        have hw := hw z2 hz1
        refine lv_iinc (v := (x4 + (-1 : Int32))) (lv' := [(4, .int (x4 + (-1 : Int32))), (0, .ref (h 0)), (1, .long x1)]) hx hb dX6_type_110 hl (k := 2) rfl rfl (by decide) rfl (fun ls hl => ?_)
        refine lv_goto (tgt := 74) hx hb dX6_type_113 (by decide) ?_
        exact I74 x1 (x4 + (-1 : Int32)) z2 _ _ _ hw hP hD hS (lv_sub hl [1, 2, 0] rfl)
  have B19 : ∀ n19 : Nat, ∀ (x1 : Int64) (x3 : Int32) (x4 : Int32) (z0 : wSt) (H : Heap) (locs : List Loc) (ls : Array Slot), wpX6_type_L19  post n19 x1 x3 x4 z0 → va_P G.1 vwCl (wsM G h z0) H → va_D A (wsM G h z0) → va_S A s.heap H locs → lv_has ls 5 [(0, .ref (h 0)), (1, .long x1), (3, .int x3), (4, .int x4)] → W p l e R s m args below meth c H locs 0 0 Q (F0 m 19 ls []) := by
    intro n19
    induction n19 with
    | zero => intro x1 x3 x4 z0 H locs ls hw hP hD hS hl; exact False.elim hw
    | succ n19 I19 =>
      intro x1 x3 x4 z0 H locs ls hw hP hD hS hl
      have hw : wpX6_type_19  (wpX6_type_L19  post n19) post x1 x3 x4 z0 := hw
      unfold wpX6_type_19 at hw
      refine lv_iload hx hb dX6_type_19 (lv_at hl 3 rfl) ?_
      refine lv_if_lt (tgt := 55) hx hb dX6_type_21 (by decide) (fun hc => ?_) (fun hc => ?_)
      · have hw := And.left hw hc
        refine lv_aload_n hx hb dX6_type_55 rfl (lv_at hl 0 rfl) ?_
        refine rg_M_X6_0_17 hC hK hP dX6_type_56 ?_
        refine lv_iload_n hx hb dX6_type_59 rfl (lv_at hl 2 rfl) ?_
        refine lv_iadd hx hb dX6_type_60 ?_
        refine lv_bipush (v := (60 : Int32)) hx hb dX6_type_61 (by decide) ?_
        refine lv_icmp_le (tgt := 69) hx hb dX6_type_63 (by decide) (fun hc => ?_) (fun hc => ?_)
        · have hw := And.left hw hc
          refine lv_iload_n hx hb dX6_type_69 rfl (lv_at hl 2 rfl) ?_
          refine lv_iconst (v := (1 : Int32)) hx hb dX6_type_70 (by decide) ?_
          refine lv_isub hx hb dX6_type_71 ?_
          refine lv_istore (lv' := [(4, .int (x3 - (1 : Int32))), (0, .ref (h 0)), (1, .long x1), (3, .int x3)]) hx hb dX6_type_72 hl (by decide) rfl (fun ls hl => ?_)
          obtain ⟨j74, hw⟩ := hw
          exact B74 j74 x1 (x3 - (1 : Int32)) z0 _ _ _ hw hP hD hS (lv_sub hl [1, 2, 0] rfl)
        · have hw := And.right hw hc
          refine lv_bipush (v := (-3 : Int32)) hx hb dX6_type_66 (by decide) ?_
          exact hret _ _ _ _ _ _ hw hP hD hS dX6_type_68
      · have hw := And.right hw hc
        refine lv_lload_n hx hb dX6_type_24 rfl (lv_at hl 1 rfl) ?_
        refine lv_bipush (v := (8 : Int32)) hx hb dX6_type_25 (by decide) ?_
        refine lv_iload hx hb dX6_type_27 (lv_at hl 3 rfl) ?_
        refine lv_imul hx hb dX6_type_29 ?_
        refine lv_lshr (v := (x1 >>> (((8 : Int32) * x4).toInt64 &&& 63))) hx hb dX6_type_30 rfl ?_
        refine lv_ldc2 (v := (255 : Int64)) hx hb hC.2.2.2.1 (hC.2.2.2.2 _ bw_746) dX6_type_31 ?_
        refine lv_land hx hb dX6_type_34 ?_
        refine lv_ldc2 (v := (32 : Int64)) hx hb hC.2.2.2.1 (hC.2.2.2.2 _ bw_747) dX6_type_35 ?_
        refine lv_ldc2 (v := (126 : Int64)) hx hb hC.2.2.2.1 (hC.2.2.2.2 _ bw_748) dX6_type_38 ?_
        refine vp_callSi (xro (xr_S hC (cX6_in_c hw) ⟨rfl, rfl⟩ bw_700 calX6_in ⟨Nat.le_trans (Nat.le_of_ble_eq_true rfl) hF, Nat.le_trans (Nat.le_of_ble_eq_true rfl) hL⟩ (rest := []) (xpS hK) rfl hl rfl (Nat.le_of_ble_eq_true rfl) dX6_type_41 ⟨Nat.zero_le _, Nat.zero_le _⟩)) (fun r1 hw => ?_)
        refine lv_if_ne (tgt := 49) hx hb dX6_type_44 (by decide) (fun hc => ?_) (fun hc => ?_)
        · have hw := And.left hw hc
          refine lv_iinc (v := (x4 + (-1 : Int32))) (lv' := [(4, .int (x4 + (-1 : Int32))), (0, .ref (h 0)), (1, .long x1), (3, .int x3)]) hx hb dX6_type_49 hl (k := 3) rfl rfl (by decide) rfl (fun ls hl => ?_)
          refine lv_goto (tgt := 19) hx hb dX6_type_52 (by decide) ?_
          exact I19 x1 x3 (x4 + (-1 : Int32)) z0 _ _ _ hw hP hD hS (lv_sub hl [1, 2, 3, 0] rfl)
        · have hw := And.right hw hc
          refine lv_iconst (v := (-1 : Int32)) hx hb dX6_type_47 (by decide) ?_
          exact hret _ _ _ _ _ _ hw hP hD hS dX6_type_48
  unfold wpX6_type at hw
  refine lv_iload_n hx hb dX6_type_0 rfl (lv_at hl 2 rfl) ?_
  refine lv_i2l (v := (x3.toInt64)) hx hb dX6_type_1 rfl ?_
  refine lv_lconst (v := (1 : Int64)) hx hb dX6_type_2 (by decide) ?_
  refine lv_ldc2 (v := (8 : Int64)) hx hb hC.2.2.2.1 (hC.2.2.2.2 _ bw_745) dX6_type_3 ?_
  refine vp_callSi (xro (xr_S hC (cX6_in_c hw) ⟨rfl, rfl⟩ bw_700 calX6_in ⟨Nat.le_trans (Nat.le_of_ble_eq_true rfl) hF, Nat.le_trans (Nat.le_of_ble_eq_true rfl) hL⟩ (rest := []) (xpS hK) rfl hl rfl (Nat.le_of_ble_eq_true rfl) dX6_type_6 ⟨Nat.zero_le _, Nat.zero_le _⟩)) (fun r1 hw => ?_)
  refine lv_if_ne (tgt := 14) hx hb dX6_type_9 (by decide) (fun hc => ?_) (fun hc => ?_)
  · have hw := And.left hw hc
    refine lv_iload_n hx hb dX6_type_14 rfl (lv_at hl 2 rfl) ?_
    refine lv_iconst (v := (1 : Int32)) hx hb dX6_type_15 (by decide) ?_
    refine lv_isub hx hb dX6_type_16 ?_
    refine lv_istore (lv' := [(4, .int (x3 - (1 : Int32))), (0, .ref (h 0)), (1, .long x1), (3, .int x3)]) hx hb dX6_type_17 hl (by decide) rfl (fun ls hl => ?_)
    obtain ⟨j19, hw⟩ := hw
    exact B19 j19 x1 x3 (x3 - (1 : Int32)) z0 _ _ _ hw hP hD hS (lv_sub hl [1, 2, 3, 0] rfl)
  · have hw := And.right hw hc
    refine lv_iconst (v := (-1 : Int32)) hx hb dX6_type_12 (by decide) ?_
    exact hret _ _ _ _ _ _ hw hP hD hS dX6_type_13
def wpX6_nextByte_38  (post : Int32 → (wSt) → Prop)  (z0 : wSt) : Prop := (((w_i z0 17) ≤ (w_i z0 18) → (post (-1 : Int32) z0)) ∧ (¬ (w_i z0 17) ≤ (w_i z0 18) → (vp_in (w_i z0 18) 60 ∧ (post ((w_a z0 16) (w_i z0 18).toNatClampNeg) z0))))
def wpX6_nextByte_0 (k0 : (wSt) → Prop) (post : Int32 → (wSt) → Prop)  (z0 : wSt) : Prop := (((w_i z0 17) ≤ (w_i z0 18) → (wpX6_nextByte_38  post z0)) ∧ (¬ (w_i z0 17) ≤ (w_i z0 18) → (vp_in (w_i z0 18) 60 ∧ ((¬ ((w_a z0 16) (w_i z0 18).toNatClampNeg) = (32 : Int32) → (wpX6_nextByte_38  post z0)) ∧ (((w_a z0 16) (w_i z0 18).toNatClampNeg) = (32 : Int32) → (∀ z1 : wSt, z1 = (w_si z0 18 ((w_i z0 18) + (1 : Int32))) → (k0 z1)))))))
def wpX6_nextByte_L0  (post : Int32 → (wSt) → Prop) : Nat → (wSt) → Prop
  | 0 => fun _ => False
  | n + 1 => fun z0 => wpX6_nextByte_0  (wpX6_nextByte_L0  post n) post z0
def wpX6_nextByte (z0 : wSt) (post : Int32 → (wSt) → Prop) : Prop := (∃ n, wpX6_nextByte_L0  post n z0)
set_option maxHeartbeats 4000000 in
set_option maxRecDepth 100000 in
theorem cX6_nextByte_c {l : Launch} {G : wG} {h : Nat → Nat} {sz : Nat}  {post : Int32 → (wSt) → Prop} {z0 : wSt}  (hw : wpX6_nextByte z0 post) : Met l yX6_nextByte (.code yX6_nextByte cX6_nextByte 1 (some .int) :: BIG) { frames := 0, cells := 0, slots := 0, locals := 0 } (xPw G [.ref (h 0)] (wsM G h z0) sz) (xQi G post (fun q => (wsM G h q)) (va_A (wsM G h z0) sz)) 0 0 (va_A (wsM G h z0) sz) := by
  refine xm_wi (by decide) (Nat.le_of_ble_eq_true rfl) (fun p e s m args below meth c A ls R Q hC hK hA hP hD hS hl hF hL hret => ?_)
  have hx := hC.1
  have hb := hC.2.1
  have hl : lv_has ls 1 [(0, .ref (h 0))] := hl
  have B38 : ∀  (z0 : wSt) (H : Heap) (locs : List Loc) (ls : Array Slot), wpX6_nextByte_38  post z0 → va_P G.1 vwCl (wsM G h z0) H → va_D A (wsM G h z0) → va_S A s.heap H locs → lv_has ls 1 [(0, .ref (h 0))] → W p l e R s m args below meth c H locs 0 0 Q (F0 m 38 ls []) := by
    intro  z0 H locs ls hw hP hD hS hl
    unfold wpX6_nextByte_38 at hw
    refine lv_aload_n hx hb dX6_nextByte_38 rfl (lv_at hl 0 rfl) ?_
    refine rg_M_X6_0_18 hC hK hP dX6_nextByte_39 ?_
    refine lv_aload_n hx hb dX6_nextByte_42 rfl (lv_at hl 0 rfl) ?_
    refine rg_M_X6_0_17 hC hK hP dX6_nextByte_43 ?_
    refine lv_icmp_ge (tgt := 61) hx hb dX6_nextByte_46 (by decide) (fun hc => ?_) (fun hc => ?_)
    · have hw := And.left hw hc
      refine lv_iconst (v := (-1 : Int32)) hx hb dX6_nextByte_61 (by decide) ?_
      exact hret _ _ _ _ _ _ hw hP hD hS dX6_nextByte_62
    · have hw := And.right hw hc
      refine lv_aload_n hx hb dX6_nextByte_49 rfl (lv_at hl 0 rfl) ?_
      refine rg_M_X6_0_16 hC hK hP dX6_nextByte_50 ?_
      refine lv_aload_n hx hb dX6_nextByte_53 rfl (lv_at hl 0 rfl) ?_
      refine rg_M_X6_0_18 hC hK hP dX6_nextByte_54 ?_
      refine rl_M_7 hC hK hP (And.left hw) dX6_nextByte_57 ?_
      have hw := And.right hw
      refine lv_goto (tgt := 62) hx hb dX6_nextByte_58 (by decide) ?_
      exact hret _ _ _ _ _ _ hw hP hD hS dX6_nextByte_62
  have B0 : ∀ n0 : Nat, ∀  (z0 : wSt) (H : Heap) (locs : List Loc) (ls : Array Slot), wpX6_nextByte_L0  post n0 z0 → va_P G.1 vwCl (wsM G h z0) H → va_D A (wsM G h z0) → va_S A s.heap H locs → lv_has ls 1 [(0, .ref (h 0))] → W p l e R s m args below meth c H locs 0 0 Q (F0 m 0 ls []) := by
    intro n0
    induction n0 with
    | zero => intro  z0 H locs ls hw hP hD hS hl; exact False.elim hw
    | succ n0 I0 =>
      intro  z0 H locs ls hw hP hD hS hl
      have hw : wpX6_nextByte_0  (wpX6_nextByte_L0  post n0) post z0 := hw
      unfold wpX6_nextByte_0 at hw
      refine lv_aload_n hx hb dX6_nextByte_0 rfl (lv_at hl 0 rfl) ?_
      refine rg_M_X6_0_18 hC hK hP dX6_nextByte_1 ?_
      refine lv_aload_n hx hb dX6_nextByte_4 rfl (lv_at hl 0 rfl) ?_
      refine rg_M_X6_0_17 hC hK hP dX6_nextByte_5 ?_
      refine lv_icmp_ge (tgt := 38) hx hb dX6_nextByte_8 (by decide) (fun hc => ?_) (fun hc => ?_)
      · have hw := And.left hw hc
        exact B38 z0 _ _ _ hw hP hD hS (lv_sub hl [0] rfl)
      · have hw := And.right hw hc
        refine lv_aload_n hx hb dX6_nextByte_11 rfl (lv_at hl 0 rfl) ?_
        refine rg_M_X6_0_16 hC hK hP dX6_nextByte_12 ?_
        refine lv_aload_n hx hb dX6_nextByte_15 rfl (lv_at hl 0 rfl) ?_
        refine rg_M_X6_0_18 hC hK hP dX6_nextByte_16 ?_
        refine rl_M_7 hC hK hP (And.left hw) dX6_nextByte_19 ?_
        have hw := And.right hw
        refine lv_bipush (v := (32 : Int32)) hx hb dX6_nextByte_20 (by decide) ?_
        refine lv_icmp_ne (tgt := 38) hx hb dX6_nextByte_22 (by decide) (fun hc => ?_) (fun hc => ?_)
        · have hw := And.left hw hc
          exact B38 z0 _ _ _ hw hP hD hS (lv_sub hl [0] rfl)
        · have hw := And.right hw hc
          refine lv_aload_n hx hb dX6_nextByte_25 rfl (lv_at hl 0 rfl) ?_
          refine lv_dup hx hb dX6_nextByte_26 rfl ?_
          refine rg_M_X6_0_18 hC hK hP dX6_nextByte_27 ?_
          refine lv_iconst (v := (1 : Int32)) hx hb dX6_nextByte_30 (by decide) ?_
          refine lv_iadd hx hb dX6_nextByte_31 ?_
          refine rp_M_X6_0_18 hC hK hP hD hS dX6_nextByte_32 (fun z1 H locs hz1 hP hD hS => ?_)
          have hw := hw z1 hz1
          refine lv_goto (tgt := 0) hx hb dX6_nextByte_35 (by decide) ?_
          exact I0 z1 _ _ _ hw hP hD hS (lv_sub hl [0] rfl)
  unfold wpX6_nextByte at hw
  obtain ⟨j0, hw⟩ := hw
  exact B0 j0 z0 _ _ _ hw hP hD hS (lv_sub hl [0] rfl)
