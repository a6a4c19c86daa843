def wpX5_village (z0 : wXS) (post : Int32 → (wXS) → Prop) : Prop := (wpX3_readFolk ((x_t z0), (x_n z0)) (fun r1 u => ∀ z1 : wXS, z1 = (x_sn (x_st z0 u.1) u.2) → (∀ z2 : wXS, z2 = (x_st z1 (w_si (x_t z1) 1 (0 : Int32))) → ((r1 ≤ 0 → (post r1 z2)) ∧ (¬ r1 ≤ 0 → (wpX4_settle ((x_w z2), (x_n z2)) (fun u => ∀ z3 : wXS, z3 = (x_sn (x_sw z2 u.1) u.2) → (post r1 z3))))))))
set_option maxHeartbeats 4000000 in
set_option maxRecDepth 100000 in
theorem cX5_village_c {l : Launch} {G : wG} {h : Nat → Nat} {sz : Nat}  {post : Int32 → (wXS) → Prop} {z0 : wXS}  (hw : wpX5_village z0 post) : Met l yX5_village (.code yX5_village cX5_village 2 (some .int) :: BIG) { frames := 4, cells := 0, slots := 0, locals := 93 } (xPw G [.ref (h 0)] (wsX G h z0) sz) (xQi G post (fun q => (wsX G h q)) (va_A (wsX G h z0) sz)) 0 0 (va_A (wsX G h z0) sz) := by
  refine xm_wi (by decide) (Nat.le_of_ble_eq_true rfl) (fun p e s m args below meth c A ls R Q hC hK hA hP hD hS hl hF hL hret => ?_)
  have hx := hC.1
  have hb := hC.2.1
  have hl : lv_has ls 2 [(0, .ref (h 0))] := hl
  unfold wpX5_village at hw
  refine lv_aload_n hx hb dX5_village_0 rfl (lv_at hl 0 rfl) ?_
  refine rg_X_X5_0_3 hC hK hP dX5_village_1 ?_
  refine lv_aload_n hx hb dX5_village_4 rfl (lv_at hl 0 rfl) ?_
  refine rg_X_X5_0_4 hC hK hP dX5_village_5 ?_
  refine xc_wi (S := wSt × wSt) (wsz := fun q => (wsX G h q)) (f := fun u => (x_sn (x_st z0 u.1) u.2)) (xr_VN hC hK.2 (cX3_readFolk_c (h := (sh h 17)) (g := (sh h 19)) hw) ⟨rfl, rfl⟩ bw_281 calX3_readFolk ⟨Nat.le_trans (Nat.le_of_ble_eq_true rfl) hF, Nat.le_trans (Nat.le_of_ble_eq_true rfl) hL⟩ (rest := []) (xpV hK (cut_X_T17_F19) hP hD rfl rfl) rfl hl rfl (Nat.le_of_ble_eq_true rfl) dX5_village_8 ⟨Nat.zero_le _, Nat.zero_le _⟩) (cut_X_T17_F19) hP hD hS hA (fun r1 u z1 H locs hz1 hw hP hD hS => ?_)
  have hw := hw z1 hz1
  refine lv_istore_n (lv' := [(1, .int r1), (0, .ref (h 0))]) hx hb dX5_village_11 rfl hl (by decide) rfl (fun ls hl => ?_)
  refine lv_aload_n hx hb dX5_village_12 rfl (lv_at hl 1 rfl) ?_
  refine rg_X_X5_0_3 hC hK hP dX5_village_13 ?_
  refine lv_iconst (v := (0 : Int32)) hx hb dX5_village_16 (by decide) ?_
  refine rp_X_X5_17_1 hC hK hP hD hS dX5_village_17 (fun z2 H locs hz1 hP hD hS => ?_)
  have hw := hw z2 hz1
  refine lv_iload_n hx hb dX5_village_20 rfl (lv_at hl 0 rfl) ?_
  refine lv_if_le (tgt := 35) hx hb dX5_village_21 (by decide) (fun hc => ?_) (fun hc => ?_)
  · have hw := And.left hw hc
    refine lv_iload_n hx hb dX5_village_35 rfl (lv_at hl 0 rfl) ?_
    exact hret _ _ _ _ _ _ hw hP hD hS dX5_village_36
  · have hw := And.right hw hc
    refine lv_aload_n hx hb dX5_village_24 rfl (lv_at hl 1 rfl) ?_
    refine rg_X_X5_0_0 hC hK hP dX5_village_25 ?_
    refine lv_aload_n hx hb dX5_village_28 rfl (lv_at hl 1 rfl) ?_
    refine rg_X_X5_0_4 hC hK hP dX5_village_29 ?_
    refine xc_wv (S := wP2 × wSt) (wsz := fun q => (wsX G h q)) (f := fun u => (x_sn (x_sw z2 u.1) u.2)) (xr_VN hC hK.2 (cX4_settle_c (h := (sh h 1)) (g := (sh h 19)) hw) ⟨rfl, rfl⟩ bw_306 calX4_settle ⟨Nat.le_trans (Nat.le_of_ble_eq_true rfl) hF, Nat.le_trans (Nat.le_of_ble_eq_true rfl) hL⟩ (rest := []) (xpV hK (cut_X_W1_F19) hP hD rfl rfl) rfl hl rfl (Nat.le_of_ble_eq_true rfl) dX5_village_32 ⟨Nat.zero_le _, Nat.zero_le _⟩) (cut_X_W1_F19) hP hD hS hA (fun u z3 H locs hz1 hw hP hD hS => ?_)
    have hw := hw z3 hz1
    refine lv_iload_n hx hb dX5_village_35 rfl (lv_at hl 0 rfl) ?_
    exact hret _ _ _ _ _ _ hw hP hD hS dX5_village_36
