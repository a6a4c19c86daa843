def wpX5_row (x1 : Int32) (x2 : Int32) (z0 : wXS) (post : Int32 → (wXS) → Prop) : Prop := (wpX5_within x1 (1 : Int32) (5 : Int32) (fun r1 => ((r1 = 0 → (post (-1 : Int32) z0)) ∧ (¬ r1 = 0 → (wpX5_within x2 (0 : Int32) (x1 - (1 : Int32)) (fun r2 => ((¬ r2 = 0 → (wpX5_mostFrom (w_i (w_o (x_w z0)) 4) x1 z0 (fun r3 u => ∀ z1 : wXS, z1 = u → (vp_in x2 5 ∧ (post ((w_a (w_o (x_s z1)) 3) x2.toNatClampNeg) z1))))) ∧ (r2 = 0 → (post (-1 : Int32) z0)))))))))
set_option maxHeartbeats 4000000 in
set_option maxRecDepth 100000 in
theorem cX5_row_c {l : Launch} {G : wG} {h : Nat → Nat} {sz : Nat} {x1 : Int32} {x2 : Int32} {post : Int32 → (wXS) → Prop} {z0 : wXS}  (hw : wpX5_row x1 x2 z0 post) : Met l yX5_row (.code yX5_row cX5_row 3 (some .int) :: BIG) { frames := 52, cells := 0, slots := 0, locals := 1442 } (xPw G [.ref (h 0), .int x1, .int x2] (wsX G h z0) sz) (xQi G post (fun q => (wsX G h q)) (va_A (wsX G h z0) sz)) 0 0 (va_A (wsX G h z0) sz) := by
  refine xm_wi (by decide) (Nat.le_of_ble_eq_true rfl) (fun p e s m args below meth c A ls R Q hC hK hA hP hD hS hl hF hL hret => ?_)
  have hx := hC.1
  have hb := hC.2.1
  have hl : lv_has ls 3 [(0, .ref (h 0)), (1, .int x1), (2, .int x2)] := hl
  unfold wpX5_row at hw
  refine lv_iload_n hx hb dX5_row_0 rfl (lv_at hl 1 rfl) ?_
  refine lv_iconst (v := (1 : Int32)) hx hb dX5_row_1 (by decide) ?_
  refine lv_iconst (v := (5 : Int32)) hx hb dX5_row_2 (by decide) ?_
  refine vp_callSi (xro (xr_S hC (cX5_within_c hw) ⟨rfl, rfl⟩ bw_223 calX5_within ⟨Nat.le_trans (Nat.le_of_ble_eq_true rfl) hF, Nat.le_trans (Nat.le_of_ble_eq_true rfl) hL⟩ (rest := []) (xpS hK) rfl hl rfl (Nat.le_of_ble_eq_true rfl) dX5_row_3 ⟨Nat.zero_le _, Nat.zero_le _⟩)) (fun r1 hw => ?_)
  refine lv_if_eq (tgt := 20) hx hb dX5_row_6 (by decide) (fun hc => ?_) (fun hc => ?_)
  · have hw := And.left hw hc
    refine lv_iconst (v := (-1 : Int32)) hx hb dX5_row_20 (by decide) ?_
    exact hret _ _ _ _ _ _ hw hP hD hS dX5_row_21
  · have hw := And.right hw hc
    refine lv_iload_n hx hb dX5_row_9 rfl (lv_at hl 2 rfl) ?_
    refine lv_iconst (v := (0 : Int32)) hx hb dX5_row_10 (by decide) ?_
    refine lv_iload_n hx hb dX5_row_11 rfl (lv_at hl 1 rfl) ?_
    refine lv_iconst (v := (1 : Int32)) hx hb dX5_row_12 (by decide) ?_
    refine lv_isub hx hb dX5_row_13 ?_
    refine vp_callSi (xro (xr_S hC (cX5_within_c hw) ⟨rfl, rfl⟩ bw_223 calX5_within ⟨Nat.le_trans (Nat.le_of_ble_eq_true rfl) hF, Nat.le_trans (Nat.le_of_ble_eq_true rfl) hL⟩ (rest := []) (xpS hK) rfl hl rfl (Nat.le_of_ble_eq_true rfl) dX5_row_14 ⟨Nat.zero_le _, Nat.zero_le _⟩)) (fun r2 hw => ?_)
    refine lv_if_ne (tgt := 22) hx hb dX5_row_17 (by decide) (fun hc => ?_) (fun hc => ?_)
    · have hw := And.left hw hc
      refine lv_aload_n hx hb dX5_row_22 rfl (lv_at hl 0 rfl) ?_
      refine lv_aload_n hx hb dX5_row_23 rfl (lv_at hl 0 rfl) ?_
      refine rg_X_X5_0_0 hC hK hP dX5_row_24 ?_
      refine rg_X_X5_1_4 hC hK hP dX5_row_27 ?_
      refine lv_iload_n hx hb dX5_row_30 rfl (lv_at hl 1 rfl) ?_
      refine xc_wi (S := wXS) (wsz := fun q => (wsX G h q)) (f := fun u => u) (xr_V hC (cX5_mostFrom_c (h := h) hw) ⟨rfl, rfl⟩ bw_416 calX5_mostFrom ⟨Nat.le_trans (Nat.le_of_ble_eq_true rfl) hF, Nat.le_trans (Nat.le_of_ble_eq_true rfl) hL⟩ (rest := []) (xpV hK (cut_all_X) hP hD rfl rfl) rfl hl rfl (Nat.le_of_ble_eq_true rfl) dX5_row_31 ⟨Nat.zero_le _, Nat.zero_le _⟩) (cut_all_X) hP hD hS hA (fun r3 u z1 H locs hz1 hw hP hD hS => ?_)
      have hw := hw z1 hz1
      refine lv_pop hx hb dX5_row_34 rfl ?_
      refine lv_aload_n hx hb dX5_row_35 rfl (lv_at hl 0 rfl) ?_
      refine rg_X_X5_0_6 hC hK hP dX5_row_36 ?_
      refine rg_X_X5_25_3 hC hK hP dX5_row_39 ?_
      refine lv_iload_n hx hb dX5_row_42 rfl (lv_at hl 2 rfl) ?_
      refine rl_X_28 hC hK hP (And.left hw) dX5_row_43 ?_
      have hw := And.right hw
      exact hret _ _ _ _ _ _ hw hP hD hS dX5_row_44
    · have hw := And.right hw hc
      refine lv_iconst (v := (-1 : Int32)) hx hb dX5_row_20 (by decide) ?_
      exact hret _ _ _ _ _ _ hw hP hD hS dX5_row_21
def wpX5_fewest_25 (k25 : Int32 → Int32 → (wXS) → Prop) (post : Int32 → (wXS) → Prop) (x1 : Int32) (x2 : Int32) (z0 : wXS) : Prop := (((5 : Int32) < x2 → (post (-4 : Int32) z0)) ∧ (¬ (5 : Int32) < x2 → (wpX1_mostIn x2 (w_i (w_o (x_w z0)) 4) (x_s z0) (fun r1 u => ∀ z1 : wXS, z1 = (x_ss z0 u) → ((r1 < x1 → (k25 x1 (x2 + (1 : Int32)) z1)) ∧ (¬ r1 < x1 → (post x2 z1)))))))
def wpX5_fewest_L25  (post : Int32 → (wXS) → Prop) : Nat → Int32 → Int32 → (wXS) → Prop
  | 0 => fun _ _ _ => False
  | n + 1 => fun x1 x2 z0 => wpX5_fewest_25  (wpX5_fewest_L25  post n) post x1 x2 z0
def wpX5_fewest (x1 : Int32) (z0 : wXS) (post : Int32 → (wXS) → Prop) : Prop := (wpX5_within x1 (0 : Int32) (99 : Int32) (fun r1 => ((¬ r1 = 0 → (wpX1_observe ((x_s z0), (x_w z0)) (fun u => ∀ z1 : wXS, z1 = (x_sw (x_ss z0 u.1) u.2) → (∃ n, wpX5_fewest_L25  post n x1 (0 : Int32) z1)))) ∧ (r1 = 0 → (post (-1 : Int32) z0)))))
set_option maxHeartbeats 4000000 in
set_option maxRecDepth 100000 in
theorem cX5_fewest_c {l : Launch} {G : wG} {h : Nat → Nat} {sz : Nat} {x1 : Int32} {post : Int32 → (wXS) → Prop} {z0 : wXS}  (hw : wpX5_fewest x1 z0 post) : Met l yX5_fewest (.code yX5_fewest cX5_fewest 3 (some .int) :: BIG) { frames := 51, cells := 0, slots := 0, locals := 1420 } (xPw G [.ref (h 0), .int x1] (wsX G h z0) sz) (xQi G post (fun q => (wsX G h q)) (va_A (wsX G h z0) sz)) 0 0 (va_A (wsX G h z0) sz) := by
  refine xm_wi (by decide) (Nat.le_of_ble_eq_true rfl) (fun p e s m args below meth c A ls R Q hC hK hA hP hD hS hl hF hL hret => ?_)
  have hx := hC.1
  have hb := hC.2.1
  have hl : lv_has ls 3 [(0, .ref (h 0)), (1, .int x1)] := hl
  have B25 : ∀ n25 : Nat, ∀ (x1 : Int32) (x2 : Int32) (z0 : wXS) (H : Heap) (locs : List Loc) (ls : Array Slot), wpX5_fewest_L25  post n25 x1 x2 z0 → va_P G.1 vwCl (wsX G h z0) H → va_D A (wsX G h z0) → va_S A s.heap H locs → lv_has ls 3 [(0, .ref (h 0)), (1, .int x1), (2, .int x2)] → W p l e R s m args below meth c H locs 0 0 Q (F0 m 25 ls []) := by
    intro n25
    induction n25 with
    | zero => intro x1 x2 z0 H locs ls hw hP hD hS hl; exact False.elim hw
    | succ n25 I25 =>
      intro x1 x2 z0 H locs ls hw hP hD hS hl
      have hw : wpX5_fewest_25  (wpX5_fewest_L25  post n25) post x1 x2 z0 := hw
      unfold wpX5_fewest_25 at hw
      refine lv_iload_n hx hb dX5_fewest_25 rfl (lv_at hl 2 rfl) ?_
      refine lv_iconst (v := (5 : Int32)) hx hb dX5_fewest_26 (by decide) ?_
      refine lv_icmp_gt (tgt := 57) hx hb dX5_fewest_27 (by decide) (fun hc => ?_) (fun hc => ?_)
      · have hw := And.left hw hc
        refine lv_bipush (v := (-4 : Int32)) hx hb dX5_fewest_57 (by decide) ?_
        exact hret _ _ _ _ _ _ hw hP hD hS dX5_fewest_59
      · have hw := And.right hw hc
        refine lv_aload_n hx hb dX5_fewest_30 rfl (lv_at hl 0 rfl) ?_
        refine rg_X_X5_0_6 hC hK hP dX5_fewest_31 ?_
        refine lv_iload_n hx hb dX5_fewest_34 rfl (lv_at hl 2 rfl) ?_
        refine lv_aload_n hx hb dX5_fewest_35 rfl (lv_at hl 0 rfl) ?_
        refine rg_X_X5_0_0 hC hK hP dX5_fewest_36 ?_
        refine rg_X_X5_1_4 hC hK hP dX5_fewest_39 ?_
        refine xc_wi (S := wP2) (wsz := fun q => (wsX G h q)) (f := fun u => (x_ss z0 u)) (xr_VN hC hK.2 (cX1_mostIn_c (h := (sh h 25)) hw) ⟨rfl, rfl⟩ bw_426 calX1_mostIn ⟨Nat.le_trans (Nat.le_of_ble_eq_true rfl) hF, Nat.le_trans (Nat.le_of_ble_eq_true rfl) hL⟩ (rest := []) (xpV hK (cut_X_S25) hP hD rfl rfl) rfl hl rfl (Nat.le_of_ble_eq_true rfl) dX5_fewest_42 ⟨Nat.zero_le _, Nat.zero_le _⟩) (cut_X_S25) hP hD hS hA (fun r1 u z1 H locs hz1 hw hP hD hS => ?_)
        have hw := hw z1 hz1
        refine lv_iload_n hx hb dX5_fewest_45 rfl (lv_at hl 1 rfl) ?_
        refine lv_icmp_lt (tgt := 51) hx hb dX5_fewest_46 (by decide) (fun hc => ?_) (fun hc => ?_)
        · have hw := And.left hw hc
          refine lv_iinc (v := (x2 + (1 : Int32))) (lv' := [(2, .int (x2 + (1 : Int32))), (0, .ref (h 0)), (1, .int x1)]) hx hb dX5_fewest_51 hl (k := 2) rfl rfl (by decide) rfl (fun ls hl => ?_)
          refine lv_goto (tgt := 25) hx hb dX5_fewest_54 (by decide) ?_
          exact I25 x1 (x2 + (1 : Int32)) z1 _ _ _ hw hP hD hS (lv_sub hl [1, 2, 0] rfl)
        · have hw := And.right hw hc
          refine lv_iload_n hx hb dX5_fewest_49 rfl (lv_at hl 2 rfl) ?_
          exact hret _ _ _ _ _ _ hw hP hD hS dX5_fewest_50
  unfold wpX5_fewest at hw
  refine lv_iload_n hx hb dX5_fewest_0 rfl (lv_at hl 1 rfl) ?_
  refine lv_iconst (v := (0 : Int32)) hx hb dX5_fewest_1 (by decide) ?_
  refine lv_bipush (v := (99 : Int32)) hx hb dX5_fewest_2 (by decide) ?_
  refine vp_callSi (xro (xr_S hC (cX5_within_c hw) ⟨rfl, rfl⟩ bw_223 calX5_within ⟨Nat.le_trans (Nat.le_of_ble_eq_true rfl) hF, Nat.le_trans (Nat.le_of_ble_eq_true rfl) hL⟩ (rest := []) (xpS hK) rfl hl rfl (Nat.le_of_ble_eq_true rfl) dX5_fewest_4 ⟨Nat.zero_le _, Nat.zero_le _⟩)) (fun r1 hw => ?_)
  refine lv_if_ne (tgt := 12) hx hb dX5_fewest_7 (by decide) (fun hc => ?_) (fun hc => ?_)
  · have hw := And.left hw hc
    refine lv_aload_n hx hb dX5_fewest_12 rfl (lv_at hl 0 rfl) ?_
    refine rg_X_X5_0_6 hC hK hP dX5_fewest_13 ?_
    refine lv_aload_n hx hb dX5_fewest_16 rfl (lv_at hl 0 rfl) ?_
    refine rg_X_X5_0_0 hC hK hP dX5_fewest_17 ?_
    refine xc_wv (S := wP2 × wP2) (wsz := fun q => (wsX G h q)) (f := fun u => (x_sw (x_ss z0 u.1) u.2)) (xr_VN hC hK.2 (cX1_observe_c (h := (sh h 25)) (g := (sh h 1)) hw) ⟨rfl, rfl⟩ bw_420 calX1_observe ⟨Nat.le_trans (Nat.le_of_ble_eq_true rfl) hF, Nat.le_trans (Nat.le_of_ble_eq_true rfl) hL⟩ (rest := []) (xpV hK (cut_X_S25_W1) hP hD rfl rfl) rfl hl rfl (Nat.le_of_ble_eq_true rfl) dX5_fewest_20 ⟨Nat.zero_le _, Nat.zero_le _⟩) (cut_X_S25_W1) hP hD hS hA (fun u z1 H locs hz1 hw hP hD hS => ?_)
    have hw := hw z1 hz1
    refine lv_iconst (v := (0 : Int32)) hx hb dX5_fewest_23 (by decide) ?_
    refine lv_istore_n (lv' := [(2, .int (0 : Int32)), (0, .ref (h 0)), (1, .int x1)]) hx hb dX5_fewest_24 rfl hl (by decide) rfl (fun ls hl => ?_)
    obtain ⟨j25, hw⟩ := hw
    exact B25 j25 x1 (0 : Int32) z1 _ _ _ hw hP hD hS (lv_sub hl [1, 2, 0] rfl)
  · have hw := And.right hw hc
    refine lv_iconst (v := (-1 : Int32)) hx hb dX5_fewest_10 (by decide) ?_
    exact hret _ _ _ _ _ _ hw hP hD hS dX5_fewest_11
def wpX5_mostInPeace (x1 : Int32) (x2 : Int32) (z0 : wXS) (post : Int32 → (wXS) → Prop) : Prop := (wpX0_makeFoes x1 x2 (0 : Int32) (w_f (x_s z0)) (fun u => ∀ z1 : wXS, z1 = (x_ss z0 (w_sf (x_s z0) u)) → (wpX1_mostIn (4 : Int32) (w_i (w_o (x_w z1)) 4) (x_s z1) (fun r1 u => ∀ z2 : wXS, z2 = (x_ss z1 u) → (wpX0_makeFoes x1 x2 (1 : Int32) (w_f (x_s z2)) (fun u => ∀ z3 : wXS, z3 = (x_ss z2 (w_sf (x_s z2) u)) → (post r1 z3)))))))
set_option maxHeartbeats 4000000 in
set_option maxRecDepth 100000 in
theorem cX5_mostInPeace_c {l : Launch} {G : wG} {h : Nat → Nat} {sz : Nat} {x1 : Int32} {x2 : Int32} {post : Int32 → (wXS) → Prop} {z0 : wXS}  (hw : wpX5_mostInPeace x1 x2 z0 post) : Met l yX5_mostInPeace (.code yX5_mostInPeace cX5_mostInPeace 4 (some .int) :: BIG) { frames := 51, cells := 0, slots := 0, locals := 1420 } (xPw G [.ref (h 0), .int x1, .int x2] (wsX G h z0) sz) (xQi G post (fun q => (wsX G h q)) (va_A (wsX G h z0) sz)) 0 0 (va_A (wsX G h z0) sz) := by
  refine xm_wi (by decide) (Nat.le_of_ble_eq_true rfl) (fun p e s m args below meth c A ls R Q hC hK hA hP hD hS hl hF hL hret => ?_)
  have hx := hC.1
  have hb := hC.2.1
  have hl : lv_has ls 4 [(0, .ref (h 0)), (1, .int x1), (2, .int x2)] := hl
  unfold wpX5_mostInPeace at hw
  refine lv_aload_n hx hb dX5_mostInPeace_0 rfl (lv_at hl 0 rfl) ?_
  refine rg_X_X5_0_6 hC hK hP dX5_mostInPeace_1 ?_
  refine rg_X_X5_25_0 hC hK hP dX5_mostInPeace_4 ?_
  refine lv_iload_n hx hb dX5_mostInPeace_7 rfl (lv_at hl 1 rfl) ?_
  refine lv_iload_n hx hb dX5_mostInPeace_8 rfl (lv_at hl 2 rfl) ?_
  refine lv_iconst (v := (0 : Int32)) hx hb dX5_mostInPeace_9 (by decide) ?_
  refine xc_wv (S := wSt) (wsz := fun q => (wsX G h q)) (f := fun u => (x_ss z0 (w_sf (x_s z0) u))) (xr_VN hC hK.2 (cX0_makeFoes_c (h := (sh h 29)) hw) ⟨rfl, rfl⟩ bw_248 calX0_makeFoes ⟨Nat.le_trans (Nat.le_of_ble_eq_true rfl) hF, Nat.le_trans (Nat.le_of_ble_eq_true rfl) hL⟩ (rest := []) (xpV hK (cut_X_F29) hP hD rfl rfl) rfl hl rfl (Nat.le_of_ble_eq_true rfl) dX5_mostInPeace_10 ⟨Nat.zero_le _, Nat.zero_le _⟩) (cut_X_F29) hP hD hS hA (fun u z1 H locs hz1 hw hP hD hS => ?_)
  have hw := hw z1 hz1
  refine lv_aload_n hx hb dX5_mostInPeace_13 rfl (lv_at hl 0 rfl) ?_
  refine rg_X_X5_0_6 hC hK hP dX5_mostInPeace_14 ?_
  refine lv_iconst (v := (4 : Int32)) hx hb dX5_mostInPeace_17 (by decide) ?_
  refine lv_aload_n hx hb dX5_mostInPeace_18 rfl (lv_at hl 0 rfl) ?_
  refine rg_X_X5_0_0 hC hK hP dX5_mostInPeace_19 ?_
  refine rg_X_X5_1_4 hC hK hP dX5_mostInPeace_22 ?_
  refine xc_wi (S := wP2) (wsz := fun q => (wsX G h q)) (f := fun u => (x_ss z1 u)) (xr_VN hC hK.2 (cX1_mostIn_c (h := (sh h 25)) hw) ⟨rfl, rfl⟩ bw_426 calX1_mostIn ⟨Nat.le_trans (Nat.le_of_ble_eq_true rfl) hF, Nat.le_trans (Nat.le_of_ble_eq_true rfl) hL⟩ (rest := []) (xpV hK (cut_X_S25) hP hD rfl rfl) rfl hl rfl (Nat.le_of_ble_eq_true rfl) dX5_mostInPeace_25 ⟨Nat.zero_le _, Nat.zero_le _⟩) (cut_X_S25) hP hD hS hA (fun r1 u z2 H locs hz1 hw hP hD hS => ?_)
  have hw := hw z2 hz1
  refine lv_istore_n (lv' := [(3, .int r1), (0, .ref (h 0)), (1, .int x1), (2, .int x2)]) hx hb dX5_mostInPeace_28 rfl hl (by decide) rfl (fun ls hl => ?_)
  refine lv_aload_n hx hb dX5_mostInPeace_29 rfl (lv_at hl 1 rfl) ?_
  refine rg_X_X5_0_6 hC hK hP dX5_mostInPeace_30 ?_
  refine rg_X_X5_25_0 hC hK hP dX5_mostInPeace_33 ?_
  refine lv_iload_n hx hb dX5_mostInPeace_36 rfl (lv_at hl 2 rfl) ?_
  refine lv_iload_n hx hb dX5_mostInPeace_37 rfl (lv_at hl 3 rfl) ?_
  refine lv_iconst (v := (1 : Int32)) hx hb dX5_mostInPeace_38 (by decide) ?_
  refine xc_wv (S := wSt) (wsz := fun q => (wsX G h q)) (f := fun u => (x_ss z2 (w_sf (x_s z2) u))) (xr_VN hC hK.2 (cX0_makeFoes_c (h := (sh h 29)) hw) ⟨rfl, rfl⟩ bw_248 calX0_makeFoes ⟨Nat.le_trans (Nat.le_of_ble_eq_true rfl) hF, Nat.le_trans (Nat.le_of_ble_eq_true rfl) hL⟩ (rest := []) (xpV hK (cut_X_F29) hP hD rfl rfl) rfl hl rfl (Nat.le_of_ble_eq_true rfl) dX5_mostInPeace_39 ⟨Nat.zero_le _, Nat.zero_le _⟩) (cut_X_F29) hP hD hS hA (fun u z3 H locs hz1 hw hP hD hS => ?_)
  have hw := hw z3 hz1
  refine lv_iload_n hx hb dX5_mostInPeace_42 rfl (lv_at hl 0 rfl) ?_
  exact hret _ _ _ _ _ _ hw hP hD hS dX5_mostInPeace_43
def wpX5_peace_112 (k32 : Int32 → Int32 → Int32 → (wXS) → Prop) (k51 : Int32 → Int32 → Int32 → Int32 → (wXS) → Prop) (post : Int32 → (wXS) → Prop) (x1 : Int32) (x2 : Int32) (x3 : Int32) (x4 : Int32) (z0 : wXS) : Prop := (k51 x1 x2 x3 (x4 + (1 : Int32)) z0)
def wpX5_peace_93 (k32 : Int32 → Int32 → Int32 → (wXS) → Prop) (k51 : Int32 → Int32 → Int32 → Int32 → (wXS) → Prop) (post : Int32 → (wXS) → Prop) (x1 : Int32) (x2 : Int32) (x3 : Int32) (x4 : Int32) (t0 : Int32) (z0 : wXS) : Prop := ((t0 ≤ x1 → (wpX5_peace_112 k32 k51 post x1 x2 x3 x4 z0)) ∧ (¬ t0 ≤ x1 → (wpX5_peace_112 k32 k51 post t0 (((10 : Int32) * x3) + x4) x3 x4 z0)))
def wpX5_peace_51 (k32 : Int32 → Int32 → Int32 → (wXS) → Prop) (k51 : Int32 → Int32 → Int32 → Int32 → (wXS) → Prop) (post : Int32 → (wXS) → Prop) (x1 : Int32) (x2 : Int32) (x3 : Int32) (x4 : Int32) (z0 : wXS) : Prop := (((w_i (w_f (x_w z0)) 4) ≤ x4 → (k32 x1 x2 (x3 + (1 : Int32)) z0)) ∧ (¬ (w_i (w_f (x_w z0)) 4) ≤ x4 → (wpX0_areFoes x3 x4 (w_f (x_w z0)) (fun r1 => ((r1 = 0 → (wpX5_peace_93 k32 k51 post x1 x2 x3 x4 (0 : Int32) z0)) ∧ (¬ r1 = 0 → (wpX5_mostInPeace x3 x4 z0 (fun r2 u => ∀ z1 : wXS, z1 = u → (wpX5_peace_93 k32 k51 post x1 x2 x3 x4 r2 z1)))))))))
def wpX5_peace_L51 (k32 : Int32 → Int32 → Int32 → (wXS) → Prop) (post : Int32 → (wXS) → Prop) : Nat → Int32 → Int32 → Int32 → Int32 → (wXS) → Prop
  | 0 => fun _ _ _ _ _ => False
  | n + 1 => fun x1 x2 x3 x4 z0 => wpX5_peace_51 k32 (wpX5_peace_L51 k32 post n) post x1 x2 x3 x4 z0
def wpX5_peace_32 (k32 : Int32 → Int32 → Int32 → (wXS) → Prop) (post : Int32 → (wXS) → Prop) (x1 : Int32) (x2 : Int32) (x3 : Int32) (z0 : wXS) : Prop := (((w_i (w_f (x_w z0)) 4) ≤ x3 → (post x2 z0)) ∧ (¬ (w_i (w_f (x_w z0)) 4) ≤ x3 → (∃ n, wpX5_peace_L51 k32 post n x1 x2 x3 (x3 + (1 : Int32)) z0)))
def wpX5_peace_L32  (post : Int32 → (wXS) → Prop) : Nat → Int32 → Int32 → Int32 → (wXS) → Prop
  | 0 => fun _ _ _ _ => False
  | n + 1 => fun x1 x2 x3 z0 => wpX5_peace_32  (wpX5_peace_L32  post n) post x1 x2 x3 z0
def wpX5_peace (z0 : wXS) (post : Int32 → (wXS) → Prop) : Prop := (wpX1_observe ((x_s z0), (x_w z0)) (fun u => ∀ z1 : wXS, z1 = (x_sw (x_ss z0 u.1) u.2) → (wpX1_mostIn (4 : Int32) (w_i (w_o (x_w z1)) 4) (x_s z1) (fun r1 u => ∀ z2 : wXS, z2 = (x_ss z1 u) → (∃ n, wpX5_peace_L32  post n r1 (-4 : Int32) (0 : Int32) z2)))))
set_option maxHeartbeats 4000000 in
set_option maxRecDepth 100000 in
theorem cX5_peace_c {l : Launch} {G : wG} {h : Nat → Nat} {sz : Nat}  {post : Int32 → (wXS) → Prop} {z0 : wXS}  (hw : wpX5_peace z0 post) : Met l yX5_peace (.code yX5_peace cX5_peace 6 (some .int) :: BIG) { frames := 52, cells := 0, slots := 0, locals := 1443 } (xPw G [.ref (h 0)] (wsX G h z0) sz) (xQi G post (fun q => (wsX G h q)) (va_A (wsX G h z0) sz)) 0 0 (va_A (wsX G h z0) sz) := by
  refine xm_wi (by decide) (Nat.le_of_ble_eq_true rfl) (fun p e s m args below meth c A ls R Q hC hK hA hP hD hS hl hF hL hret => ?_)
  have hx := hC.1
  have hb := hC.2.1
  have hl : lv_has ls 6 [(0, .ref (h 0))] := hl
  have B32 : ∀ n32 : Nat, ∀ (x1 : Int32) (x2 : Int32) (x3 : Int32) (z0 : wXS) (H : Heap) (locs : List Loc) (ls : Array Slot), wpX5_peace_L32  post n32 x1 x2 x3 z0 → va_P G.1 vwCl (wsX G h z0) H → va_D A (wsX G h z0) → va_S A s.heap H locs → lv_has ls 6 [(0, .ref (h 0)), (1, .int x1), (2, .int x2), (3, .int x3)] → W p l e R s m args below meth c H locs 0 0 Q (F0 m 32 ls []) := by
    intro n32
    induction n32 with
    | zero => intro x1 x2 x3 z0 H locs ls hw hP hD hS hl; exact False.elim hw
    | succ n32 I32 =>
      have B51 : ∀ n51 : Nat, ∀ (x1 : Int32) (x2 : Int32) (x3 : Int32) (x4 : Int32) (z0 : wXS) (H : Heap) (locs : List Loc) (ls : Array Slot), wpX5_peace_L51 (wpX5_peace_L32  post n32) post n51 x1 x2 x3 x4 z0 → va_P G.1 vwCl (wsX G h z0) H → va_D A (wsX G h z0) → va_S A s.heap H locs → lv_has ls 6 [(0, .ref (h 0)), (1, .int x1), (2, .int x2), (3, .int x3), (4, .int x4)] → W p l e R s m args below meth c H locs 0 0 Q (F0 m 51 ls []) := by
        intro n51
        induction n51 with
        | zero => intro x1 x2 x3 x4 z0 H locs ls hw hP hD hS hl; exact False.elim hw
        | succ n51 I51 =>
          have B112 : ∀ (x1 : Int32) (x2 : Int32) (x3 : Int32) (x4 : Int32) (z0 : wXS) (H : Heap) (locs : List Loc) (ls : Array Slot), wpX5_peace_112 (wpX5_peace_L32  post n32) (wpX5_peace_L51 (wpX5_peace_L32  post n32) post n51) post x1 x2 x3 x4 z0 → va_P G.1 vwCl (wsX G h z0) H → va_D A (wsX G h z0) → va_S A s.heap H locs → lv_has ls 6 [(0, .ref (h 0)), (1, .int x1), (2, .int x2), (3, .int x3), (4, .int x4)] → W p l e R s m args below meth c H locs 0 0 Q (F0 m 112 ls []) := by
            intro x1 x2 x3 x4 z0 H locs ls hw hP hD hS hl
            unfold wpX5_peace_112 at hw
            refine lv_iinc (v := (x4 + (1 : Int32))) (lv' := [(4, .int (x4 + (1 : Int32))), (0, .ref (h 0)), (1, .int x1), (2, .int x2), (3, .int x3)]) hx hb dX5_peace_112 hl (k := 4) rfl rfl (by decide) rfl (fun ls hl => ?_)
            refine lv_goto (tgt := 51) hx hb dX5_peace_115 (by decide) ?_
            exact I51 x1 x2 x3 (x4 + (1 : Int32)) z0 _ _ _ hw hP hD hS (lv_sub hl [1, 2, 3, 4, 0] rfl)
          have B93 : ∀ (x1 : Int32) (x2 : Int32) (x3 : Int32) (x4 : Int32) (t0 : Int32) (z0 : wXS) (H : Heap) (locs : List Loc) (ls : Array Slot), wpX5_peace_93 (wpX5_peace_L32  post n32) (wpX5_peace_L51 (wpX5_peace_L32  post n32) post n51) post x1 x2 x3 x4 t0 z0 → va_P G.1 vwCl (wsX G h z0) H → va_D A (wsX G h z0) → va_S A s.heap H locs → lv_has ls 6 [(0, .ref (h 0)), (1, .int x1), (2, .int x2), (3, .int x3), (4, .int x4)] → W p l e R s m args below meth c H locs 0 0 Q (F0 m 93 ls [.int t0]) := by
            intro x1 x2 x3 x4 t0 z0 H locs ls hw hP hD hS hl
            unfold wpX5_peace_93 at hw
            refine lv_istore (lv' := [(5, .int t0), (0, .ref (h 0)), (1, .int x1), (2, .int x2), (3, .int x3), (4, .int x4)]) hx hb dX5_peace_93 hl (by decide) rfl (fun ls hl => ?_)
            refine lv_iload hx hb dX5_peace_95 (lv_at hl 0 rfl) ?_
            refine lv_iload_n hx hb dX5_peace_97 rfl (lv_at hl 2 rfl) ?_
            refine lv_icmp_le (tgt := 112) hx hb dX5_peace_98 (by decide) (fun hc => ?_) (fun hc => ?_)
            · have hw := And.left hw hc
              exact B112 x1 x2 x3 x4 z0 _ _ _ hw hP hD hS (lv_sub hl [1, 2, 3, 4, 5] rfl)
            · have hw := And.right hw hc
              refine lv_iload hx hb dX5_peace_101 (lv_at hl 0 rfl) ?_
              refine lv_istore_n (lv' := [(1, .int t0), (5, .int t0), (0, .ref (h 0)), (2, .int x2), (3, .int x3), (4, .int x4)]) hx hb dX5_peace_103 rfl hl (by decide) rfl (fun ls hl => ?_)
              refine lv_bipush (v := (10 : Int32)) hx hb dX5_peace_104 (by decide) ?_
              refine lv_iload_n hx hb dX5_peace_106 rfl (lv_at hl 4 rfl) ?_
              refine lv_imul hx hb dX5_peace_107 ?_
              refine lv_iload hx hb dX5_peace_108 (lv_at hl 5 rfl) ?_
              refine lv_iadd hx hb dX5_peace_110 ?_
              refine lv_istore_n (lv' := [(2, .int (((10 : Int32) * x3) + x4)), (1, .int t0), (5, .int t0), (0, .ref (h 0)), (3, .int x3), (4, .int x4)]) hx hb dX5_peace_111 rfl hl (by decide) rfl (fun ls hl => ?_)
              exact B112 t0 (((10 : Int32) * x3) + x4) x3 x4 z0 _ _ _ hw hP hD hS (lv_sub hl [3, 1, 0, 4, 5] rfl)
          intro x1 x2 x3 x4 z0 H locs ls hw hP hD hS hl
          have hw : wpX5_peace_51 (wpX5_peace_L32  post n32) (wpX5_peace_L51 (wpX5_peace_L32  post n32) post n51) post x1 x2 x3 x4 z0 := hw
          unfold wpX5_peace_51 at hw
          refine lv_iload hx hb dX5_peace_51 (lv_at hl 4 rfl) ?_
          refine lv_aload_n hx hb dX5_peace_53 rfl (lv_at hl 0 rfl) ?_
          refine rg_X_X5_0_0 hC hK hP dX5_peace_54 ?_
          refine rg_X_X5_1_0 hC hK hP dX5_peace_57 ?_
          refine rg_X_X5_4_4 hC hK hP dX5_peace_60 ?_
          refine lv_icmp_ge (tgt := 118) hx hb dX5_peace_63 (by decide) (fun hc => ?_) (fun hc => ?_)
          · have hw := And.left hw hc
            refine lv_iinc (v := (x3 + (1 : Int32))) (lv' := [(3, .int (x3 + (1 : Int32))), (0, .ref (h 0)), (1, .int x1), (2, .int x2), (4, .int x4)]) hx hb dX5_peace_118 hl (k := 3) rfl rfl (by decide) rfl (fun ls hl => ?_)
            refine lv_goto (tgt := 32) hx hb dX5_peace_121 (by decide) ?_
            exact I32 x1 x2 (x3 + (1 : Int32)) z0 _ _ _ hw hP hD hS (lv_sub hl [1, 2, 3, 0] rfl)
          · have hw := And.right hw hc
            refine lv_aload_n hx hb dX5_peace_66 rfl (lv_at hl 0 rfl) ?_
            refine rg_X_X5_0_0 hC hK hP dX5_peace_67 ?_
            refine rg_X_X5_1_0 hC hK hP dX5_peace_70 ?_
            refine lv_iload_n hx hb dX5_peace_73 rfl (lv_at hl 3 rfl) ?_
            refine lv_iload hx hb dX5_peace_74 (lv_at hl 4 rfl) ?_
            refine vp_callSi (xro (xr_VN hC hK.2 (cX0_areFoes_c (h := (sh h 4)) hw) ⟨rfl, rfl⟩ bw_243 calX0_areFoes ⟨Nat.le_trans (Nat.le_of_ble_eq_true rfl) hF, Nat.le_trans (Nat.le_of_ble_eq_true rfl) hL⟩ (rest := []) (xpR hK (xCut.P (cut_X_F4) hP) rfl rfl) rfl hl rfl (Nat.le_of_ble_eq_true rfl) dX5_peace_76 ⟨Nat.zero_le _, Nat.zero_le _⟩)) (fun r1 hw => ?_)
            refine lv_if_eq (tgt := 92) hx hb dX5_peace_79 (by decide) (fun hc => ?_) (fun hc => ?_)
            · have hw := And.left hw hc
              refine lv_iconst (v := (0 : Int32)) hx hb dX5_peace_92 (by decide) ?_
              exact B93 x1 x2 x3 x4 (0 : Int32) z0 _ _ _ hw hP hD hS (lv_sub hl [0, 1, 2, 3, 4] rfl)
            · have hw := And.right hw hc
              refine lv_aload_n hx hb dX5_peace_82 rfl (lv_at hl 0 rfl) ?_
              refine lv_iload_n hx hb dX5_peace_83 rfl (lv_at hl 3 rfl) ?_
              refine lv_iload hx hb dX5_peace_84 (lv_at hl 4 rfl) ?_
              refine xc_wi (S := wXS) (wsz := fun q => (wsX G h q)) (f := fun u => u) (xr_V hC (cX5_mostInPeace_c (h := h) hw) ⟨rfl, rfl⟩ bw_460 calX5_mostInPeace ⟨Nat.le_trans (Nat.le_of_ble_eq_true rfl) hF, Nat.le_trans (Nat.le_of_ble_eq_true rfl) hL⟩ (rest := []) (xpV hK (cut_all_X) hP hD rfl rfl) rfl hl rfl (Nat.le_of_ble_eq_true rfl) dX5_peace_86 ⟨Nat.zero_le _, Nat.zero_le _⟩) (cut_all_X) hP hD hS hA (fun r2 u z1 H locs hz1 hw hP hD hS => ?_)
              have hw := hw z1 hz1
              refine lv_goto (tgt := 93) hx hb dX5_peace_89 (by decide) ?_
              exact B93 x1 x2 x3 x4 r2 z1 _ _ _ hw hP hD hS (lv_sub hl [0, 1, 2, 3, 4] rfl)
      intro x1 x2 x3 z0 H locs ls hw hP hD hS hl
      have hw : wpX5_peace_32  (wpX5_peace_L32  post n32) post x1 x2 x3 z0 := hw
      unfold wpX5_peace_32 at hw
      refine lv_iload_n hx hb dX5_peace_32 rfl (lv_at hl 3 rfl) ?_
      refine lv_aload_n hx hb dX5_peace_33 rfl (lv_at hl 0 rfl) ?_
      refine rg_X_X5_0_0 hC hK hP dX5_peace_34 ?_
      refine rg_X_X5_1_0 hC hK hP dX5_peace_37 ?_
      refine rg_X_X5_4_4 hC hK hP dX5_peace_40 ?_
      refine lv_icmp_ge (tgt := 124) hx hb dX5_peace_43 (by decide) (fun hc => ?_) (fun hc => ?_)
      · have hw := And.left hw hc
        refine lv_iload_n hx hb dX5_peace_124 rfl (lv_at hl 2 rfl) ?_
        exact hret _ _ _ _ _ _ hw hP hD hS dX5_peace_125
      · have hw := And.right hw hc
        refine lv_iload_n hx hb dX5_peace_46 rfl (lv_at hl 3 rfl) ?_
        refine lv_iconst (v := (1 : Int32)) hx hb dX5_peace_47 (by decide) ?_
        refine lv_iadd hx hb dX5_peace_48 ?_
        refine lv_istore (lv' := [(4, .int (x3 + (1 : Int32))), (0, .ref (h 0)), (1, .int x1), (2, .int x2), (3, .int x3)]) hx hb dX5_peace_49 hl (by decide) rfl (fun ls hl => ?_)
        obtain ⟨j51, hw⟩ := hw
        exact B51 j51 x1 x2 x3 (x3 + (1 : Int32)) z0 _ _ _ hw hP hD hS (lv_sub hl [1, 2, 3, 4, 0] rfl)
  unfold wpX5_peace at hw
  refine lv_aload_n hx hb dX5_peace_0 rfl (lv_at hl 0 rfl) ?_
  refine rg_X_X5_0_6 hC hK hP dX5_peace_1 ?_
  refine lv_aload_n hx hb dX5_peace_4 rfl (lv_at hl 0 rfl) ?_
  refine rg_X_X5_0_0 hC hK hP dX5_peace_5 ?_
  refine xc_wv (S := wP2 × wP2) (wsz := fun q => (wsX G h q)) (f := fun u => (x_sw (x_ss z0 u.1) u.2)) (xr_VN hC hK.2 (cX1_observe_c (h := (sh h 25)) (g := (sh h 1)) hw) ⟨rfl, rfl⟩ bw_420 calX1_observe ⟨Nat.le_trans (Nat.le_of_ble_eq_true rfl) hF, Nat.le_trans (Nat.le_of_ble_eq_true rfl) hL⟩ (rest := []) (xpV hK (cut_X_S25_W1) hP hD rfl rfl) rfl hl rfl (Nat.le_of_ble_eq_true rfl) dX5_peace_8 ⟨Nat.zero_le _, Nat.zero_le _⟩) (cut_X_S25_W1) hP hD hS hA (fun u z1 H locs hz1 hw hP hD hS => ?_)
  have hw := hw z1 hz1
  refine lv_aload_n hx hb dX5_peace_11 rfl (lv_at hl 0 rfl) ?_
  refine rg_X_X5_0_6 hC hK hP dX5_peace_12 ?_
  refine lv_iconst (v := (4 : Int32)) hx hb dX5_peace_15 (by decide) ?_
  refine lv_aload_n hx hb dX5_peace_16 rfl (lv_at hl 0 rfl) ?_
  refine rg_X_X5_0_0 hC hK hP dX5_peace_17 ?_
  refine rg_X_X5_1_4 hC hK hP dX5_peace_20 ?_
  refine xc_wi (S := wP2) (wsz := fun q => (wsX G h q)) (f := fun u => (x_ss z1 u)) (xr_VN hC hK.2 (cX1_mostIn_c (h := (sh h 25)) hw) ⟨rfl, rfl⟩ bw_426 calX1_mostIn ⟨Nat.le_trans (Nat.le_of_ble_eq_true rfl) hF, Nat.le_trans (Nat.le_of_ble_eq_true rfl) hL⟩ (rest := []) (xpV hK (cut_X_S25) hP hD rfl rfl) rfl hl rfl (Nat.le_of_ble_eq_true rfl) dX5_peace_23 ⟨Nat.zero_le _, Nat.zero_le _⟩) (cut_X_S25) hP hD hS hA (fun r1 u z2 H locs hz1 hw hP hD hS => ?_)
  have hw := hw z2 hz1
  refine lv_istore_n (lv' := [(1, .int r1), (0, .ref (h 0))]) hx hb dX5_peace_26 rfl hl (by decide) rfl (fun ls hl => ?_)
  refine lv_bipush (v := (-4 : Int32)) hx hb dX5_peace_27 (by decide) ?_
  refine lv_istore_n (lv' := [(2, .int (-4 : Int32)), (1, .int r1), (0, .ref (h 0))]) hx hb dX5_peace_29 rfl hl (by decide) rfl (fun ls hl => ?_)
  refine lv_iconst (v := (0 : Int32)) hx hb dX5_peace_30 (by decide) ?_
  refine lv_istore_n (lv' := [(3, .int (0 : Int32)), (2, .int (-4 : Int32)), (1, .int r1), (0, .ref (h 0))]) hx hb dX5_peace_31 rfl hl (by decide) rfl (fun ls hl => ?_)
  obtain ⟨j32, hw⟩ := hw
  exact B32 j32 r1 (-4 : Int32) (0 : Int32) z2 _ _ _ hw hP hD hS (lv_sub hl [3, 2, 1, 0] rfl)
def wpX5_gives (x1 : Int32) (x2 : Int32) (z0 : wXS) (post : Int32 → Prop) : Prop := (wpX0_has x1 (w_f (x_w z0)) (fun r1 => ((r1 = 0 → (post (-1 : Int32))) ∧ (¬ r1 = 0 → (wpX5_isMood x2 (fun r2 => ((¬ r2 = 0 → (wpX4_givesAt x1 x2 (x_w z0) (fun r3 => (post r3)))) ∧ (r2 = 0 → (post (-1 : Int32))))))))))
set_option maxHeartbeats 4000000 in
set_option maxRecDepth 100000 in
theorem cX5_gives_c {l : Launch} {G : wG} {h : Nat → Nat} {x1 : Int32} {x2 : Int32} {post : Int32 → Prop} {z0 : wXS}  (hw : wpX5_gives x1 x2 z0 post) : Met l yX5_gives (.code yX5_gives cX5_gives 3 (some .int) :: BIG) { frames := 3, cells := 0, slots := 0, locals := 67 } (xPr G [.ref (h 0), .int x1, .int x2] (wsX G h z0)) (vp_Si post) 0 0 (fun _ => False) := by
  refine xm_ri (by decide) (Nat.le_of_ble_eq_true rfl) (fun p e s m args below meth c ls R Q hC hK hP hl hF hL hret => ?_)
  have hx := hC.1
  have hb := hC.2.1
  have hl : lv_has ls 3 [(0, .ref (h 0)), (1, .int x1), (2, .int x2)] := hl
  unfold wpX5_gives at hw
  refine lv_aload_n hx hb dX5_gives_0 rfl (lv_at hl 0 rfl) ?_
  refine rg_X_X5_0_0 hC hK hP dX5_gives_1 ?_
  refine rg_X_X5_1_0 hC hK hP dX5_gives_4 ?_
  refine lv_iload_n hx hb dX5_gives_7 rfl (lv_at hl 1 rfl) ?_
  refine vp_callSi (xro (xr_VN hC hK.2 (cX0_has_c (h := (sh h 4)) hw) ⟨rfl, rfl⟩ bw_234 calX0_has ⟨Nat.le_trans (Nat.le_of_ble_eq_true rfl) hF, Nat.le_trans (Nat.le_of_ble_eq_true rfl) hL⟩ (rest := []) (xpR hK (xCut.P (cut_X_F4) hP) rfl rfl) rfl hl rfl (Nat.le_of_ble_eq_true rfl) dX5_gives_8 ⟨Nat.zero_le _, Nat.zero_le _⟩)) (fun r1 hw => ?_)
  refine lv_if_eq (tgt := 21) hx hb dX5_gives_11 (by decide) (fun hc => ?_) (fun hc => ?_)
  · have hw := And.left hw hc
    refine lv_iconst (v := (-1 : Int32)) hx hb dX5_gives_21 (by decide) ?_
    exact hret _ _ _ hw dX5_gives_22
  · have hw := And.right hw hc
    refine lv_iload_n hx hb dX5_gives_14 rfl (lv_at hl 2 rfl) ?_
    refine vp_callSi (xro (xr_S hC (cX5_isMood_c hw) ⟨rfl, rfl⟩ bw_256 calX5_isMood ⟨Nat.le_trans (Nat.le_of_ble_eq_true rfl) hF, Nat.le_trans (Nat.le_of_ble_eq_true rfl) hL⟩ (rest := []) (xpS hK) rfl hl rfl (Nat.le_of_ble_eq_true rfl) dX5_gives_15 ⟨Nat.zero_le _, Nat.zero_le _⟩)) (fun r2 hw => ?_)
    refine lv_if_ne (tgt := 23) hx hb dX5_gives_18 (by decide) (fun hc => ?_) (fun hc => ?_)
    · have hw := And.left hw hc
      refine lv_aload_n hx hb dX5_gives_23 rfl (lv_at hl 0 rfl) ?_
      refine rg_X_X5_0_0 hC hK hP dX5_gives_24 ?_
      refine lv_iload_n hx hb dX5_gives_27 rfl (lv_at hl 1 rfl) ?_
      refine lv_iload_n hx hb dX5_gives_28 rfl (lv_at hl 2 rfl) ?_
      refine vp_callSi (xro (xr_VN hC hK.2 (cX4_givesAt_c (h := (sh h 1)) hw) ⟨rfl, rfl⟩ bw_468 calX4_givesAt ⟨Nat.le_trans (Nat.le_of_ble_eq_true rfl) hF, Nat.le_trans (Nat.le_of_ble_eq_true rfl) hL⟩ (rest := []) (xpR hK (xCut.P (cut_X_W1) hP) rfl rfl) rfl hl rfl (Nat.le_of_ble_eq_true rfl) dX5_gives_29 ⟨Nat.zero_le _, Nat.zero_le _⟩)) (fun r3 hw => ?_)
      exact hret _ _ _ hw dX5_gives_32
    · have hw := And.right hw hc
      refine lv_iconst (v := (-1 : Int32)) hx hb dX5_gives_21 (by decide) ?_
      exact hret _ _ _ hw dX5_gives_22
def wpX5_stranger_84 (k38 : Int32 → Int32 → Int32 → Int32 → Int32 → Prop) (z0 : wXS) (post : Int32 → Prop) (x1 : Int32) (x2 : Int32) (x3 : Int32) (x4 : Int32) (x5 : Int32) : Prop := (k38 x1 x2 x3 x4 (x5 + (1 : Int32)))
def wpX5_stranger_38 (k38 : Int32 → Int32 → Int32 → Int32 → Int32 → Prop) (z0 : wXS) (post : Int32 → Prop) (x1 : Int32) (x2 : Int32) (x3 : Int32) (x4 : Int32) (x5 : Int32) : Prop := (((3 : Int32) < x5 → (post x4)) ∧ (¬ (3 : Int32) < x5 → (wpX5_asMood (x1 + x5) (fun r1 => (wpX5_waned r1 (fun r2 => (wpX0_pailsAt x2 r2 (w_f (x_w z0)) (fun r3 => ((¬ r3 = x3 → (wpX5_stranger_84 k38 z0 post x1 x2 x3 x4 x5)) ∧ (r3 = x3 → (wpX5_stranger_84 k38 z0 post x1 x2 x3 (x4 ||| ((1 : Int32) <<< ((x5 + (3 : Int32)) &&& 31))) x5)))))))))))
def wpX5_stranger_L38  (z0 : wXS) (post : Int32 → Prop) : Nat → Int32 → Int32 → Int32 → Int32 → Int32 → Prop
  | 0 => fun _ _ _ _ _ => False
  | n + 1 => fun x1 x2 x3 x4 x5 => wpX5_stranger_38  (wpX5_stranger_L38  z0 post n) z0 post x1 x2 x3 x4 x5
def wpX5_stranger (x1 : Int32) (x2 : Int32) (x3 : Int32) (z0 : wXS) (post : Int32 → Prop) : Prop := (wpX5_isMood x1 (fun r1 => ((r1 = 0 → (post (-1 : Int32))) ∧ (¬ r1 = 0 → (wpX0_has x2 (w_f (x_w z0)) (fun r2 => ((r2 = 0 → (post (-1 : Int32))) ∧ (¬ r2 = 0 → (wpX5_isPails (x3.toInt64) (fun r3 => ((¬ r3 = 0 → (∃ n, wpX5_stranger_L38  z0 post n x1 x2 x3 (0 : Int32) (-3 : Int32))) ∧ (r3 = 0 → (post (-1 : Int32))))))))))))))
set_option maxHeartbeats 4000000 in
set_option maxRecDepth 100000 in
theorem cX5_stranger_c {l : Launch} {G : wG} {h : Nat → Nat} {x1 : Int32} {x2 : Int32} {x3 : Int32} {post : Int32 → Prop} {z0 : wXS}  (hw : wpX5_stranger x1 x2 x3 z0 post) : Met l yX5_stranger (.code yX5_stranger cX5_stranger 7 (some .int) :: BIG) { frames := 2, cells := 0, slots := 0, locals := 44 } (xPr G [.ref (h 0), .int x1, .int x2, .int x3] (wsX G h z0)) (vp_Si post) 0 0 (fun _ => False) := by
  refine xm_ri (by decide) (Nat.le_of_ble_eq_true rfl) (fun p e s m args below meth c ls R Q hC hK hP hl hF hL hret => ?_)
  have hx := hC.1
  have hb := hC.2.1
  have hl : lv_has ls 7 [(0, .ref (h 0)), (1, .int x1), (2, .int x2), (3, .int x3)] := hl
  have B38 : ∀ n38 : Nat, ∀ (x1 : Int32) (x2 : Int32) (x3 : Int32) (x4 : Int32) (x5 : Int32) (ls : Array Slot), wpX5_stranger_L38  z0 post n38 x1 x2 x3 x4 x5 → lv_has ls 7 [(0, .ref (h 0)), (1, .int x1), (2, .int x2), (3, .int x3), (4, .int x4), (5, .int x5)] → W p l e R s m args below meth c s.heap [] 0 0 Q (F0 m 38 ls []) := by
    intro n38
    induction n38 with
    | zero => intro x1 x2 x3 x4 x5 ls hw hl; exact False.elim hw
    | succ n38 I38 =>
      have B84 : ∀ (x1 : Int32) (x2 : Int32) (x3 : Int32) (x4 : Int32) (x5 : Int32) (ls : Array Slot), wpX5_stranger_84 (wpX5_stranger_L38  z0 post n38) z0 post x1 x2 x3 x4 x5 → lv_has ls 7 [(0, .ref (h 0)), (1, .int x1), (2, .int x2), (3, .int x3), (4, .int x4), (5, .int x5)] → W p l e R s m args below meth c s.heap [] 0 0 Q (F0 m 84 ls []) := by
        intro x1 x2 x3 x4 x5 ls hw hl
        unfold wpX5_stranger_84 at hw
        refine lv_iinc (v := (x5 + (1 : Int32))) (lv' := [(5, .int (x5 + (1 : Int32))), (0, .ref (h 0)), (1, .int x1), (2, .int x2), (3, .int x3), (4, .int x4)]) hx hb dX5_stranger_84 hl (k := 5) rfl rfl (by decide) rfl (fun ls hl => ?_)
        refine lv_goto (tgt := 38) hx hb dX5_stranger_87 (by decide) ?_
        exact I38 x1 x2 x3 x4 (x5 + (1 : Int32)) _ hw (lv_sub hl [1, 2, 3, 4, 5, 0] rfl)
      intro x1 x2 x3 x4 x5 ls hw hl
      have hw : wpX5_stranger_38  (wpX5_stranger_L38  z0 post n38) z0 post x1 x2 x3 x4 x5 := hw
      unfold wpX5_stranger_38 at hw
      refine lv_iload hx hb dX5_stranger_38 (lv_at hl 5 rfl) ?_
      refine lv_iconst (v := (3 : Int32)) hx hb dX5_stranger_40 (by decide) ?_
      refine lv_icmp_gt (tgt := 90) hx hb dX5_stranger_41 (by decide) (fun hc => ?_) (fun hc => ?_)
      · have hw := And.left hw hc
        refine lv_iload hx hb dX5_stranger_90 (lv_at hl 4 rfl) ?_
        exact hret _ _ _ hw dX5_stranger_92
      · have hw := And.right hw hc
        refine lv_iload_n hx hb dX5_stranger_44 rfl (lv_at hl 1 rfl) ?_
        refine lv_iload hx hb dX5_stranger_45 (lv_at hl 5 rfl) ?_
        refine lv_iadd hx hb dX5_stranger_47 ?_
        refine vp_callSi (xro (xr_S hC (cX5_asMood_c hw) ⟨rfl, rfl⟩ bw_481 calX5_asMood ⟨Nat.le_trans (Nat.le_of_ble_eq_true rfl) hF, Nat.le_trans (Nat.le_of_ble_eq_true rfl) hL⟩ (rest := []) (xpS hK) rfl hl rfl (Nat.le_of_ble_eq_true rfl) dX5_stranger_48 ⟨Nat.zero_le _, Nat.zero_le _⟩)) (fun r1 hw => ?_)
        refine vp_callSi (xro (xr_S hC (cX5_waned_c hw) ⟨rfl, rfl⟩ bw_482 calX5_waned ⟨Nat.le_trans (Nat.le_of_ble_eq_true rfl) hF, Nat.le_trans (Nat.le_of_ble_eq_true rfl) hL⟩ (rest := []) (xpS hK) rfl hl rfl (Nat.le_of_ble_eq_true rfl) dX5_stranger_51 ⟨Nat.zero_le _, Nat.zero_le _⟩)) (fun r2 hw => ?_)
        refine lv_istore (lv' := [(6, .int r2), (0, .ref (h 0)), (1, .int x1), (2, .int x2), (3, .int x3), (4, .int x4), (5, .int x5)]) hx hb dX5_stranger_54 hl (by decide) rfl (fun ls hl => ?_)
        refine lv_aload_n hx hb dX5_stranger_56 rfl (lv_at hl 1 rfl) ?_
        refine rg_X_X5_0_0 hC hK hP dX5_stranger_57 ?_
        refine rg_X_X5_1_0 hC hK hP dX5_stranger_60 ?_
        refine lv_iload_n hx hb dX5_stranger_63 rfl (lv_at hl 3 rfl) ?_
        refine lv_iload hx hb dX5_stranger_64 (lv_at hl 0 rfl) ?_
        refine vp_callSi (xro (xr_VN hC hK.2 (cX0_pailsAt_c (h := (sh h 4)) hw) ⟨rfl, rfl⟩ bw_483 calX0_pailsAt ⟨Nat.le_trans (Nat.le_of_ble_eq_true rfl) hF, Nat.le_trans (Nat.le_of_ble_eq_true rfl) hL⟩ (rest := []) (xpR hK (xCut.P (cut_X_F4) hP) rfl rfl) rfl hl rfl (Nat.le_of_ble_eq_true rfl) dX5_stranger_66 ⟨Nat.zero_le _, Nat.zero_le _⟩)) (fun r3 hw => ?_)
        refine lv_iload_n hx hb dX5_stranger_69 rfl (lv_at hl 4 rfl) ?_
        refine lv_icmp_ne (tgt := 84) hx hb dX5_stranger_70 (by decide) (fun hc => ?_) (fun hc => ?_)
        · have hw := And.left hw hc
          exact B84 x1 x2 x3 x4 x5 _ hw (lv_sub hl [1, 2, 3, 4, 5, 6] rfl)
        · have hw := And.right hw hc
          refine lv_iload hx hb dX5_stranger_73 (lv_at hl 5 rfl) ?_
          refine lv_iconst (v := (1 : Int32)) hx hb dX5_stranger_75 (by decide) ?_
          refine lv_iload hx hb dX5_stranger_76 (lv_at hl 6 rfl) ?_
          refine lv_iconst (v := (3 : Int32)) hx hb dX5_stranger_78 (by decide) ?_
          refine lv_iadd hx hb dX5_stranger_79 ?_
          refine lv_ishl hx hb dX5_stranger_80 ?_
          refine lv_ior hx hb dX5_stranger_81 ?_
          refine lv_istore (lv' := [(4, .int (x4 ||| ((1 : Int32) <<< ((x5 + (3 : Int32)) &&& 31)))), (6, .int r2), (0, .ref (h 0)), (1, .int x1), (2, .int x2), (3, .int x3), (5, .int x5)]) hx hb dX5_stranger_82 hl (by decide) rfl (fun ls hl => ?_)
          exact B84 x1 x2 x3 (x4 ||| ((1 : Int32) <<< ((x5 + (3 : Int32)) &&& 31))) x5 _ hw (lv_sub hl [2, 3, 4, 5, 0, 6] rfl)
  unfold wpX5_stranger at hw
  refine lv_iload_n hx hb dX5_stranger_0 rfl (lv_at hl 1 rfl) ?_
  refine vp_callSi (xro (xr_S hC (cX5_isMood_c hw) ⟨rfl, rfl⟩ bw_256 calX5_isMood ⟨Nat.le_trans (Nat.le_of_ble_eq_true rfl) hF, Nat.le_trans (Nat.le_of_ble_eq_true rfl) hL⟩ (rest := []) (xpS hK) rfl hl rfl (Nat.le_of_ble_eq_true rfl) dX5_stranger_1 ⟨Nat.zero_le _, Nat.zero_le _⟩)) (fun r1 hw => ?_)
  refine lv_if_eq (tgt := 29) hx hb dX5_stranger_4 (by decide) (fun hc => ?_) (fun hc => ?_)
  · have hw := And.left hw hc
    refine lv_iconst (v := (-1 : Int32)) hx hb dX5_stranger_29 (by decide) ?_
    exact hret _ _ _ hw dX5_stranger_30
  · have hw := And.right hw hc
    refine lv_aload_n hx hb dX5_stranger_7 rfl (lv_at hl 0 rfl) ?_
    refine rg_X_X5_0_0 hC hK hP dX5_stranger_8 ?_
    refine rg_X_X5_1_0 hC hK hP dX5_stranger_11 ?_
    refine lv_iload_n hx hb dX5_stranger_14 rfl (lv_at hl 2 rfl) ?_
    refine vp_callSi (xro (xr_VN hC hK.2 (cX0_has_c (h := (sh h 4)) hw) ⟨rfl, rfl⟩ bw_234 calX0_has ⟨Nat.le_trans (Nat.le_of_ble_eq_true rfl) hF, Nat.le_trans (Nat.le_of_ble_eq_true rfl) hL⟩ (rest := []) (xpR hK (xCut.P (cut_X_F4) hP) rfl rfl) rfl hl rfl (Nat.le_of_ble_eq_true rfl) dX5_stranger_15 ⟨Nat.zero_le _, Nat.zero_le _⟩)) (fun r2 hw => ?_)
    refine lv_if_eq (tgt := 29) hx hb dX5_stranger_18 (by decide) (fun hc => ?_) (fun hc => ?_)
    · have hw := And.left hw hc
      refine lv_iconst (v := (-1 : Int32)) hx hb dX5_stranger_29 (by decide) ?_
      exact hret _ _ _ hw dX5_stranger_30
    · have hw := And.right hw hc
      refine lv_iload_n hx hb dX5_stranger_21 rfl (lv_at hl 3 rfl) ?_
      refine lv_i2l (v := (x3.toInt64)) hx hb dX5_stranger_22 rfl ?_
      refine vp_callSi (xro (xr_S hC (cX5_isPails_c hw) ⟨rfl, rfl⟩ bw_477 calX5_isPails ⟨Nat.le_trans (Nat.le_of_ble_eq_true rfl) hF, Nat.le_trans (Nat.le_of_ble_eq_true rfl) hL⟩ (rest := []) (xpS hK) rfl hl rfl (Nat.le_of_ble_eq_true rfl) dX5_stranger_23 ⟨Nat.zero_le _, Nat.zero_le _⟩)) (fun r3 hw => ?_)
      refine lv_if_ne (tgt := 31) hx hb dX5_stranger_26 (by decide) (fun hc => ?_) (fun hc => ?_)
      · have hw := And.left hw hc
        refine lv_iconst (v := (0 : Int32)) hx hb dX5_stranger_31 (by decide) ?_
        refine lv_istore (lv' := [(4, .int (0 : Int32)), (0, .ref (h 0)), (1, .int x1), (2, .int x2), (3, .int x3)]) hx hb dX5_stranger_32 hl (by decide) rfl (fun ls hl => ?_)
        refine lv_bipush (v := (-3 : Int32)) hx hb dX5_stranger_34 (by decide) ?_
        refine lv_istore (lv' := [(5, .int (-3 : Int32)), (4, .int (0 : Int32)), (0, .ref (h 0)), (1, .int x1), (2, .int x2), (3, .int x3)]) hx hb dX5_stranger_36 hl (by decide) rfl (fun ls hl => ?_)
        obtain ⟨j38, hw⟩ := hw
        exact B38 j38 x1 x2 x3 (0 : Int32) (-3 : Int32) _ hw (lv_sub hl [2, 3, 4, 5, 1, 0] rfl)
      · have hw := And.right hw hc
        refine lv_iconst (v := (-1 : Int32)) hx hb dX5_stranger_29 (by decide) ?_
        exact hret _ _ _ hw dX5_stranger_30
def wpX5_isTale (x1 : Int32) (x2 : Int32) (x3 : Int32) (z0 : wXS) (post : Int32 → Prop) : Prop := (wpX0_has x1 (w_f (x_w z0)) (fun r1 => ((r1 = 0 → (post (0 : Int32))) ∧ (¬ r1 = 0 → (wpX5_isMood x2 (fun r2 => ((r2 = 0 → (post (0 : Int32))) ∧ (¬ r2 = 0 → (wpX5_isPails (x3.toInt64) (fun r3 => ((r3 = 0 → (post (0 : Int32))) ∧ (¬ r3 = 0 → (post (1 : Int32))))))))))))))
set_option maxHeartbeats 4000000 in
set_option maxRecDepth 100000 in
theorem cX5_isTale_c {l : Launch} {G : wG} {h : Nat → Nat} {x1 : Int32} {x2 : Int32} {x3 : Int32} {post : Int32 → Prop} {z0 : wXS}  (hw : wpX5_isTale x1 x2 x3 z0 post) : Met l yX5_isTale (.code yX5_isTale cX5_isTale 4 (some .boolean) :: BIG) { frames := 2, cells := 0, slots := 0, locals := 42 } (xPr G [.ref (h 0), .int x1, .int x2, .int x3] (wsX G h z0)) (vp_Si post) 0 0 (fun _ => False) := by
  refine xm_rz (by decide) (Nat.le_of_ble_eq_true rfl) (fun p e s m args below meth c ls R Q hC hK hP hl hF hL hret => ?_)
  have hx := hC.1
  have hb := hC.2.1
  have hl : lv_has ls 4 [(0, .ref (h 0)), (1, .int x1), (2, .int x2), (3, .int x3)] := hl
  unfold wpX5_isTale at hw
  refine lv_aload_n hx hb dX5_isTale_0 rfl (lv_at hl 0 rfl) ?_
  refine rg_X_X5_0_0 hC hK hP dX5_isTale_1 ?_
  refine rg_X_X5_1_0 hC hK hP dX5_isTale_4 ?_
  refine lv_iload_n hx hb dX5_isTale_7 rfl (lv_at hl 1 rfl) ?_
  refine vp_callSi (xro (xr_VN hC hK.2 (cX0_has_c (h := (sh h 4)) hw) ⟨rfl, rfl⟩ bw_234 calX0_has ⟨Nat.le_trans (Nat.le_of_ble_eq_true rfl) hF, Nat.le_trans (Nat.le_of_ble_eq_true rfl) hL⟩ (rest := []) (xpR hK (xCut.P (cut_X_F4) hP) rfl rfl) rfl hl rfl (Nat.le_of_ble_eq_true rfl) dX5_isTale_8 ⟨Nat.zero_le _, Nat.zero_le _⟩)) (fun r1 hw => ?_)
  refine lv_if_eq (tgt := 33) hx hb dX5_isTale_11 (by decide) (fun hc => ?_) (fun hc => ?_)
  · have hw := And.left hw hc
    refine lv_iconst (v := (0 : Int32)) hx hb dX5_isTale_33 (by decide) ?_
    exact hret _ _ _ rfl hw dX5_isTale_34
  · have hw := And.right hw hc
    refine lv_iload_n hx hb dX5_isTale_14 rfl (lv_at hl 2 rfl) ?_
    refine vp_callSi (xro (xr_S hC (cX5_isMood_c hw) ⟨rfl, rfl⟩ bw_256 calX5_isMood ⟨Nat.le_trans (Nat.le_of_ble_eq_true rfl) hF, Nat.le_trans (Nat.le_of_ble_eq_true rfl) hL⟩ (rest := []) (xpS hK) rfl hl rfl (Nat.le_of_ble_eq_true rfl) dX5_isTale_15 ⟨Nat.zero_le _, Nat.zero_le _⟩)) (fun r2 hw => ?_)
    refine lv_if_eq (tgt := 33) hx hb dX5_isTale_18 (by decide) (fun hc => ?_) (fun hc => ?_)
    · have hw := And.left hw hc
      refine lv_iconst (v := (0 : Int32)) hx hb dX5_isTale_33 (by decide) ?_
      exact hret _ _ _ rfl hw dX5_isTale_34
    · have hw := And.right hw hc
      refine lv_iload_n hx hb dX5_isTale_21 rfl (lv_at hl 3 rfl) ?_
      refine lv_i2l (v := (x3.toInt64)) hx hb dX5_isTale_22 rfl ?_
      refine vp_callSi (xro (xr_S hC (cX5_isPails_c hw) ⟨rfl, rfl⟩ bw_477 calX5_isPails ⟨Nat.le_trans (Nat.le_of_ble_eq_true rfl) hF, Nat.le_trans (Nat.le_of_ble_eq_true rfl) hL⟩ (rest := []) (xpS hK) rfl hl rfl (Nat.le_of_ble_eq_true rfl) dX5_isTale_23 ⟨Nat.zero_le _, Nat.zero_le _⟩)) (fun r3 hw => ?_)
      refine lv_if_eq (tgt := 33) hx hb dX5_isTale_26 (by decide) (fun hc => ?_) (fun hc => ?_)
      · have hw := And.left hw hc
        refine lv_iconst (v := (0 : Int32)) hx hb dX5_isTale_33 (by decide) ?_
        exact hret _ _ _ rfl hw dX5_isTale_34
      · have hw := And.right hw hc
        refine lv_iconst (v := (1 : Int32)) hx hb dX5_isTale_29 (by decide) ?_
        refine lv_goto (tgt := 34) hx hb dX5_isTale_30 (by decide) ?_
        exact hret _ _ _ rfl hw dX5_isTale_34
def wpX5_liar_78  (z0 : wXS) (post : Int32 → Prop) (x7 : Int32) (t0 : Int32) : Prop := (post (x7 ||| t0))
def wpX5_liar_52  (z0 : wXS) (post : Int32 → Prop) (x4 : Int32) (x5 : Int32) (x6 : Int32) (t0 : Int32) : Prop := (wpX0_pailsAt x4 x5 (w_f (x_w z0)) (fun r1 => ((¬ r1 = x6 → (wpX5_liar_78  z0 post t0 (2 : Int32))) ∧ (r1 = x6 → (wpX5_liar_78  z0 post t0 (0 : Int32))))))
def wpX5_liar (x1 : Int32) (x2 : Int32) (x3 : Int32) (x4 : Int32) (x5 : Int32) (x6 : Int32) (z0 : wXS) (post : Int32 → Prop) : Prop := (wpX5_isTale x1 x2 x3 z0 (fun r1 => ((r1 = 0 → (post (-1 : Int32))) ∧ (¬ r1 = 0 → (wpX5_isTale x4 x5 x6 z0 (fun r2 => ((r2 = 0 → (post (-1 : Int32))) ∧ (¬ r2 = 0 → ((¬ x1 = x4 → (wpX0_pailsAt x1 x2 (w_f (x_w z0)) (fun r3 => ((¬ r3 = x3 → (wpX5_liar_52  z0 post x4 x5 x6 (1 : Int32))) ∧ (r3 = x3 → (wpX5_liar_52  z0 post x4 x5 x6 (0 : Int32))))))) ∧ (x1 = x4 → (post (-1 : Int32))))))))))))
set_option maxHeartbeats 4000000 in
set_option maxRecDepth 100000 in
theorem cX5_liar_c {l : Launch} {G : wG} {h : Nat → Nat} {x1 : Int32} {x2 : Int32} {x3 : Int32} {x4 : Int32} {x5 : Int32} {x6 : Int32} {post : Int32 → Prop} {z0 : wXS}  (hw : wpX5_liar x1 x2 x3 x4 x5 x6 z0 post) : Met l yX5_liar (.code yX5_liar cX5_liar 9 (some .int) :: BIG) { frames := 3, cells := 0, slots := 0, locals := 65 } (xPr G [.ref (h 0), .int x1, .int x2, .int x3, .int x4, .int x5, .int x6] (wsX G h z0)) (vp_Si post) 0 0 (fun _ => False) := by
  refine xm_ri (by decide) (Nat.le_of_ble_eq_true rfl) (fun p e s m args below meth c ls R Q hC hK hP hl hF hL hret => ?_)
  have hx := hC.1
  have hb := hC.2.1
  have hl : lv_has ls 9 [(0, .ref (h 0)), (1, .int x1), (2, .int x2), (3, .int x3), (4, .int x4), (5, .int x5), (6, .int x6)] := hl
  have B78 : ∀ (x7 : Int32) (t0 : Int32) (ls : Array Slot), wpX5_liar_78  z0 post x7 t0 → lv_has ls 9 [(7, .int x7)] → W p l e R s m args below meth c s.heap [] 0 0 Q (F0 m 78 ls [.int t0]) := by
    intro x7 t0 ls hw hl
    unfold wpX5_liar_78 at hw
    refine lv_istore (lv' := [(8, .int t0), (7, .int x7)]) hx hb dX5_liar_78 hl (by decide) rfl (fun ls hl => ?_)
    refine lv_iload hx hb dX5_liar_80 (lv_at hl 1 rfl) ?_
    refine lv_iload hx hb dX5_liar_82 (lv_at hl 0 rfl) ?_
    refine lv_ior hx hb dX5_liar_84 ?_
    exact hret _ _ _ hw dX5_liar_85
  have B52 : ∀ (x4 : Int32) (x5 : Int32) (x6 : Int32) (t0 : Int32) (ls : Array Slot), wpX5_liar_52  z0 post x4 x5 x6 t0 → lv_has ls 9 [(0, .ref (h 0)), (4, .int x4), (5, .int x5), (6, .int x6)] → W p l e R s m args below meth c s.heap [] 0 0 Q (F0 m 52 ls [.int t0]) := by
    intro x4 x5 x6 t0 ls hw hl
    unfold wpX5_liar_52 at hw
    refine lv_istore (lv' := [(7, .int t0), (0, .ref (h 0)), (4, .int x4), (5, .int x5), (6, .int x6)]) hx hb dX5_liar_52 hl (by decide) rfl (fun ls hl => ?_)
    refine lv_aload_n hx hb dX5_liar_54 rfl (lv_at hl 1 rfl) ?_
    refine rg_X_X5_0_0 hC hK hP dX5_liar_55 ?_
    refine rg_X_X5_1_0 hC hK hP dX5_liar_58 ?_
    refine lv_iload hx hb dX5_liar_61 (lv_at hl 2 rfl) ?_
    refine lv_iload hx hb dX5_liar_63 (lv_at hl 3 rfl) ?_
    refine vp_callSi (xro (xr_VN hC hK.2 (cX0_pailsAt_c (h := (sh h 4)) hw) ⟨rfl, rfl⟩ bw_483 calX0_pailsAt ⟨Nat.le_trans (Nat.le_of_ble_eq_true rfl) hF, Nat.le_trans (Nat.le_of_ble_eq_true rfl) hL⟩ (rest := []) (xpR hK (xCut.P (cut_X_F4) hP) rfl rfl) rfl hl rfl (Nat.le_of_ble_eq_true rfl) dX5_liar_65 ⟨Nat.zero_le _, Nat.zero_le _⟩)) (fun r1 hw => ?_)
    refine lv_iload hx hb dX5_liar_68 (lv_at hl 4 rfl) ?_
    refine lv_icmp_ne (tgt := 77) hx hb dX5_liar_70 (by decide) (fun hc => ?_) (fun hc => ?_)
    · have hw := And.left hw hc
      refine lv_iconst (v := (2 : Int32)) hx hb dX5_liar_77 (by decide) ?_
      exact B78 t0 (2 : Int32) _ hw (lv_sub hl [0] rfl)
    · have hw := And.right hw hc
      refine lv_iconst (v := (0 : Int32)) hx hb dX5_liar_73 (by decide) ?_
      refine lv_goto (tgt := 78) hx hb dX5_liar_74 (by decide) ?_
      exact B78 t0 (0 : Int32) _ hw (lv_sub hl [0] rfl)
  unfold wpX5_liar at hw
  refine lv_aload_n hx hb dX5_liar_0 rfl (lv_at hl 0 rfl) ?_
  refine lv_iload_n hx hb dX5_liar_1 rfl (lv_at hl 1 rfl) ?_
  refine lv_iload_n hx hb dX5_liar_2 rfl (lv_at hl 2 rfl) ?_
  refine lv_iload_n hx hb dX5_liar_3 rfl (lv_at hl 3 rfl) ?_
  refine vp_callSi (xro (xr_V hC (cX5_isTale_c (h := h) hw) ⟨rfl, rfl⟩ bw_488 calX5_isTale ⟨Nat.le_trans (Nat.le_of_ble_eq_true rfl) hF, Nat.le_trans (Nat.le_of_ble_eq_true rfl) hL⟩ (rest := []) (xpR hK hP rfl rfl) rfl hl rfl (Nat.le_of_ble_eq_true rfl) dX5_liar_4 ⟨Nat.zero_le _, Nat.zero_le _⟩)) (fun r1 hw => ?_)
  refine lv_if_eq (tgt := 29) hx hb dX5_liar_7 (by decide) (fun hc => ?_) (fun hc => ?_)
  · have hw := And.left hw hc
    refine lv_iconst (v := (-1 : Int32)) hx hb dX5_liar_29 (by decide) ?_
    exact hret _ _ _ hw dX5_liar_30
  · have hw := And.right hw hc
    refine lv_aload_n hx hb dX5_liar_10 rfl (lv_at hl 0 rfl) ?_
    refine lv_iload hx hb dX5_liar_11 (lv_at hl 4 rfl) ?_
    refine lv_iload hx hb dX5_liar_13 (lv_at hl 5 rfl) ?_
    refine lv_iload hx hb dX5_liar_15 (lv_at hl 6 rfl) ?_
    refine vp_callSi (xro (xr_V hC (cX5_isTale_c (h := h) hw) ⟨rfl, rfl⟩ bw_488 calX5_isTale ⟨Nat.le_trans (Nat.le_of_ble_eq_true rfl) hF, Nat.le_trans (Nat.le_of_ble_eq_true rfl) hL⟩ (rest := []) (xpR hK hP rfl rfl) rfl hl rfl (Nat.le_of_ble_eq_true rfl) dX5_liar_17 ⟨Nat.zero_le _, Nat.zero_le _⟩)) (fun r2 hw => ?_)
    refine lv_if_eq (tgt := 29) hx hb dX5_liar_20 (by decide) (fun hc => ?_) (fun hc => ?_)
    · have hw := And.left hw hc
      refine lv_iconst (v := (-1 : Int32)) hx hb dX5_liar_29 (by decide) ?_
      exact hret _ _ _ hw dX5_liar_30
    · have hw := And.right hw hc
      refine lv_iload_n hx hb dX5_liar_23 rfl (lv_at hl 1 rfl) ?_
      refine lv_iload hx hb dX5_liar_24 (lv_at hl 4 rfl) ?_
      refine lv_icmp_ne (tgt := 31) hx hb dX5_liar_26 (by decide) (fun hc => ?_) (fun hc => ?_)
      · have hw := And.left hw hc
        refine lv_aload_n hx hb dX5_liar_31 rfl (lv_at hl 0 rfl) ?_
        refine rg_X_X5_0_0 hC hK hP dX5_liar_32 ?_
        refine rg_X_X5_1_0 hC hK hP dX5_liar_35 ?_
        refine lv_iload_n hx hb dX5_liar_38 rfl (lv_at hl 1 rfl) ?_
        refine lv_iload_n hx hb dX5_liar_39 rfl (lv_at hl 2 rfl) ?_
        refine vp_callSi (xro (xr_VN hC hK.2 (cX0_pailsAt_c (h := (sh h 4)) hw) ⟨rfl, rfl⟩ bw_483 calX0_pailsAt ⟨Nat.le_trans (Nat.le_of_ble_eq_true rfl) hF, Nat.le_trans (Nat.le_of_ble_eq_true rfl) hL⟩ (rest := []) (xpR hK (xCut.P (cut_X_F4) hP) rfl rfl) rfl hl rfl (Nat.le_of_ble_eq_true rfl) dX5_liar_40 ⟨Nat.zero_le _, Nat.zero_le _⟩)) (fun r3 hw => ?_)
        refine lv_iload_n hx hb dX5_liar_43 rfl (lv_at hl 3 rfl) ?_
        refine lv_icmp_ne (tgt := 51) hx hb dX5_liar_44 (by decide) (fun hc => ?_) (fun hc => ?_)
        · have hw := And.left hw hc
          refine lv_iconst (v := (1 : Int32)) hx hb dX5_liar_51 (by decide) ?_
          exact B52 x4 x5 x6 (1 : Int32) _ hw (lv_sub hl [0, 4, 5, 6] rfl)
        · have hw := And.right hw hc
          refine lv_iconst (v := (0 : Int32)) hx hb dX5_liar_47 (by decide) ?_
          refine lv_goto (tgt := 52) hx hb dX5_liar_48 (by decide) ?_
          exact B52 x4 x5 x6 (0 : Int32) _ hw (lv_sub hl [0, 4, 5, 6] rfl)
      · have hw := And.right hw hc
        refine lv_iconst (v := (-1 : Int32)) hx hb dX5_liar_29 (by decide) ?_
        exact hret _ _ _ hw dX5_liar_30
def wpX5_other (x1 : Int32) (z0 : wXS) (post : Int32 → (wXS) → Prop) : Prop := (wpX5_within x1 (1 : Int32) (5 : Int32) (fun r1 => ((r1 = 0 → (post (-1 : Int32) z0)) ∧ (¬ r1 = 0 → (wpX5_mostFrom (-(w_i (w_o (x_w z0)) 4)) x1 z0 (fun r2 u => ∀ z1 : wXS, z1 = u → (post r2 z1)))))))
set_option maxHeartbeats 4000000 in
set_option maxRecDepth 100000 in
theorem cX5_other_c {l : Launch} {G : wG} {h : Nat → Nat} {sz : Nat} {x1 : Int32} {post : Int32 → (wXS) → Prop} {z0 : wXS}  (hw : wpX5_other x1 z0 post) : Met l yX5_other (.code yX5_other cX5_other 2 (some .int) :: BIG) { frames := 52, cells := 0, slots := 0, locals := 1442 } (xPw G [.ref (h 0), .int x1] (wsX G h z0) sz) (xQi G post (fun q => (wsX G h q)) (va_A (wsX G h z0) sz)) 0 0 (va_A (wsX G h z0) sz) := by
  refine xm_wi (by decide) (Nat.le_of_ble_eq_true rfl) (fun p e s m args below meth c A ls R Q hC hK hA hP hD hS hl hF hL hret => ?_)
  have hx := hC.1
  have hb := hC.2.1
  have hl : lv_has ls 2 [(0, .ref (h 0)), (1, .int x1)] := hl
  unfold wpX5_other at hw
  refine lv_iload_n hx hb dX5_other_0 rfl (lv_at hl 1 rfl) ?_
  refine lv_iconst (v := (1 : Int32)) hx hb dX5_other_1 (by decide) ?_
  refine lv_iconst (v := (5 : Int32)) hx hb dX5_other_2 (by decide) ?_
  refine vp_callSi (xro (xr_S hC (cX5_within_c hw) ⟨rfl, rfl⟩ bw_223 calX5_within ⟨Nat.le_trans (Nat.le_of_ble_eq_true rfl) hF, Nat.le_trans (Nat.le_of_ble_eq_true rfl) hL⟩ (rest := []) (xpS hK) rfl hl rfl (Nat.le_of_ble_eq_true rfl) dX5_other_3 ⟨Nat.zero_le _, Nat.zero_le _⟩)) (fun r1 hw => ?_)
  refine lv_if_eq (tgt := 25) hx hb dX5_other_6 (by decide) (fun hc => ?_) (fun hc => ?_)
  · have hw := And.left hw hc
    refine lv_iconst (v := (-1 : Int32)) hx hb dX5_other_25 (by decide) ?_
    exact hret _ _ _ _ _ _ hw hP hD hS dX5_other_26
  · have hw := And.right hw hc
    refine lv_aload_n hx hb dX5_other_9 rfl (lv_at hl 0 rfl) ?_
    refine lv_aload_n hx hb dX5_other_10 rfl (lv_at hl 0 rfl) ?_
    refine rg_X_X5_0_0 hC hK hP dX5_other_11 ?_
    refine rg_X_X5_1_4 hC hK hP dX5_other_14 ?_
    refine lv_ineg hx hb dX5_other_17 ?_
    refine lv_iload_n hx hb dX5_other_18 rfl (lv_at hl 1 rfl) ?_
    refine xc_wi (S := wXS) (wsz := fun q => (wsX G h q)) (f := fun u => u) (xr_V hC (cX5_mostFrom_c (h := h) hw) ⟨rfl, rfl⟩ bw_416 calX5_mostFrom ⟨Nat.le_trans (Nat.le_of_ble_eq_true rfl) hF, Nat.le_trans (Nat.le_of_ble_eq_true rfl) hL⟩ (rest := []) (xpV hK (cut_all_X) hP hD rfl rfl) rfl hl rfl (Nat.le_of_ble_eq_true rfl) dX5_other_19 ⟨Nat.zero_le _, Nat.zero_le _⟩) (cut_all_X) hP hD hS hA (fun r2 u z1 H locs hz1 hw hP hD hS => ?_)
    have hw := hw z1 hz1
    refine lv_goto (tgt := 26) hx hb dX5_other_22 (by decide) ?_
    exact hret _ _ _ _ _ _ hw hP hD hS dX5_other_26
def wpX5_drawn_30 (k30 : Int32 → Int32 → Int32 → (wXS) → Prop) (post : Int32 → (wXS) → Prop) (x1 : Int32) (x2 : Int32) (x3 : Int32) (z0 : wXS) : Prop := ((x1 ≤ x3 → (post x2 z0)) ∧ (¬ x1 ≤ x3 → (wpX4_lot (x_w z0) (fun r1 u => ∀ z1 : wXS, z1 = (x_sw z0 u) → (wpX4_passHour r1 (x_w z1) (fun r2 u => ∀ z2 : wXS, z2 = (x_sw z1 u) → (k30 x1 (x2 + r2) (x3 + (1 : Int32)) z2)))))))
def wpX5_drawn_L30  (post : Int32 → (wXS) → Prop) : Nat → Int32 → Int32 → Int32 → (wXS) → Prop
  | 0 => fun _ _ _ _ => False
  | n + 1 => fun x1 x2 x3 z0 => wpX5_drawn_30  (wpX5_drawn_L30  post n) post x1 x2 x3 z0
def wpX5_drawn (x1 : Int32) (z0 : wXS) (post : Int32 → (wXS) → Prop) : Prop := (wpX5_within x1 (1 : Int32) (60 : Int32) (fun r1 => ((¬ r1 = 0 → (wpX4_hasHours x1 (x_w z0) (fun r2 => ((¬ r2 = 0 → (∃ n, wpX5_drawn_L30  post n x1 (0 : Int32) (0 : Int32) z0)) ∧ (r2 = 0 → (post (-3 : Int32) z0)))))) ∧ (r1 = 0 → (post (-1 : Int32) z0)))))
set_option maxHeartbeats 4000000 in
set_option maxRecDepth 100000 in
theorem cX5_drawn_c {l : Launch} {G : wG} {h : Nat → Nat} {sz : Nat} {x1 : Int32} {post : Int32 → (wXS) → Prop} {z0 : wXS}  (hw : wpX5_drawn x1 z0 post) : Met l yX5_drawn (.code yX5_drawn cX5_drawn 4 (some .int) :: BIG) { frames := 5, cells := 0, slots := 0, locals := 112 } (xPw G [.ref (h 0), .int x1] (wsX G h z0) sz) (xQi G post (fun q => (wsX G h q)) (va_A (wsX G h z0) sz)) 0 0 (va_A (wsX G h z0) sz) := by
  refine xm_wi (by decide) (Nat.le_of_ble_eq_true rfl) (fun p e s m args below meth c A ls R Q hC hK hA hP hD hS hl hF hL hret => ?_)
  have hx := hC.1
  have hb := hC.2.1
  have hl : lv_has ls 4 [(0, .ref (h 0)), (1, .int x1)] := hl
  have B30 : ∀ n30 : Nat, ∀ (x1 : Int32) (x2 : Int32) (x3 : Int32) (z0 : wXS) (H : Heap) (locs : List Loc) (ls : Array Slot), wpX5_drawn_L30  post n30 x1 x2 x3 z0 → va_P G.1 vwCl (wsX G h z0) H → va_D A (wsX G h z0) → va_S A s.heap H locs → lv_has ls 4 [(0, .ref (h 0)), (1, .int x1), (2, .int x2), (3, .int x3)] → W p l e R s m args below meth c H locs 0 0 Q (F0 m 30 ls []) := by
    intro n30
    induction n30 with
    | zero => intro x1 x2 x3 z0 H locs ls hw hP hD hS hl; exact False.elim hw
    | succ n30 I30 =>
      intro x1 x2 x3 z0 H locs ls hw hP hD hS hl
      have hw : wpX5_drawn_30  (wpX5_drawn_L30  post n30) post x1 x2 x3 z0 := hw
      unfold wpX5_drawn_30 at hw
      refine lv_iload_n hx hb dX5_drawn_30 rfl (lv_at hl 3 rfl) ?_
      refine lv_iload_n hx hb dX5_drawn_31 rfl (lv_at hl 1 rfl) ?_
      refine lv_icmp_ge (tgt := 58) hx hb dX5_drawn_32 (by decide) (fun hc => ?_) (fun hc => ?_)
      · have hw := And.left hw hc
        refine lv_iload_n hx hb dX5_drawn_58 rfl (lv_at hl 2 rfl) ?_
        exact hret _ _ _ _ _ _ hw hP hD hS dX5_drawn_59
      · have hw := And.right hw hc
        refine lv_iload_n hx hb dX5_drawn_35 rfl (lv_at hl 2 rfl) ?_
        refine lv_aload_n hx hb dX5_drawn_36 rfl (lv_at hl 0 rfl) ?_
        refine rg_X_X5_0_0 hC hK hP dX5_drawn_37 ?_
        refine lv_aload_n hx hb dX5_drawn_40 rfl (lv_at hl 0 rfl) ?_
        refine rg_X_X5_0_0 hC hK hP dX5_drawn_41 ?_
        refine xc_wi (S := wP2) (wsz := fun q => (wsX G h q)) (f := fun u => (x_sw z0 u)) (xr_VN hC hK.2 (cX4_lot_c (h := (sh h 1)) hw) ⟨rfl, rfl⟩ bw_500 calX4_lot ⟨Nat.le_trans (Nat.le_of_ble_eq_true rfl) hF, Nat.le_trans (Nat.le_of_ble_eq_true rfl) hL⟩ (rest := [.ref (h 1), .int x2]) (xpV hK (cut_X_W1) hP hD rfl rfl) rfl hl rfl (Nat.le_of_ble_eq_true rfl) dX5_drawn_44 ⟨Nat.zero_le _, Nat.zero_le _⟩) (cut_X_W1) hP hD hS hA (fun r1 u z1 H locs hz1 hw hP hD hS => ?_)
        have hw := hw z1 hz1
        refine xc_wi (S := wP2) (wsz := fun q => (wsX G h q)) (f := fun u => (x_sw z1 u)) (xr_VN hC hK.2 (cX4_passHour_c (h := (sh h 1)) hw) ⟨rfl, rfl⟩ bw_350 calX4_passHour ⟨Nat.le_trans (Nat.le_of_ble_eq_true rfl) hF, Nat.le_trans (Nat.le_of_ble_eq_true rfl) hL⟩ (rest := [.int x2]) (xpV hK (cut_X_W1) hP hD rfl rfl) rfl hl rfl (Nat.le_of_ble_eq_true rfl) dX5_drawn_47 ⟨Nat.zero_le _, Nat.zero_le _⟩) (cut_X_W1) hP hD hS hA (fun r2 u z2 H locs hz1 hw hP hD hS => ?_)
        have hw := hw z2 hz1
        refine lv_iadd hx hb dX5_drawn_50 ?_
        refine lv_istore_n (lv' := [(2, .int (x2 + r2)), (0, .ref (h 0)), (1, .int x1), (3, .int x3)]) hx hb dX5_drawn_51 rfl hl (by decide) rfl (fun ls hl => ?_)
        refine lv_iinc (v := (x3 + (1 : Int32))) (lv' := [(3, .int (x3 + (1 : Int32))), (2, .int (x2 + r2)), (0, .ref (h 0)), (1, .int x1)]) hx hb dX5_drawn_52 hl (k := 3) rfl rfl (by decide) rfl (fun ls hl => ?_)
        refine lv_goto (tgt := 30) hx hb dX5_drawn_55 (by decide) ?_
        exact I30 x1 (x2 + r2) (x3 + (1 : Int32)) z2 _ _ _ hw hP hD hS (lv_sub hl [2, 3, 1, 0] rfl)
  unfold wpX5_drawn at hw
  refine lv_iload_n hx hb dX5_drawn_0 rfl (lv_at hl 1 rfl) ?_
  refine lv_iconst (v := (1 : Int32)) hx hb dX5_drawn_1 (by decide) ?_
  refine lv_bipush (v := (60 : Int32)) hx hb dX5_drawn_2 (by decide) ?_
  refine vp_callSi (xro (xr_S hC (cX5_within_c hw) ⟨rfl, rfl⟩ bw_223 calX5_within ⟨Nat.le_trans (Nat.le_of_ble_eq_true rfl) hF, Nat.le_trans (Nat.le_of_ble_eq_true rfl) hL⟩ (rest := []) (xpS hK) rfl hl rfl (Nat.le_of_ble_eq_true rfl) dX5_drawn_4 ⟨Nat.zero_le _, Nat.zero_le _⟩)) (fun r1 hw => ?_)
  refine lv_if_ne (tgt := 12) hx hb dX5_drawn_7 (by decide) (fun hc => ?_) (fun hc => ?_)
  · have hw := And.left hw hc
    refine lv_aload_n hx hb dX5_drawn_12 rfl (lv_at hl 0 rfl) ?_
    refine rg_X_X5_0_0 hC hK hP dX5_drawn_13 ?_
    refine lv_iload_n hx hb dX5_drawn_16 rfl (lv_at hl 1 rfl) ?_
    refine vp_callSi (xro (xr_VN hC hK.2 (cX4_hasHours_c (h := (sh h 1)) hw) ⟨rfl, rfl⟩ bw_346 calX4_hasHours ⟨Nat.le_trans (Nat.le_of_ble_eq_true rfl) hF, Nat.le_trans (Nat.le_of_ble_eq_true rfl) hL⟩ (rest := []) (xpR hK (xCut.P (cut_X_W1) hP) rfl rfl) rfl hl rfl (Nat.le_of_ble_eq_true rfl) dX5_drawn_17 ⟨Nat.zero_le _, Nat.zero_le _⟩)) (fun r2 hw => ?_)
    refine lv_if_ne (tgt := 26) hx hb dX5_drawn_20 (by decide) (fun hc => ?_) (fun hc => ?_)
    · have hw := And.left hw hc
      refine lv_iconst (v := (0 : Int32)) hx hb dX5_drawn_26 (by decide) ?_
      refine lv_istore_n (lv' := [(2, .int (0 : Int32)), (0, .ref (h 0)), (1, .int x1)]) hx hb dX5_drawn_27 rfl hl (by decide) rfl (fun ls hl => ?_)
      refine lv_iconst (v := (0 : Int32)) hx hb dX5_drawn_28 (by decide) ?_
      refine lv_istore_n (lv' := [(3, .int (0 : Int32)), (2, .int (0 : Int32)), (0, .ref (h 0)), (1, .int x1)]) hx hb dX5_drawn_29 rfl hl (by decide) rfl (fun ls hl => ?_)
      obtain ⟨j30, hw⟩ := hw
      exact B30 j30 x1 (0 : Int32) (0 : Int32) z0 _ _ _ hw hP hD hS (lv_sub hl [2, 3, 1, 0] rfl)
    · have hw := And.right hw hc
      refine lv_bipush (v := (-3 : Int32)) hx hb dX5_drawn_23 (by decide) ?_
      exact hret _ _ _ _ _ _ hw hP hD hS dX5_drawn_25
  · have hw := And.right hw hc
    refine lv_iconst (v := (-1 : Int32)) hx hb dX5_drawn_10 (by decide) ?_
    exact hret _ _ _ _ _ _ hw hP hD hS dX5_drawn_11
def wpX5_seed (x1 : Int32) (z0 : wXS) (post : Int32 → (wXS) → Prop) : Prop := ((0 ≤ x1 → (∀ z1 : wXS, z1 = (x_sw z0 (w_so (x_w z0) (w_si (w_o (x_w z0)) 11 x1))) → (post (w_i (w_o (x_w z0)) 11) z1))) ∧ (¬ 0 ≤ x1 → (post (-1 : Int32) z0)))
set_option maxHeartbeats 4000000 in
set_option maxRecDepth 100000 in
theorem cX5_seed_c {l : Launch} {G : wG} {h : Nat → Nat} {sz : Nat} {x1 : Int32} {post : Int32 → (wXS) → Prop} {z0 : wXS}  (hw : wpX5_seed x1 z0 post) : Met l yX5_seed (.code yX5_seed cX5_seed 3 (some .int) :: BIG) { frames := 0, cells := 0, slots := 0, locals := 0 } (xPw G [.ref (h 0), .int x1] (wsX G h z0) sz) (xQi G post (fun q => (wsX G h q)) (va_A (wsX G h z0) sz)) 0 0 (va_A (wsX G h z0) sz) := by
  refine xm_wi (by decide) (Nat.le_of_ble_eq_true rfl) (fun p e s m args below meth c A ls R Q hC hK hA hP hD hS hl hF hL hret => ?_)
  have hx := hC.1
  have hb := hC.2.1
  have hl : lv_has ls 3 [(0, .ref (h 0)), (1, .int x1)] := hl
  unfold wpX5_seed at hw
  refine lv_iload_n hx hb dX5_seed_0 rfl (lv_at hl 1 rfl) ?_
  refine lv_if_ge (tgt := 6) hx hb dX5_seed_1 (by decide) (fun hc => ?_) (fun hc => ?_)
  · have hw := And.left hw hc
    refine lv_aload_n hx hb dX5_seed_6 rfl (lv_at hl 0 rfl) ?_
    refine rg_X_X5_0_0 hC hK hP dX5_seed_7 ?_
    refine rg_X_X5_1_11 hC hK hP dX5_seed_10 ?_
    refine lv_istore_n (lv' := [(2, .int (w_i (w_o (x_w z0)) 11)), (0, .ref (h 0)), (1, .int x1)]) hx hb dX5_seed_13 rfl hl (by decide) rfl (fun ls hl => ?_)
    refine lv_aload_n hx hb dX5_seed_14 rfl (lv_at hl 1 rfl) ?_
    refine rg_X_X5_0_0 hC hK hP dX5_seed_15 ?_
    refine lv_iload_n hx hb dX5_seed_18 rfl (lv_at hl 2 rfl) ?_
    refine rp_X_X5_1_11 hC hK hP hD hS dX5_seed_19 (fun z1 H locs hz1 hP hD hS => ?_)
    have hw := hw z1 hz1
    refine lv_iload_n hx hb dX5_seed_22 rfl (lv_at hl 0 rfl) ?_
    exact hret _ _ _ _ _ _ hw hP hD hS dX5_seed_23
  · have hw := And.right hw hc
    refine lv_iconst (v := (-1 : Int32)) hx hb dX5_seed_4 (by decide) ?_
    exact hret _ _ _ _ _ _ hw hP hD hS dX5_seed_5
def wpX5_image (z0 : wXS) (post : Int32 → (wXS) → Prop) : Prop := (wpX4_become ((x_k z0), (x_w z0)) (fun u => ∀ z1 : wXS, z1 = (x_sw (x_sk z0 u.1) u.2) → (∀ z2 : wXS, z2 = (x_so z1 (w_si (x_o z1) 2 (1 : Int32))) → (post (1 : Int32) z2))))
set_option maxHeartbeats 4000000 in
set_option maxRecDepth 100000 in
theorem cX5_image_c {l : Launch} {G : wG} {h : Nat → Nat} {sz : Nat}  {post : Int32 → (wXS) → Prop} {z0 : wXS}  (hw : wpX5_image z0 post) : Met l yX5_image (.code yX5_image cX5_image 1 (some .int) :: BIG) { frames := 2, cells := 0, slots := 0, locals := 61 } (xPw G [.ref (h 0)] (wsX G h z0) sz) (xQi G post (fun q => (wsX G h q)) (va_A (wsX G h z0) sz)) 0 0 (va_A (wsX G h z0) sz) := by
  refine xm_wi (by decide) (Nat.le_of_ble_eq_true rfl) (fun p e s m args below meth c A ls R Q hC hK hA hP hD hS hl hF hL hret => ?_)
  have hx := hC.1
  have hb := hC.2.1
  have hl : lv_has ls 1 [(0, .ref (h 0))] := hl
  unfold wpX5_image at hw
  refine lv_aload_n hx hb dX5_image_0 rfl (lv_at hl 0 rfl) ?_
  refine rg_X_X5_0_1 hC hK hP dX5_image_1 ?_
  refine lv_aload_n hx hb dX5_image_4 rfl (lv_at hl 0 rfl) ?_
  refine rg_X_X5_0_0 hC hK hP dX5_image_5 ?_
  refine xc_wv (S := wP2 × wP2) (wsz := fun q => (wsX G h q)) (f := fun u => (x_sw (x_sk z0 u.1) u.2)) (xr_VN hC hK.2 (cX4_become_c (h := (sh h 9)) (g := (sh h 1)) hw) ⟨rfl, rfl⟩ bw_516 calX4_become ⟨Nat.le_trans (Nat.le_of_ble_eq_true rfl) hF, Nat.le_trans (Nat.le_of_ble_eq_true rfl) hL⟩ (rest := []) (xpV hK (cut_X_W9_W1) hP hD rfl rfl) rfl hl rfl (Nat.le_of_ble_eq_true rfl) dX5_image_8 ⟨Nat.zero_le _, Nat.zero_le _⟩) (cut_X_W9_W1) hP hD hS hA (fun u z1 H locs hz1 hw hP hD hS => ?_)
  have hw := hw z1 hz1
  refine lv_aload_n hx hb dX5_image_11 rfl (lv_at hl 0 rfl) ?_
  refine lv_iconst (v := (1 : Int32)) hx hb dX5_image_12 (by decide) ?_
  refine rp_X_X5_0_2 (⟨rfl, rfl⟩) hC hK hP hD hS dX5_image_13 (fun z2 H locs hz1 hP hD hS => ?_)
  have hw := hw z2 hz1
  refine lv_iconst (v := (1 : Int32)) hx hb dX5_image_16 (by decide) ?_
  exact hret _ _ _ _ _ _ hw hP hD hS dX5_image_17
def wpX5_restore (z0 : wXS) (post : Int32 → (wXS) → Prop) : Prop := ((¬ (w_i (x_o z0) 2) = 0 → (wpX4_become ((x_w z0), (x_k z0)) (fun u => ∀ z1 : wXS, z1 = (x_sk (x_sw z0 u.1) u.2) → (post (1 : Int32) z1)))) ∧ ((w_i (x_o z0) 2) = 0 → (post (-4 : Int32) z0)))
set_option maxHeartbeats 4000000 in
set_option maxRecDepth 100000 in
theorem cX5_restore_c {l : Launch} {G : wG} {h : Nat → Nat} {sz : Nat}  {post : Int32 → (wXS) → Prop} {z0 : wXS}  (hw : wpX5_restore z0 post) : Met l yX5_restore (.code yX5_restore cX5_restore 1 (some .int) :: BIG) { frames := 2, cells := 0, slots := 0, locals := 61 } (xPw G [.ref (h 0)] (wsX G h z0) sz) (xQi G post (fun q => (wsX G h q)) (va_A (wsX G h z0) sz)) 0 0 (va_A (wsX G h z0) sz) := by
  refine xm_wi (by decide) (Nat.le_of_ble_eq_true rfl) (fun p e s m args below meth c A ls R Q hC hK hA hP hD hS hl hF hL hret => ?_)
  have hx := hC.1
  have hb := hC.2.1
  have hl : lv_has ls 1 [(0, .ref (h 0))] := hl
  unfold wpX5_restore at hw
  refine lv_aload_n hx hb dX5_restore_0 rfl (lv_at hl 0 rfl) ?_
  refine rg_X_X5_0_2 hC hK hP dX5_restore_1 ?_
  refine lv_if_ne (tgt := 10) hx hb dX5_restore_4 (by decide) (fun hc => ?_) (fun hc => ?_)
  · have hw := And.left hw hc
    refine lv_aload_n hx hb dX5_restore_10 rfl (lv_at hl 0 rfl) ?_
    refine rg_X_X5_0_0 hC hK hP dX5_restore_11 ?_
    refine lv_aload_n hx hb dX5_restore_14 rfl (lv_at hl 0 rfl) ?_
    refine rg_X_X5_0_1 hC hK hP dX5_restore_15 ?_
    refine xc_wv (S := wP2 × wP2) (wsz := fun q => (wsX G h q)) (f := fun u => (x_sk (x_sw z0 u.1) u.2)) (xr_VN hC hK.2 (cX4_become_c (h := (sh h 1)) (g := (sh h 9)) hw) ⟨rfl, rfl⟩ bw_516 calX4_become ⟨Nat.le_trans (Nat.le_of_ble_eq_true rfl) hF, Nat.le_trans (Nat.le_of_ble_eq_true rfl) hL⟩ (rest := []) (xpV hK (cut_X_W1_W9) hP hD rfl rfl) rfl hl rfl (Nat.le_of_ble_eq_true rfl) dX5_restore_18 ⟨Nat.zero_le _, Nat.zero_le _⟩) (cut_X_W1_W9) hP hD hS hA (fun u z1 H locs hz1 hw hP hD hS => ?_)
    have hw := hw z1 hz1
    refine lv_iconst (v := (1 : Int32)) hx hb dX5_restore_21 (by decide) ?_
    exact hret _ _ _ _ _ _ hw hP hD hS dX5_restore_22
  · have hw := And.right hw hc
    refine lv_bipush (v := (-4 : Int32)) hx hb dX5_restore_7 (by decide) ?_
    exact hret _ _ _ _ _ _ hw hP hD hS dX5_restore_9
