def wpX3_append (x1 : Int32) (z0 : wSt) (post : (wSt) → Prop) : Prop := (((60 : Int32) ≤ (w_i z0 1) → (post z0)) ∧ (¬ (60 : Int32) ≤ (w_i z0 1) → (vp_in (w_i z0 1) 60 ∧ ∀ z1 : wSt, z1 = (w_sa z0 0 (upd (w_a z0 0) (w_i z0 1).toNatClampNeg (vp_nar .byte (x1.toInt8.toInt32)))) → (∀ z2 : wSt, z2 = (w_si z1 1 ((w_i z1 1) + (1 : Int32))) → (post z2)))))
set_option maxHeartbeats 4000000 in
set_option maxRecDepth 100000 in
theorem cX3_append_c {l : Launch} {G : wG} {h : Nat → Nat} {sz : Nat} {x1 : Int32} {post : (wSt) → Prop} {z0 : wSt}  (hw : wpX3_append x1 z0 post) : Met l yX3_append (.code yX3_append cX3_append 2 none :: BIG) { frames := 0, cells := 0, slots := 0, locals := 0 } (xPw G [.ref (h 0), .int x1] (wsTape G h z0) sz) (xQv G post (fun q => (wsTape G h q)) (va_A (wsTape G h z0) sz)) 0 0 (va_A (wsTape G h z0) sz) := by
  refine xm_wv (by decide) (Nat.le_of_ble_eq_true rfl) (fun p e s m args below meth c A ls R Q hC hK hA hP hD hS hl hF hL hret => ?_)
  have hx := hC.1
  have hb := hC.2.1
  have hl : lv_has ls 2 [(0, .ref (h 0)), (1, .int x1)] := hl
  unfold wpX3_append at hw
  refine lv_aload_n hx hb dX3_append_0 rfl (lv_at hl 0 rfl) ?_
  refine rg_T_X3_0_1 hC hK hP dX3_append_1 ?_
  refine lv_bipush (v := (60 : Int32)) hx hb dX3_append_4 (by decide) ?_
  refine lv_icmp_ge (tgt := 30) hx hb dX3_append_6 (by decide) (fun hc => ?_) (fun hc => ?_)
  · have hw := And.left hw hc
    exact hret _ _ _ _ _ hw hP hD hS dX3_append_30
  · have hw := And.right hw hc
    refine lv_aload_n hx hb dX3_append_9 rfl (lv_at hl 0 rfl) ?_
    refine rg_T_X3_0_0 hC hK hP dX3_append_10 ?_
    refine lv_aload_n hx hb dX3_append_13 rfl (lv_at hl 0 rfl) ?_
    refine rg_T_X3_0_1 hC hK hP dX3_append_14 ?_
    refine lv_iload_n hx hb dX3_append_17 rfl (lv_at hl 1 rfl) ?_
    refine lv_i2b (v := (x1.toInt8.toInt32)) hx hb dX3_append_18 rfl ?_
    refine rs_T_1 hC hK hP hD hS (And.left hw) dX3_append_19 (fun z1 H locs hz1 hP hD hS => ?_)
    have hw := And.right hw z1 hz1
    refine lv_aload_n hx hb dX3_append_20 rfl (lv_at hl 0 rfl) ?_
    refine lv_dup hx hb dX3_append_21 rfl ?_
    refine rg_T_X3_0_1 hC hK hP dX3_append_22 ?_
    refine lv_iconst (v := (1 : Int32)) hx hb dX3_append_25 (by decide) ?_
    refine lv_iadd hx hb dX3_append_26 ?_
    refine rp_T_X3_0_1 hC hK hP hD hS dX3_append_27 (fun z2 H locs hz1 hP hD hS => ?_)
    have hw := hw z2 hz1
    exact hret _ _ _ _ _ hw hP hD hS dX3_append_30
def wpX3_fault (z0 : wSt) (post : Int32 → Prop) : Prop := (post ((-20 : Int32) - (w_i z0 2)))
set_option maxHeartbeats 4000000 in
set_option maxRecDepth 100000 in
theorem cX3_fault_c {l : Launch} {G : wG} {h : Nat → Nat}  {post : Int32 → Prop} {z0 : wSt}  (hw : wpX3_fault z0 post) : Met l yX3_fault (.code yX3_fault cX3_fault 1 (some .int) :: BIG) { frames := 0, cells := 0, slots := 0, locals := 0 } (xPr G [.ref (h 0)] (wsTape G h z0)) (vp_Si post) 0 0 (fun _ => False) := by
  refine xm_ri (by decide) (Nat.le_of_ble_eq_true rfl) (fun p e s m args below meth c ls R Q hC hK hP hl hF hL hret => ?_)
  have hx := hC.1
  have hb := hC.2.1
  have hl : lv_has ls 1 [(0, .ref (h 0))] := hl
  unfold wpX3_fault at hw
  refine lv_bipush (v := (-20 : Int32)) hx hb dX3_fault_0 (by decide) ?_
  refine lv_aload_n hx hb dX3_fault_2 rfl (lv_at hl 0 rfl) ?_
  refine rg_T_X3_0_2 hC hK hP dX3_fault_3 ?_
  refine lv_isub hx hb dX3_fault_6 ?_
  exact hret _ _ _ hw dX3_fault_7
def wpX3_next_38  (post : Int32 → (wSt) → Prop)  (z0 : wSt) : Prop := (((w_i z0 1) ≤ (w_i z0 2) → (post (0 : Int32) z0)) ∧ (¬ (w_i z0 1) ≤ (w_i z0 2) → (vp_in (w_i z0 2) 60 ∧ (post ((w_a z0 0) (w_i z0 2).toNatClampNeg) z0))))
def wpX3_next_0 (k0 : (wSt) → Prop) (post : Int32 → (wSt) → Prop)  (z0 : wSt) : Prop := (((w_i z0 1) ≤ (w_i z0 2) → (wpX3_next_38  post z0)) ∧ (¬ (w_i z0 1) ≤ (w_i z0 2) → (vp_in (w_i z0 2) 60 ∧ ((¬ ((w_a z0 0) (w_i z0 2).toNatClampNeg) = (32 : Int32) → (wpX3_next_38  post z0)) ∧ (((w_a z0 0) (w_i z0 2).toNatClampNeg) = (32 : Int32) → (∀ z1 : wSt, z1 = (w_si z0 2 ((w_i z0 2) + (1 : Int32))) → (k0 z1)))))))
def wpX3_next_L0  (post : Int32 → (wSt) → Prop) : Nat → (wSt) → Prop
  | 0 => fun _ => False
  | n + 1 => fun z0 => wpX3_next_0  (wpX3_next_L0  post n) post z0
def wpX3_next (z0 : wSt) (post : Int32 → (wSt) → Prop) : Prop := (∃ n, wpX3_next_L0  post n z0)
set_option maxHeartbeats 4000000 in
set_option maxRecDepth 100000 in
theorem cX3_next_c {l : Launch} {G : wG} {h : Nat → Nat} {sz : Nat}  {post : Int32 → (wSt) → Prop} {z0 : wSt}  (hw : wpX3_next z0 post) : Met l yX3_next (.code yX3_next cX3_next 1 (some .int) :: BIG) { frames := 0, cells := 0, slots := 0, locals := 0 } (xPw G [.ref (h 0)] (wsTape G h z0) sz) (xQi G post (fun q => (wsTape G h q)) (va_A (wsTape G h z0) sz)) 0 0 (va_A (wsTape G h z0) sz) := by
  refine xm_wi (by decide) (Nat.le_of_ble_eq_true rfl) (fun p e s m args below meth c A ls R Q hC hK hA hP hD hS hl hF hL hret => ?_)
  have hx := hC.1
  have hb := hC.2.1
  have hl : lv_has ls 1 [(0, .ref (h 0))] := hl
  have B38 : ∀  (z0 : wSt) (H : Heap) (locs : List Loc) (ls : Array Slot), wpX3_next_38  post z0 → va_P G.1 vwCl (wsTape G h z0) H → va_D A (wsTape G h z0) → va_S A s.heap H locs → lv_has ls 1 [(0, .ref (h 0))] → W p l e R s m args below meth c H locs 0 0 Q (F0 m 38 ls []) := by
    intro  z0 H locs ls hw hP hD hS hl
    unfold wpX3_next_38 at hw
    refine lv_aload_n hx hb dX3_next_38 rfl (lv_at hl 0 rfl) ?_
    refine rg_T_X3_0_2 hC hK hP dX3_next_39 ?_
    refine lv_aload_n hx hb dX3_next_42 rfl (lv_at hl 0 rfl) ?_
    refine rg_T_X3_0_1 hC hK hP dX3_next_43 ?_
    refine lv_icmp_ge (tgt := 61) hx hb dX3_next_46 (by decide) (fun hc => ?_) (fun hc => ?_)
    · have hw := And.left hw hc
      refine lv_iconst (v := (0 : Int32)) hx hb dX3_next_61 (by decide) ?_
      exact hret _ _ _ _ _ _ hw hP hD hS dX3_next_62
    · have hw := And.right hw hc
      refine lv_aload_n hx hb dX3_next_49 rfl (lv_at hl 0 rfl) ?_
      refine rg_T_X3_0_0 hC hK hP dX3_next_50 ?_
      refine lv_aload_n hx hb dX3_next_53 rfl (lv_at hl 0 rfl) ?_
      refine rg_T_X3_0_2 hC hK hP dX3_next_54 ?_
      refine rl_T_1 hC hK hP (And.left hw) dX3_next_57 ?_
      have hw := And.right hw
      refine lv_goto (tgt := 62) hx hb dX3_next_58 (by decide) ?_
      exact hret _ _ _ _ _ _ hw hP hD hS dX3_next_62
  have B0 : ∀ n0 : Nat, ∀  (z0 : wSt) (H : Heap) (locs : List Loc) (ls : Array Slot), wpX3_next_L0  post n0 z0 → va_P G.1 vwCl (wsTape G h z0) H → va_D A (wsTape G h z0) → va_S A s.heap H locs → lv_has ls 1 [(0, .ref (h 0))] → W p l e R s m args below meth c H locs 0 0 Q (F0 m 0 ls []) := by
    intro n0
    induction n0 with
    | zero => intro  z0 H locs ls hw hP hD hS hl; exact False.elim hw
    | succ n0 I0 =>
      intro  z0 H locs ls hw hP hD hS hl
      have hw : wpX3_next_0  (wpX3_next_L0  post n0) post z0 := hw
      unfold wpX3_next_0 at hw
      refine lv_aload_n hx hb dX3_next_0 rfl (lv_at hl 0 rfl) ?_
      refine rg_T_X3_0_2 hC hK hP dX3_next_1 ?_
      refine lv_aload_n hx hb dX3_next_4 rfl (lv_at hl 0 rfl) ?_
      refine rg_T_X3_0_1 hC hK hP dX3_next_5 ?_
      refine lv_icmp_ge (tgt := 38) hx hb dX3_next_8 (by decide) (fun hc => ?_) (fun hc => ?_)
      · have hw := And.left hw hc
        exact B38 z0 _ _ _ hw hP hD hS (lv_sub hl [0] rfl)
      · have hw := And.right hw hc
        refine lv_aload_n hx hb dX3_next_11 rfl (lv_at hl 0 rfl) ?_
        refine rg_T_X3_0_0 hC hK hP dX3_next_12 ?_
        refine lv_aload_n hx hb dX3_next_15 rfl (lv_at hl 0 rfl) ?_
        refine rg_T_X3_0_2 hC hK hP dX3_next_16 ?_
        refine rl_T_1 hC hK hP (And.left hw) dX3_next_19 ?_
        have hw := And.right hw
        refine lv_bipush (v := (32 : Int32)) hx hb dX3_next_20 (by decide) ?_
        refine lv_icmp_ne (tgt := 38) hx hb dX3_next_22 (by decide) (fun hc => ?_) (fun hc => ?_)
        · have hw := And.left hw hc
          exact B38 z0 _ _ _ hw hP hD hS (lv_sub hl [0] rfl)
        · have hw := And.right hw hc
          refine lv_aload_n hx hb dX3_next_25 rfl (lv_at hl 0 rfl) ?_
          refine lv_dup hx hb dX3_next_26 rfl ?_
          refine rg_T_X3_0_2 hC hK hP dX3_next_27 ?_
          refine lv_iconst (v := (1 : Int32)) hx hb dX3_next_30 (by decide) ?_
          refine lv_iadd hx hb dX3_next_31 ?_
          refine rp_T_X3_0_2 hC hK hP hD hS dX3_next_32 (fun z1 H locs hz1 hP hD hS => ?_)
          have hw := hw z1 hz1
          refine lv_goto (tgt := 0) hx hb dX3_next_35 (by decide) ?_
          exact I0 z1 _ _ _ hw hP hD hS (lv_sub hl [0] rfl)
  unfold wpX3_next at hw
  obtain ⟨j0, hw⟩ := hw
  exact B0 j0 z0 _ _ _ hw hP hD hS (lv_sub hl [0] rfl)
def wpX3_kindBy (x0 : Int32) (post : Int32 → Prop) : Prop := ((x0.toInt < 109 ∨ 118 < x0.toInt → (post (-1 : Int32))) ∧ (x0 = (109 : Int32) → (post (3 : Int32))) ∧ (x0 = (110 : Int32) → (post (-1 : Int32))) ∧ (x0 = (111 : Int32) → (post (-1 : Int32))) ∧ (x0 = (112 : Int32) → (post (0 : Int32))) ∧ (x0 = (113 : Int32) → (post (-1 : Int32))) ∧ (x0 = (114 : Int32) → (post (-1 : Int32))) ∧ (x0 = (115 : Int32) → (post (1 : Int32))) ∧ (x0 = (116 : Int32) → (post (-1 : Int32))) ∧ (x0 = (117 : Int32) → (post (-1 : Int32))) ∧ (x0 = (118 : Int32) → (post (2 : Int32))))
set_option maxHeartbeats 4000000 in
set_option maxRecDepth 100000 in
theorem cX3_kindBy_c {l : Launch} {G : wG} {x0 : Int32} {post : Int32 → Prop}  (hw : wpX3_kindBy x0 post) : Met l yX3_kindBy (.code yX3_kindBy cX3_kindBy 1 (some .int) :: BIG) { frames := 0, cells := 0, slots := 0, locals := 0 } (xPr G [.int x0] ([] : va_W)) (vp_Si post) 0 0 (fun _ => False) := by
  refine xm_ri (by decide) (Nat.le_of_ble_eq_true rfl) (fun p e s m args below meth c ls R Q hC hK hP hl hF hL hret => ?_)
  have hx := hC.1
  have hb := hC.2.1
  have hl : lv_has ls 1 [(0, .int x0)] := hl
  unfold wpX3_kindBy at hw
  refine lv_iload_n hx hb dX3_kindBy_0 rfl (lv_at hl 0 rfl) ?_
  rcases x_tswL x0 109 10 (by decide) with hq | ⟨j, hj, hq⟩
  · have hw := And.left hw (by omega)
    refine lv_tableOut (tgt := 64) hx hb dX3_kindBy_1 (by omega) (by decide) ?_
    refine lv_iconst (v := (-1 : Int32)) hx hb dX3_kindBy_64 (by decide) ?_
    exact hret _ _ _ hw dX3_kindBy_65
  · have hw := And.right hw
    obtain rfl | rfl | rfl | rfl | rfl | rfl | rfl | rfl | rfl | rfl : j = 0 ∨ j = 1 ∨ j = 2 ∨ j = 3 ∨ j = 4 ∨ j = 5 ∨ j = 6 ∨ j = 7 ∨ j = 8 ∨ j = 9 := by omega
    · have hw := (And.left hw) hq
      refine lv_tableIn (off := 61) (tgt := 62) hx hb dX3_kindBy_1 (by rw [hq]; decide) (by rw [hq]; decide) (by rw [hq]; rfl) (by decide) ?_
      refine lv_iconst (v := (3 : Int32)) hx hb dX3_kindBy_62 (by decide) ?_
      exact hret _ _ _ hw dX3_kindBy_63
    · have hw := (And.left (And.right hw)) hq
      refine lv_tableIn (off := 63) (tgt := 64) hx hb dX3_kindBy_1 (by rw [hq]; decide) (by rw [hq]; decide) (by rw [hq]; rfl) (by decide) ?_
      refine lv_iconst (v := (-1 : Int32)) hx hb dX3_kindBy_64 (by decide) ?_
      exact hret _ _ _ hw dX3_kindBy_65
    · have hw := (And.left (And.right (And.right hw))) hq
      refine lv_tableIn (off := 63) (tgt := 64) hx hb dX3_kindBy_1 (by rw [hq]; decide) (by rw [hq]; decide) (by rw [hq]; rfl) (by decide) ?_
      refine lv_iconst (v := (-1 : Int32)) hx hb dX3_kindBy_64 (by decide) ?_
      exact hret _ _ _ hw dX3_kindBy_65
    · have hw := (And.left (And.right (And.right (And.right hw)))) hq
      refine lv_tableIn (off := 55) (tgt := 56) hx hb dX3_kindBy_1 (by rw [hq]; decide) (by rw [hq]; decide) (by rw [hq]; rfl) (by decide) ?_
      refine lv_iconst (v := (0 : Int32)) hx hb dX3_kindBy_56 (by decide) ?_
      exact hret _ _ _ hw dX3_kindBy_57
    · have hw := (And.left (And.right (And.right (And.right (And.right hw))))) hq
      refine lv_tableIn (off := 63) (tgt := 64) hx hb dX3_kindBy_1 (by rw [hq]; decide) (by rw [hq]; decide) (by rw [hq]; rfl) (by decide) ?_
      refine lv_iconst (v := (-1 : Int32)) hx hb dX3_kindBy_64 (by decide) ?_
      exact hret _ _ _ hw dX3_kindBy_65
    · have hw := (And.left (And.right (And.right (And.right (And.right (And.right hw)))))) hq
      refine lv_tableIn (off := 63) (tgt := 64) hx hb dX3_kindBy_1 (by rw [hq]; decide) (by rw [hq]; decide) (by rw [hq]; rfl) (by decide) ?_
      refine lv_iconst (v := (-1 : Int32)) hx hb dX3_kindBy_64 (by decide) ?_
      exact hret _ _ _ hw dX3_kindBy_65
    · have hw := (And.left (And.right (And.right (And.right (And.right (And.right (And.right hw))))))) hq
      refine lv_tableIn (off := 57) (tgt := 58) hx hb dX3_kindBy_1 (by rw [hq]; decide) (by rw [hq]; decide) (by rw [hq]; rfl) (by decide) ?_
      refine lv_iconst (v := (1 : Int32)) hx hb dX3_kindBy_58 (by decide) ?_
      exact hret _ _ _ hw dX3_kindBy_59
    · have hw := (And.left (And.right (And.right (And.right (And.right (And.right (And.right (And.right hw)))))))) hq
      refine lv_tableIn (off := 63) (tgt := 64) hx hb dX3_kindBy_1 (by rw [hq]; decide) (by rw [hq]; decide) (by rw [hq]; rfl) (by decide) ?_
      refine lv_iconst (v := (-1 : Int32)) hx hb dX3_kindBy_64 (by decide) ?_
      exact hret _ _ _ hw dX3_kindBy_65
    · have hw := (And.left (And.right (And.right (And.right (And.right (And.right (And.right (And.right (And.right hw))))))))) hq
      refine lv_tableIn (off := 63) (tgt := 64) hx hb dX3_kindBy_1 (by rw [hq]; decide) (by rw [hq]; decide) (by rw [hq]; rfl) (by decide) ?_
      refine lv_iconst (v := (-1 : Int32)) hx hb dX3_kindBy_64 (by decide) ?_
      exact hret _ _ _ hw dX3_kindBy_65
    · have hw := ((And.right (And.right (And.right (And.right (And.right (And.right (And.right (And.right (And.right hw)))))))))) hq
      refine lv_tableIn (off := 59) (tgt := 60) hx hb dX3_kindBy_1 (by rw [hq]; decide) (by rw [hq]; decide) (by rw [hq]; rfl) (by decide) ?_
      refine lv_iconst (v := (2 : Int32)) hx hb dX3_kindBy_60 (by decide) ?_
      exact hret _ _ _ hw dX3_kindBy_61
def wpX3_readDigit (x1 : Int32) (x2 : Int32) (z0 : wSt) (post : Int32 → (wSt) → Prop) : Prop := (wpX3_next z0 (fun r1 u => ∀ z1 : wSt, z1 = u → (wpX5_within (r1 - (48 : Int32)) x1 x2 (fun r2 => ((¬ r2 = 0 → (∀ z2 : wSt, z2 = (w_si z1 2 ((w_i z1 2) + (1 : Int32))) → (post (r1 - (48 : Int32)) z2))) ∧ (r2 = 0 → (post (-1 : Int32) z1)))))))
set_option maxHeartbeats 4000000 in
set_option maxRecDepth 100000 in
theorem cX3_readDigit_c {l : Launch} {G : wG} {h : Nat → Nat} {sz : Nat} {x1 : Int32} {x2 : Int32} {post : Int32 → (wSt) → Prop} {z0 : wSt}  (hw : wpX3_readDigit x1 x2 z0 post) : Met l yX3_readDigit (.code yX3_readDigit cX3_readDigit 4 (some .int) :: BIG) { frames := 1, cells := 0, slots := 0, locals := 22 } (xPw G [.ref (h 0), .int x1, .int x2] (wsTape G h z0) sz) (xQi G post (fun q => (wsTape G h q)) (va_A (wsTape G h z0) sz)) 0 0 (va_A (wsTape G h z0) sz) := by
  refine xm_wi (by decide) (Nat.le_of_ble_eq_true rfl) (fun p e s m args below meth c A ls R Q hC hK hA hP hD hS hl hF hL hret => ?_)
  have hx := hC.1
  have hb := hC.2.1
  have hl : lv_has ls 4 [(0, .ref (h 0)), (1, .int x1), (2, .int x2)] := hl
  unfold wpX3_readDigit at hw
  refine lv_aload_n hx hb dX3_readDigit_0 rfl (lv_at hl 0 rfl) ?_
  refine xc_wi (S := wSt) (wsz := fun q => (wsTape G h q)) (f := fun u => u) (xr_V hC (cX3_next_c (h := h) hw) ⟨rfl, rfl⟩ bw_289 calX3_next ⟨Nat.le_trans (Nat.le_of_ble_eq_true rfl) hF, Nat.le_trans (Nat.le_of_ble_eq_true rfl) hL⟩ (rest := []) (xpV hK (cut_all_T) hP hD rfl rfl) rfl hl rfl (Nat.le_of_ble_eq_true rfl) dX3_readDigit_1 ⟨Nat.zero_le _, Nat.zero_le _⟩) (cut_all_T) hP hD hS hA (fun r1 u z1 H locs hz1 hw hP hD hS => ?_)
  have hw := hw z1 hz1
  refine lv_bipush (v := (48 : Int32)) hx hb dX3_readDigit_4 (by decide) ?_
  refine lv_isub hx hb dX3_readDigit_6 ?_
  refine lv_istore_n (lv' := [(3, .int (r1 - (48 : Int32))), (0, .ref (h 0)), (1, .int x1), (2, .int x2)]) hx hb dX3_readDigit_7 rfl hl (by decide) rfl (fun ls hl => ?_)
  refine lv_iload_n hx hb dX3_readDigit_8 rfl (lv_at hl 0 rfl) ?_
  refine lv_iload_n hx hb dX3_readDigit_9 rfl (lv_at hl 2 rfl) ?_
  refine lv_iload_n hx hb dX3_readDigit_10 rfl (lv_at hl 3 rfl) ?_
  refine vp_callSi (xro (xr_SN hC hK.2 (cX5_within_c hw) ⟨rfl, rfl⟩ bw_300 calX5_within ⟨Nat.le_trans (Nat.le_of_ble_eq_true rfl) hF, Nat.le_trans (Nat.le_of_ble_eq_true rfl) hL⟩ (rest := []) (xpS hK) rfl hl rfl (Nat.le_of_ble_eq_true rfl) dX3_readDigit_11 ⟨Nat.zero_le _, Nat.zero_le _⟩)) (fun r2 hw => ?_)
  refine lv_if_ne (tgt := 19) hx hb dX3_readDigit_14 (by decide) (fun hc => ?_) (fun hc => ?_)
  · have hw := And.left hw hc
    refine lv_aload_n hx hb dX3_readDigit_19 rfl (lv_at hl 1 rfl) ?_
    refine lv_dup hx hb dX3_readDigit_20 rfl ?_
    refine rg_T_X3_0_2 hC hK hP dX3_readDigit_21 ?_
    refine lv_iconst (v := (1 : Int32)) hx hb dX3_readDigit_24 (by decide) ?_
    refine lv_iadd hx hb dX3_readDigit_25 ?_
    refine rp_T_X3_0_2 hC hK hP hD hS dX3_readDigit_26 (fun z2 H locs hz1 hP hD hS => ?_)
    have hw := hw z2 hz1
    refine lv_iload_n hx hb dX3_readDigit_29 rfl (lv_at hl 0 rfl) ?_
    exact hret _ _ _ _ _ _ hw hP hD hS dX3_readDigit_30
  · have hw := And.right hw hc
    refine lv_iconst (v := (-1 : Int32)) hx hb dX3_readDigit_17 (by decide) ?_
    exact hret _ _ _ _ _ _ hw hP hD hS dX3_readDigit_18
def wpX3_readOne_125  (post : Int32 → (wSt × wSt) → Prop) (x2 : Int32) (x3 : Int32) (x5 : Int32) (z0 : wSt × wSt) : Prop := (wpX0_add x2 x3 x5 z0.2 (fun r1 u => ∀ z1 : wSt × wSt, z1 = (z0.1, u) → ((r1 < 0 → (post (0 : Int32) z1)) ∧ (¬ r1 < 0 → (post (1 : Int32) z1)))))
def wpX3_readOne_87  (post : Int32 → (wSt × wSt) → Prop) (x2 : Int32) (x3 : Int32) (z0 : wSt × wSt) : Prop := (wpX3_next z0.1 (fun r1 u => ∀ z1 : wSt × wSt, z1 = (u, z0.2) → ((¬ r1 = (114 : Int32) → (wpX3_readOne_125  post x2 x3 (1 : Int32) z1)) ∧ (r1 = (114 : Int32) → (∀ z2 : wSt × wSt, z2 = ((w_si z1.1 2 ((w_i z1.1 2) + (1 : Int32))), z1.2) → (wpX3_readDigit (1 : Int32) (9 : Int32) z2.1 (fun r2 u => ∀ z3 : wSt × wSt, z3 = (u, z2.2) → ((0 ≤ r2 → (wpX3_readOne_125  post x2 x3 r2 z3)) ∧ (¬ 0 ≤ r2 → (post (0 : Int32) z3))))))))))
def wpX3_readOne_86  (post : Int32 → (wSt × wSt) → Prop) (x2 : Int32) (t0 : Int32) (z0 : wSt × wSt) : Prop := (wpX3_readOne_87  post x2 t0 z0)
def wpX3_readOne_46  (post : Int32 → (wSt × wSt) → Prop) (x2 : Int32) (x4 : Int32) (z0 : wSt × wSt) : Prop := (∀ z1 : wSt × wSt, z1 = ((w_si z0.1 2 ((w_i z0.1 2) + (1 : Int32))), z0.2) → (wpX3_readDigit (0 : Int32) (3 : Int32) z1.1 (fun r1 u => ∀ z2 : wSt × wSt, z2 = (u, z1.2) → ((0 ≤ r1 → ((¬ x4 = (45 : Int32) → (wpX3_readOne_86  post x2 r1 z2)) ∧ (x4 = (45 : Int32) → (wpX3_readOne_86  post x2 (-r1) z2)))) ∧ (¬ 0 ≤ r1 → (post (0 : Int32) z2))))))
def wpX3_readOne (z0 : wSt × wSt) (post : Int32 → (wSt × wSt) → Prop) : Prop := (wpX3_next z0.1 (fun r1 u => ∀ z1 : wSt × wSt, z1 = (u, z0.2) → (wpX3_kindBy r1 (fun r2 => ((0 ≤ r2 → (∀ z2 : wSt × wSt, z2 = ((w_si z1.1 2 ((w_i z1.1 2) + (1 : Int32))), z1.2) → (wpX3_next z2.1 (fun r3 u => ∀ z3 : wSt × wSt, z3 = (u, z2.2) → ((r3 = (43 : Int32) → (wpX3_readOne_46  post r2 r3 z3)) ∧ (¬ r3 = (43 : Int32) → ((¬ r3 = (45 : Int32) → (wpX3_readOne_87  post r2 (0 : Int32) z3)) ∧ (r3 = (45 : Int32) → (wpX3_readOne_46  post r2 r3 z3))))))))) ∧ (¬ 0 ≤ r2 → (post (0 : Int32) z1)))))))
set_option maxHeartbeats 4000000 in
set_option maxRecDepth 100000 in
theorem cX3_readOne_c {l : Launch} {G : wG} {h g : Nat → Nat} {sz : Nat}  {post : Int32 → (wSt × wSt) → Prop} {z0 : wSt × wSt}  (hw : wpX3_readOne z0 post) : Met l yX3_readOne (.code yX3_readOne cX3_readOne 6 (some .boolean) :: BIG) { frames := 2, cells := 0, slots := 0, locals := 45 } (xPw G [.ref (h 0), .ref (g 0)] (wsTape G h z0.1 ++ wsFolk G g z0.2) sz) (xQi G post (fun q => (wsTape G h q.1 ++ wsFolk G g q.2)) (va_A (wsTape G h z0.1 ++ wsFolk G g z0.2) sz)) 0 0 (va_A (wsTape G h z0.1 ++ wsFolk G g z0.2) sz) := by
  refine xm_wz (by decide) (Nat.le_of_ble_eq_true rfl) (fun p e s m args below meth c A ls R Q hC hK hA hP hD hS hl hF hL hret => ?_)
  have hx := hC.1
  have hb := hC.2.1
  have hl : lv_has ls 6 [(0, .ref (h 0)), (1, .ref (g 0))] := hl
  have B125 : ∀ (x2 : Int32) (x3 : Int32) (x5 : Int32) (z0 : wSt × wSt) (H : Heap) (locs : List Loc) (ls : Array Slot), wpX3_readOne_125  post x2 x3 x5 z0 → va_P G.1 vwCl (wsTape G h z0.1 ++ wsFolk G g z0.2) H → va_D A (wsTape G h z0.1 ++ wsFolk G g z0.2) → va_S A s.heap H locs → lv_has ls 6 [(1, .ref (g 0)), (2, .int x2), (3, .int x3), (5, .int x5)] → W p l e R s m args below meth c H locs 0 0 Q (F0 m 125 ls []) := by
    intro x2 x3 x5 z0 H locs ls hw hP hD hS hl
    unfold wpX3_readOne_125 at hw
    refine lv_aload_n hx hb dX3_readOne_125 rfl (lv_at hl 0 rfl) ?_
    refine lv_iload_n hx hb dX3_readOne_126 rfl (lv_at hl 1 rfl) ?_
    refine lv_iload_n hx hb dX3_readOne_127 rfl (lv_at hl 2 rfl) ?_
    refine lv_iload hx hb dX3_readOne_128 (lv_at hl 3 rfl) ?_
    refine xc_wi (S := wSt) (wsz := fun q => (wsTape G h q.1 ++ wsFolk G g q.2)) (f := fun u => (z0.1, u)) (xr_VN hC hK.2 (cX0_add_c (h := g) hw) ⟨rfl, rfl⟩ bw_301 calX0_add ⟨Nat.le_trans (Nat.le_of_ble_eq_true rfl) hF, Nat.le_trans (Nat.le_of_ble_eq_true rfl) hL⟩ (rest := []) (xpV hK (cut_TF_F2) hP hD rfl rfl) rfl hl rfl (Nat.le_of_ble_eq_true rfl) dX3_readOne_130 ⟨Nat.zero_le _, Nat.zero_le _⟩) (cut_TF_F2) hP hD hS hA (fun r1 u z1 H locs hz1 hw hP hD hS => ?_)
    have hw := hw z1 hz1
    refine lv_if_lt (tgt := 140) hx hb dX3_readOne_133 (by decide) (fun hc => ?_) (fun hc => ?_)
    · have hw := And.left hw hc
      refine lv_iconst (v := (0 : Int32)) hx hb dX3_readOne_140 (by decide) ?_
      exact hret _ _ _ _ _ _ rfl hw hP hD hS dX3_readOne_141
    · have hw := And.right hw hc
      refine lv_iconst (v := (1 : Int32)) hx hb dX3_readOne_136 (by decide) ?_
      refine lv_goto (tgt := 141) hx hb dX3_readOne_137 (by decide) ?_
      exact hret _ _ _ _ _ _ rfl hw hP hD hS dX3_readOne_141
  have B87 : ∀ (x2 : Int32) (x3 : Int32) (z0 : wSt × wSt) (H : Heap) (locs : List Loc) (ls : Array Slot), wpX3_readOne_87  post x2 x3 z0 → va_P G.1 vwCl (wsTape G h z0.1 ++ wsFolk G g z0.2) H → va_D A (wsTape G h z0.1 ++ wsFolk G g z0.2) → va_S A s.heap H locs → lv_has ls 6 [(0, .ref (h 0)), (1, .ref (g 0)), (2, .int x2), (3, .int x3)] → W p l e R s m args below meth c H locs 0 0 Q (F0 m 87 ls []) := by
    intro x2 x3 z0 H locs ls hw hP hD hS hl
    unfold wpX3_readOne_87 at hw
    refine lv_iconst (v := (1 : Int32)) hx hb dX3_readOne_87 (by decide) ?_
    refine lv_istore (lv' := [(5, .int (1 : Int32)), (0, .ref (h 0)), (1, .ref (g 0)), (2, .int x2), (3, .int x3)]) hx hb dX3_readOne_88 hl (by decide) rfl (fun ls hl => ?_)
    refine lv_aload_n hx hb dX3_readOne_90 rfl (lv_at hl 1 rfl) ?_
    refine xc_wi (S := wSt) (wsz := fun q => (wsTape G h q.1 ++ wsFolk G g q.2)) (f := fun u => (u, z0.2)) (xr_V hC (cX3_next_c (h := h) hw) ⟨rfl, rfl⟩ bw_289 calX3_next ⟨Nat.le_trans (Nat.le_of_ble_eq_true rfl) hF, Nat.le_trans (Nat.le_of_ble_eq_true rfl) hL⟩ (rest := []) (xpV hK (cut_TF_T0) hP hD rfl rfl) rfl hl rfl (Nat.le_of_ble_eq_true rfl) dX3_readOne_91 ⟨Nat.zero_le _, Nat.zero_le _⟩) (cut_TF_T0) hP hD hS hA (fun r1 u z1 H locs hz1 hw hP hD hS => ?_)
    have hw := hw z1 hz1
    refine lv_bipush (v := (114 : Int32)) hx hb dX3_readOne_94 (by decide) ?_
    refine lv_icmp_ne (tgt := 125) hx hb dX3_readOne_96 (by decide) (fun hc => ?_) (fun hc => ?_)
    · have hw := And.left hw hc
      exact B125 x2 x3 (1 : Int32) z1 _ _ _ hw hP hD hS (lv_sub hl [2, 3, 4, 0] rfl)
    · have hw := And.right hw hc
      refine lv_aload_n hx hb dX3_readOne_99 rfl (lv_at hl 1 rfl) ?_
      refine lv_dup hx hb dX3_readOne_100 rfl ?_
      refine rg_TF_X3_0_2 hC hK hP dX3_readOne_101 ?_
      refine lv_iconst (v := (1 : Int32)) hx hb dX3_readOne_104 (by decide) ?_
      refine lv_iadd hx hb dX3_readOne_105 ?_
      refine rp_TF_X3_0_2 hC hK hP hD hS dX3_readOne_106 (fun z2 H locs hz1 hP hD hS => ?_)
      have hw := hw z2 hz1
      refine lv_aload_n hx hb dX3_readOne_109 rfl (lv_at hl 1 rfl) ?_
      refine lv_iconst (v := (1 : Int32)) hx hb dX3_readOne_110 (by decide) ?_
      refine lv_bipush (v := (9 : Int32)) hx hb dX3_readOne_111 (by decide) ?_
      refine xc_wi (S := wSt) (wsz := fun q => (wsTape G h q.1 ++ wsFolk G g q.2)) (f := fun u => (u, z2.2)) (xr_V hC (cX3_readDigit_c (h := h) hw) ⟨rfl, rfl⟩ bw_296 calX3_readDigit ⟨Nat.le_trans (Nat.le_of_ble_eq_true rfl) hF, Nat.le_trans (Nat.le_of_ble_eq_true rfl) hL⟩ (rest := []) (xpV hK (cut_TF_T0) hP hD rfl rfl) rfl hl rfl (Nat.le_of_ble_eq_true rfl) dX3_readOne_113 ⟨Nat.zero_le _, Nat.zero_le _⟩) (cut_TF_T0) hP hD hS hA (fun r2 u z3 H locs hz1 hw hP hD hS => ?_)
      have hw := hw z3 hz1
      refine lv_istore (lv' := [(5, .int r2), (0, .ref (h 0)), (1, .ref (g 0)), (2, .int x2), (3, .int x3)]) hx hb dX3_readOne_116 hl (by decide) rfl (fun ls hl => ?_)
      refine lv_iload hx hb dX3_readOne_118 (lv_at hl 0 rfl) ?_
      refine lv_if_ge (tgt := 125) hx hb dX3_readOne_120 (by decide) (fun hc => ?_) (fun hc => ?_)
      · have hw := And.left hw hc
        exact B125 x2 x3 r2 z3 _ _ _ hw hP hD hS (lv_sub hl [2, 3, 4, 0] rfl)
      · have hw := And.right hw hc
        refine lv_iconst (v := (0 : Int32)) hx hb dX3_readOne_123 (by decide) ?_
        exact hret _ _ _ _ _ _ rfl hw hP hD hS dX3_readOne_124
  have B86 : ∀ (x2 : Int32) (t0 : Int32) (z0 : wSt × wSt) (H : Heap) (locs : List Loc) (ls : Array Slot), wpX3_readOne_86  post x2 t0 z0 → va_P G.1 vwCl (wsTape G h z0.1 ++ wsFolk G g z0.2) H → va_D A (wsTape G h z0.1 ++ wsFolk G g z0.2) → va_S A s.heap H locs → lv_has ls 6 [(0, .ref (h 0)), (1, .ref (g 0)), (2, .int x2)] → W p l e R s m args below meth c H locs 0 0 Q (F0 m 86 ls [.int t0]) := by
    intro x2 t0 z0 H locs ls hw hP hD hS hl
    unfold wpX3_readOne_86 at hw
    refine lv_istore_n (lv' := [(3, .int t0), (0, .ref (h 0)), (1, .ref (g 0)), (2, .int x2)]) hx hb dX3_readOne_86 rfl hl (by decide) rfl (fun ls hl => ?_)
    exact B87 x2 t0 z0 _ _ _ hw hP hD hS (lv_sub hl [1, 2, 3, 0] rfl)
  have B46 : ∀ (x2 : Int32) (x4 : Int32) (z0 : wSt × wSt) (H : Heap) (locs : List Loc) (ls : Array Slot), wpX3_readOne_46  post x2 x4 z0 → va_P G.1 vwCl (wsTape G h z0.1 ++ wsFolk G g z0.2) H → va_D A (wsTape G h z0.1 ++ wsFolk G g z0.2) → va_S A s.heap H locs → lv_has ls 6 [(0, .ref (h 0)), (1, .ref (g 0)), (2, .int x2), (4, .int x4)] → W p l e R s m args below meth c H locs 0 0 Q (F0 m 46 ls []) := by
    intro x2 x4 z0 H locs ls hw hP hD hS hl
    unfold wpX3_readOne_46 at hw
    refine lv_aload_n hx hb dX3_readOne_46 rfl (lv_at hl 0 rfl) ?_
    refine lv_dup hx hb dX3_readOne_47 rfl ?_
    refine rg_TF_X3_0_2 hC hK hP dX3_readOne_48 ?_
    refine lv_iconst (v := (1 : Int32)) hx hb dX3_readOne_51 (by decide) ?_
    refine lv_iadd hx hb dX3_readOne_52 ?_
    refine rp_TF_X3_0_2 hC hK hP hD hS dX3_readOne_53 (fun z1 H locs hz1 hP hD hS => ?_)
    have hw := hw z1 hz1
    refine lv_aload_n hx hb dX3_readOne_56 rfl (lv_at hl 0 rfl) ?_
    refine lv_iconst (v := (0 : Int32)) hx hb dX3_readOne_57 (by decide) ?_
    refine lv_iconst (v := (3 : Int32)) hx hb dX3_readOne_58 (by decide) ?_
    refine xc_wi (S := wSt) (wsz := fun q => (wsTape G h q.1 ++ wsFolk G g q.2)) (f := fun u => (u, z1.2)) (xr_V hC (cX3_readDigit_c (h := h) hw) ⟨rfl, rfl⟩ bw_296 calX3_readDigit ⟨Nat.le_trans (Nat.le_of_ble_eq_true rfl) hF, Nat.le_trans (Nat.le_of_ble_eq_true rfl) hL⟩ (rest := []) (xpV hK (cut_TF_T0) hP hD rfl rfl) rfl hl rfl (Nat.le_of_ble_eq_true rfl) dX3_readOne_59 ⟨Nat.zero_le _, Nat.zero_le _⟩) (cut_TF_T0) hP hD hS hA (fun r1 u z2 H locs hz1 hw hP hD hS => ?_)
    have hw := hw z2 hz1
    refine lv_istore (lv' := [(5, .int r1), (0, .ref (h 0)), (1, .ref (g 0)), (2, .int x2), (4, .int x4)]) hx hb dX3_readOne_62 hl (by decide) rfl (fun ls hl => ?_)
    refine lv_iload hx hb dX3_readOne_64 (lv_at hl 0 rfl) ?_
    refine lv_if_ge (tgt := 71) hx hb dX3_readOne_66 (by decide) (fun hc => ?_) (fun hc => ?_)
    · have hw := And.left hw hc
      refine lv_iload hx hb dX3_readOne_71 (lv_at hl 4 rfl) ?_
      refine lv_bipush (v := (45 : Int32)) hx hb dX3_readOne_73 (by decide) ?_
      refine lv_icmp_ne (tgt := 84) hx hb dX3_readOne_75 (by decide) (fun hc => ?_) (fun hc => ?_)
      · have hw := And.left hw hc
        refine lv_iload hx hb dX3_readOne_84 (lv_at hl 0 rfl) ?_
        exact B86 x2 r1 z2 _ _ _ hw hP hD hS (lv_sub hl [1, 2, 3] rfl)
      · have hw := And.right hw hc
        refine lv_iload hx hb dX3_readOne_78 (lv_at hl 0 rfl) ?_
        refine lv_ineg hx hb dX3_readOne_80 ?_
        refine lv_goto (tgt := 86) hx hb dX3_readOne_81 (by decide) ?_
        exact B86 x2 (-r1) z2 _ _ _ hw hP hD hS (lv_sub hl [1, 2, 3] rfl)
    · have hw := And.right hw hc
      refine lv_iconst (v := (0 : Int32)) hx hb dX3_readOne_69 (by decide) ?_
      exact hret _ _ _ _ _ _ rfl hw hP hD hS dX3_readOne_70
  unfold wpX3_readOne at hw
  refine lv_aload_n hx hb dX3_readOne_0 rfl (lv_at hl 0 rfl) ?_
  refine xc_wi (S := wSt) (wsz := fun q => (wsTape G h q.1 ++ wsFolk G g q.2)) (f := fun u => (u, z0.2)) (xr_V hC (cX3_next_c (h := h) hw) ⟨rfl, rfl⟩ bw_289 calX3_next ⟨Nat.le_trans (Nat.le_of_ble_eq_true rfl) hF, Nat.le_trans (Nat.le_of_ble_eq_true rfl) hL⟩ (rest := []) (xpV hK (cut_TF_T0) hP hD rfl rfl) rfl hl rfl (Nat.le_of_ble_eq_true rfl) dX3_readOne_1 ⟨Nat.zero_le _, Nat.zero_le _⟩) (cut_TF_T0) hP hD hS hA (fun r1 u z1 H locs hz1 hw hP hD hS => ?_)
  have hw := hw z1 hz1
  refine vp_callSi (xro (xr_S hC (cX3_kindBy_c hw) ⟨rfl, rfl⟩ bw_293 calX3_kindBy ⟨Nat.le_trans (Nat.le_of_ble_eq_true rfl) hF, Nat.le_trans (Nat.le_of_ble_eq_true rfl) hL⟩ (rest := []) (xpS hK) rfl hl rfl (Nat.le_of_ble_eq_true rfl) dX3_readOne_4 ⟨Nat.zero_le _, Nat.zero_le _⟩)) (fun r2 hw => ?_)
  refine lv_istore_n (lv' := [(2, .int r2), (0, .ref (h 0)), (1, .ref (g 0))]) hx hb dX3_readOne_7 rfl hl (by decide) rfl (fun ls hl => ?_)
  refine lv_iload_n hx hb dX3_readOne_8 rfl (lv_at hl 0 rfl) ?_
  refine lv_if_ge (tgt := 14) hx hb dX3_readOne_9 (by decide) (fun hc => ?_) (fun hc => ?_)
  · have hw := And.left hw hc
    refine lv_aload_n hx hb dX3_readOne_14 rfl (lv_at hl 1 rfl) ?_
    refine lv_dup hx hb dX3_readOne_15 rfl ?_
    refine rg_TF_X3_0_2 hC hK hP dX3_readOne_16 ?_
    refine lv_iconst (v := (1 : Int32)) hx hb dX3_readOne_19 (by decide) ?_
    refine lv_iadd hx hb dX3_readOne_20 ?_
    refine rp_TF_X3_0_2 hC hK hP hD hS dX3_readOne_21 (fun z2 H locs hz1 hP hD hS => ?_)
    have hw := hw z2 hz1
    refine lv_iconst (v := (0 : Int32)) hx hb dX3_readOne_24 (by decide) ?_
    refine lv_istore_n (lv' := [(3, .int (0 : Int32)), (2, .int r2), (0, .ref (h 0)), (1, .ref (g 0))]) hx hb dX3_readOne_25 rfl hl (by decide) rfl (fun ls hl => ?_)
    refine lv_aload_n hx hb dX3_readOne_26 rfl (lv_at hl 2 rfl) ?_
    refine xc_wi (S := wSt) (wsz := fun q => (wsTape G h q.1 ++ wsFolk G g q.2)) (f := fun u => (u, z2.2)) (xr_V hC (cX3_next_c (h := h) hw) ⟨rfl, rfl⟩ bw_289 calX3_next ⟨Nat.le_trans (Nat.le_of_ble_eq_true rfl) hF, Nat.le_trans (Nat.le_of_ble_eq_true rfl) hL⟩ (rest := []) (xpV hK (cut_TF_T0) hP hD rfl rfl) rfl hl rfl (Nat.le_of_ble_eq_true rfl) dX3_readOne_27 ⟨Nat.zero_le _, Nat.zero_le _⟩) (cut_TF_T0) hP hD hS hA (fun r3 u z3 H locs hz1 hw hP hD hS => ?_)
    have hw := hw z3 hz1
    refine lv_istore (lv' := [(4, .int r3), (3, .int (0 : Int32)), (2, .int r2), (0, .ref (h 0)), (1, .ref (g 0))]) hx hb dX3_readOne_30 hl (by decide) rfl (fun ls hl => ?_)
    refine lv_iload hx hb dX3_readOne_32 (lv_at hl 0 rfl) ?_
    refine lv_bipush (v := (43 : Int32)) hx hb dX3_readOne_34 (by decide) ?_
    refine lv_icmp_eq (tgt := 46) hx hb dX3_readOne_36 (by decide) (fun hc => ?_) (fun hc => ?_)
    · have hw := And.left hw hc
      exact B46 r2 r3 z3 _ _ _ hw hP hD hS (lv_sub hl [3, 4, 2, 0] rfl)
    · have hw := And.right hw hc
      refine lv_iload hx hb dX3_readOne_39 (lv_at hl 0 rfl) ?_
      refine lv_bipush (v := (45 : Int32)) hx hb dX3_readOne_41 (by decide) ?_
      refine lv_icmp_ne (tgt := 87) hx hb dX3_readOne_43 (by decide) (fun hc => ?_) (fun hc => ?_)
      · have hw := And.left hw hc
        exact B87 r2 (0 : Int32) z3 _ _ _ hw hP hD hS (lv_sub hl [3, 4, 2, 1] rfl)
      · have hw := And.right hw hc
        exact B46 r2 r3 z3 _ _ _ hw hP hD hS (lv_sub hl [3, 4, 2, 0] rfl)
  · have hw := And.right hw hc
    refine lv_iconst (v := (0 : Int32)) hx hb dX3_readOne_12 (by decide) ?_
    exact hret _ _ _ _ _ _ rfl hw hP hD hS dX3_readOne_13
def wpX3_readFolk_54  (post : Int32 → (wSt × wSt) → Prop)  (z0 : wSt × wSt) : Prop := (wpX3_fault z0.1 (fun r1 => (post r1 z0)))
def wpX3_readFolk_12 (k12 : Int32 → (wSt × wSt) → Prop) (post : Int32 → (wSt × wSt) → Prop) (x2 : Int32) (z0 : wSt × wSt) : Prop := (((6 : Int32) < x2 → (wpX3_fault z0.1 (fun r1 => (post r1 z0)))) ∧ (¬ (6 : Int32) < x2 → (wpX3_readOne (z0.1, z0.2) (fun r2 u => ∀ z1 : wSt × wSt, z1 = ((u.1, z0.2).1, u.2) → ((¬ r2 = 0 → (wpX3_next z1.1 (fun r3 u => ∀ z2 : wSt × wSt, z2 = (u, z1.2) → ((¬ r3 = 0 → ((¬ r3 = (44 : Int32) → (wpX3_readFolk_54  post z2)) ∧ (r3 = (44 : Int32) → ((¬ x2 = (6 : Int32) → (∀ z3 : wSt × wSt, z3 = ((w_si z2.1 2 ((w_i z2.1 2) + (1 : Int32))), z2.2) → (k12 (x2 + (1 : Int32)) z3))) ∧ (x2 = (6 : Int32) → (wpX3_readFolk_54  post z2)))))) ∧ (r3 = 0 → (post x2 z2)))))) ∧ (r2 = 0 → (wpX3_fault z1.1 (fun r4 => (post r4 z1)))))))))
def wpX3_readFolk_L12  (post : Int32 → (wSt × wSt) → Prop) : Nat → Int32 → (wSt × wSt) → Prop
  | 0 => fun _ _ => False
  | n + 1 => fun x2 z0 => wpX3_readFolk_12  (wpX3_readFolk_L12  post n) post x2 z0
def wpX3_readFolk (z0 : wSt × wSt) (post : Int32 → (wSt × wSt) → Prop) : Prop := (∀ z1 : wSt × wSt, z1 = ((w_si z0.1 2 (0 : Int32)), z0.2) → (∀ z2 : wSt × wSt, z2 = (z1.1, (w_si z1.2 4 (0 : Int32))) → (∃ n, wpX3_readFolk_L12  post n (1 : Int32) z2)))
set_option maxHeartbeats 4000000 in
set_option maxRecDepth 100000 in
theorem cX3_readFolk_c {l : Launch} {G : wG} {h g : Nat → Nat} {sz : Nat}  {post : Int32 → (wSt × wSt) → Prop} {z0 : wSt × wSt}  (hw : wpX3_readFolk z0 post) : Met l yX3_readFolk (.code yX3_readFolk cX3_readFolk 4 (some .int) :: BIG) { frames := 3, cells := 0, slots := 0, locals := 70 } (xPw G [.ref (h 0), .ref (g 0)] (wsTape G h z0.1 ++ wsFolk G g z0.2) sz) (xQi G post (fun q => (wsTape G h q.1 ++ wsFolk G g q.2)) (va_A (wsTape G h z0.1 ++ wsFolk G g z0.2) sz)) 0 0 (va_A (wsTape G h z0.1 ++ wsFolk G g z0.2) sz) := by
  refine xm_wi (by decide) (Nat.le_of_ble_eq_true rfl) (fun p e s m args below meth c A ls R Q hC hK hA hP hD hS hl hF hL hret => ?_)
  have hx := hC.1
  have hb := hC.2.1
  have hl : lv_has ls 4 [(0, .ref (h 0)), (1, .ref (g 0))] := hl
  have B54 : ∀  (z0 : wSt × wSt) (H : Heap) (locs : List Loc) (ls : Array Slot), wpX3_readFolk_54  post z0 → va_P G.1 vwCl (wsTape G h z0.1 ++ wsFolk G g z0.2) H → va_D A (wsTape G h z0.1 ++ wsFolk G g z0.2) → va_S A s.heap H locs → lv_has ls 4 [(0, .ref (h 0))] → W p l e R s m args below meth c H locs 0 0 Q (F0 m 54 ls []) := by
    intro  z0 H locs ls hw hP hD hS hl
    unfold wpX3_readFolk_54 at hw
    refine lv_aload_n hx hb dX3_readFolk_54 rfl (lv_at hl 0 rfl) ?_
    refine vp_callSi (xro (xr_V hC (cX3_fault_c (h := h) hw) ⟨rfl, rfl⟩ bw_302 calX3_fault ⟨Nat.le_trans (Nat.le_of_ble_eq_true rfl) hF, Nat.le_trans (Nat.le_of_ble_eq_true rfl) hL⟩ (rest := []) (xpR hK (xCut.P (cut_TF_T0) hP) rfl rfl) rfl hl rfl (Nat.le_of_ble_eq_true rfl) dX3_readFolk_55 ⟨Nat.zero_le _, Nat.zero_le _⟩)) (fun r1 hw => ?_)
    exact hret _ _ _ _ _ _ hw hP hD hS dX3_readFolk_58
  have B12 : ∀ n12 : Nat, ∀ (x2 : Int32) (z0 : wSt × wSt) (H : Heap) (locs : List Loc) (ls : Array Slot), wpX3_readFolk_L12  post n12 x2 z0 → va_P G.1 vwCl (wsTape G h z0.1 ++ wsFolk G g z0.2) H → va_D A (wsTape G h z0.1 ++ wsFolk G g z0.2) → va_S A s.heap H locs → lv_has ls 4 [(0, .ref (h 0)), (1, .ref (g 0)), (2, .int x2)] → W p l e R s m args below meth c H locs 0 0 Q (F0 m 12 ls []) := by
    intro n12
    induction n12 with
    | zero => intro x2 z0 H locs ls hw hP hD hS hl; exact False.elim hw
    | succ n12 I12 =>
      intro x2 z0 H locs ls hw hP hD hS hl
      have hw : wpX3_readFolk_12  (wpX3_readFolk_L12  post n12) post x2 z0 := hw
      unfold wpX3_readFolk_12 at hw
      refine lv_iload_n hx hb dX3_readFolk_12 rfl (lv_at hl 2 rfl) ?_
      refine lv_bipush (v := (6 : Int32)) hx hb dX3_readFolk_13 (by decide) ?_
      refine lv_icmp_gt (tgt := 75) hx hb dX3_readFolk_15 (by decide) (fun hc => ?_) (fun hc => ?_)
      · have hw := And.left hw hc
        refine lv_aload_n hx hb dX3_readFolk_75 rfl (lv_at hl 0 rfl) ?_
        refine vp_callSi (xro (xr_V hC (cX3_fault_c (h := h) hw) ⟨rfl, rfl⟩ bw_302 calX3_fault ⟨Nat.le_trans (Nat.le_of_ble_eq_true rfl) hF, Nat.le_trans (Nat.le_of_ble_eq_true rfl) hL⟩ (rest := []) (xpR hK (xCut.P (cut_TF_T0) hP) rfl rfl) rfl hl rfl (Nat.le_of_ble_eq_true rfl) dX3_readFolk_76 ⟨Nat.zero_le _, Nat.zero_le _⟩)) (fun r1 hw => ?_)
        exact hret _ _ _ _ _ _ hw hP hD hS dX3_readFolk_79
      · have hw := And.right hw hc
        refine lv_aload_n hx hb dX3_readFolk_18 rfl (lv_at hl 0 rfl) ?_
        refine lv_aload_n hx hb dX3_readFolk_19 rfl (lv_at hl 1 rfl) ?_
        refine xc_wi (S := wSt × wSt) (wsz := fun q => (wsTape G h q.1 ++ wsFolk G g q.2)) (f := fun u => ((u.1, z0.2).1, u.2)) (xr_V hC (cX3_readOne_c (h := h) (g := g) hw) ⟨rfl, rfl⟩ bw_285 calX3_readOne ⟨Nat.le_trans (Nat.le_of_ble_eq_true rfl) hF, Nat.le_trans (Nat.le_of_ble_eq_true rfl) hL⟩ (rest := []) (xpV hK (cut_all_TF) hP hD rfl rfl) rfl hl rfl (Nat.le_of_ble_eq_true rfl) dX3_readFolk_20 ⟨Nat.zero_le _, Nat.zero_le _⟩) (cut_all_TF) hP hD hS hA (fun r2 u z1 H locs hz1 hw hP hD hS => ?_)
        have hw := hw z1 hz1
        refine lv_if_ne (tgt := 31) hx hb dX3_readFolk_23 (by decide) (fun hc => ?_) (fun hc => ?_)
        · have hw := And.left hw hc
          refine lv_aload_n hx hb dX3_readFolk_31 rfl (lv_at hl 0 rfl) ?_
          refine xc_wi (S := wSt) (wsz := fun q => (wsTape G h q.1 ++ wsFolk G g q.2)) (f := fun u => (u, z1.2)) (xr_V hC (cX3_next_c (h := h) hw) ⟨rfl, rfl⟩ bw_289 calX3_next ⟨Nat.le_trans (Nat.le_of_ble_eq_true rfl) hF, Nat.le_trans (Nat.le_of_ble_eq_true rfl) hL⟩ (rest := []) (xpV hK (cut_TF_T0) hP hD rfl rfl) rfl hl rfl (Nat.le_of_ble_eq_true rfl) dX3_readFolk_32 ⟨Nat.zero_le _, Nat.zero_le _⟩) (cut_TF_T0) hP hD hS hA (fun r3 u z2 H locs hz1 hw hP hD hS => ?_)
          have hw := hw z2 hz1
          refine lv_istore_n (lv' := [(3, .int r3), (0, .ref (h 0)), (1, .ref (g 0)), (2, .int x2)]) hx hb dX3_readFolk_35 rfl hl (by decide) rfl (fun ls hl => ?_)
          refine lv_iload_n hx hb dX3_readFolk_36 rfl (lv_at hl 0 rfl) ?_
          refine lv_if_ne (tgt := 42) hx hb dX3_readFolk_37 (by decide) (fun hc => ?_) (fun hc => ?_)
          · have hw := And.left hw hc
            refine lv_iload_n hx hb dX3_readFolk_42 rfl (lv_at hl 0 rfl) ?_
            refine lv_bipush (v := (44 : Int32)) hx hb dX3_readFolk_43 (by decide) ?_
            refine lv_icmp_ne (tgt := 54) hx hb dX3_readFolk_45 (by decide) (fun hc => ?_) (fun hc => ?_)
            · have hw := And.left hw hc
              exact B54 z2 _ _ _ hw hP hD hS (lv_sub hl [1] rfl)
            · have hw := And.right hw hc
              refine lv_iload_n hx hb dX3_readFolk_48 rfl (lv_at hl 3 rfl) ?_
              refine lv_bipush (v := (6 : Int32)) hx hb dX3_readFolk_49 (by decide) ?_
              refine lv_icmp_ne (tgt := 59) hx hb dX3_readFolk_51 (by decide) (fun hc => ?_) (fun hc => ?_)
              · have hw := And.left hw hc
                refine lv_aload_n hx hb dX3_readFolk_59 rfl (lv_at hl 1 rfl) ?_
                refine lv_dup hx hb dX3_readFolk_60 rfl ?_
                refine rg_TF_X3_0_2 hC hK hP dX3_readFolk_61 ?_
                refine lv_iconst (v := (1 : Int32)) hx hb dX3_readFolk_64 (by decide) ?_
                refine lv_iadd hx hb dX3_readFolk_65 ?_
                refine rp_TF_X3_0_2 hC hK hP hD hS dX3_readFolk_66 (fun z3 H locs hz1 hP hD hS => ?_)
                have hw := hw z3 hz1
                refine lv_iinc (v := (x2 + (1 : Int32))) (lv' := [(2, .int (x2 + (1 : Int32))), (3, .int r3), (0, .ref (h 0)), (1, .ref (g 0))]) hx hb dX3_readFolk_69 hl (k := 3) rfl rfl (by decide) rfl (fun ls hl => ?_)
                refine lv_goto (tgt := 12) hx hb dX3_readFolk_72 (by decide) ?_
                exact I12 (x2 + (1 : Int32)) z3 _ _ _ hw hP hD hS (lv_sub hl [2, 3, 0] rfl)
              · have hw := And.right hw hc
                exact B54 z2 _ _ _ hw hP hD hS (lv_sub hl [1] rfl)
          · have hw := And.right hw hc
            refine lv_iload_n hx hb dX3_readFolk_40 rfl (lv_at hl 3 rfl) ?_
            exact hret _ _ _ _ _ _ hw hP hD hS dX3_readFolk_41
        · have hw := And.right hw hc
          refine lv_aload_n hx hb dX3_readFolk_26 rfl (lv_at hl 0 rfl) ?_
          refine vp_callSi (xro (xr_V hC (cX3_fault_c (h := h) hw) ⟨rfl, rfl⟩ bw_302 calX3_fault ⟨Nat.le_trans (Nat.le_of_ble_eq_true rfl) hF, Nat.le_trans (Nat.le_of_ble_eq_true rfl) hL⟩ (rest := []) (xpR hK (xCut.P (cut_TF_T0) hP) rfl rfl) rfl hl rfl (Nat.le_of_ble_eq_true rfl) dX3_readFolk_27 ⟨Nat.zero_le _, Nat.zero_le _⟩)) (fun r4 hw => ?_)
          exact hret _ _ _ _ _ _ hw hP hD hS dX3_readFolk_30
  unfold wpX3_readFolk at hw
  refine lv_aload_n hx hb dX3_readFolk_0 rfl (lv_at hl 0 rfl) ?_
  refine lv_iconst (v := (0 : Int32)) hx hb dX3_readFolk_1 (by decide) ?_
  refine rp_TF_X3_0_2 hC hK hP hD hS dX3_readFolk_2 (fun z1 H locs hz1 hP hD hS => ?_)
  have hw := hw z1 hz1
  refine lv_aload_n hx hb dX3_readFolk_5 rfl (lv_at hl 1 rfl) ?_
  refine lv_iconst (v := (0 : Int32)) hx hb dX3_readFolk_6 (by decide) ?_
  refine rp_TF_X3_2_4 hC hK hP hD hS dX3_readFolk_7 (fun z2 H locs hz1 hP hD hS => ?_)
  have hw := hw z2 hz1
  refine lv_iconst (v := (1 : Int32)) hx hb dX3_readFolk_10 (by decide) ?_
  refine lv_istore_n (lv' := [(2, .int (1 : Int32)), (0, .ref (h 0)), (1, .ref (g 0))]) hx hb dX3_readFolk_11 rfl hl (by decide) rfl (fun ls hl => ?_)
  obtain ⟨j12, hw⟩ := hw
  exact B12 j12 (1 : Int32) z2 _ _ _ hw hP hD hS (lv_sub hl [1, 2, 0] rfl)
def wpX3_readPlan_70 (k7 : Int32 → (wSt × (Nat → Int32) × wSt) → Prop) (post : Int32 → (wSt × (Nat → Int32) × wSt) → Prop) (x3 : Int32) (x5 : Int32) (z0 : wSt × (Nat → Int32) × wSt) : Prop := (vp_in x3 24 ∧ ∀ z1 : wSt × (Nat → Int32) × wSt, z1 = (z0.1, (upd z0.2.1 x3.toNatClampNeg x5), z0.2.2) → (∀ z2 : wSt × (Nat → Int32) × wSt, z2 = ((w_si z1.1 2 ((w_i z1.1 2) + (1 : Int32))), z1.2.1, z1.2.2) → (k7 (x3 + (1 : Int32)) z2)))
def wpX3_readPlan_47 (k7 : Int32 → (wSt × (Nat → Int32) × wSt) → Prop) (post : Int32 → (wSt × (Nat → Int32) × wSt) → Prop) (x3 : Int32) (x4 : Int32) (t0 : Int32) (z0 : wSt × (Nat → Int32) × wSt) : Prop := ((x4 = (46 : Int32) → (wpX3_readPlan_70 k7 post x3 t0 z0)) ∧ (¬ x4 = (46 : Int32) → (wpX0_has t0 z0.2.2 (fun r1 => ((¬ r1 = 0 → (wpX3_readPlan_70 k7 post x3 t0 z0)) ∧ (r1 = 0 → (wpX3_fault z0.1 (fun r2 => (post r2 z0)))))))))
def wpX3_readPlan_30 (k7 : Int32 → (wSt × (Nat → Int32) × wSt) → Prop) (post : Int32 → (wSt × (Nat → Int32) × wSt) → Prop) (x3 : Int32) (x4 : Int32) (z0 : wSt × (Nat → Int32) × wSt) : Prop := ((¬ x4 = (46 : Int32) → (wpX3_readPlan_47 k7 post x3 x4 (x4 - (48 : Int32)) z0)) ∧ (x4 = (46 : Int32) → (wpX3_readPlan_47 k7 post x3 x4 (9 : Int32) z0)))
def wpX3_readPlan_7 (k7 : Int32 → (wSt × (Nat → Int32) × wSt) → Prop) (post : Int32 → (wSt × (Nat → Int32) × wSt) → Prop) (x3 : Int32) (z0 : wSt × (Nat → Int32) × wSt) : Prop := (((24 : Int32) ≤ x3 → (wpX3_next z0.1 (fun r1 u => ∀ z1 : wSt × (Nat → Int32) × wSt, z1 = (u, z0.2.1, z0.2.2) → ((¬ r1 = 0 → (wpX3_fault z1.1 (fun r2 => (post r2 z1)))) ∧ (r1 = 0 → (post (24 : Int32) z1)))))) ∧ (¬ (24 : Int32) ≤ x3 → (wpX3_next z0.1 (fun r3 u => ∀ z2 : wSt × (Nat → Int32) × wSt, z2 = (u, z0.2.1, z0.2.2) → ((¬ r3 = 0 → (wpX3_readPlan_30 k7 post x3 r3 z2)) ∧ (r3 = 0 → ((x3 ≤ 0 → (wpX3_readPlan_30 k7 post x3 r3 z2)) ∧ (¬ x3 ≤ 0 → (post x3 z2)))))))))
def wpX3_readPlan_L7  (post : Int32 → (wSt × (Nat → Int32) × wSt) → Prop) : Nat → Int32 → (wSt × (Nat → Int32) × wSt) → Prop
  | 0 => fun _ _ => False
  | n + 1 => fun x3 z0 => wpX3_readPlan_7  (wpX3_readPlan_L7  post n) post x3 z0
def wpX3_readPlan (z0 : wSt × (Nat → Int32) × wSt) (post : Int32 → (wSt × (Nat → Int32) × wSt) → Prop) : Prop := (∀ z1 : wSt × (Nat → Int32) × wSt, z1 = ((w_si z0.1 2 (0 : Int32)), z0.2.1, z0.2.2) → (∃ n, wpX3_readPlan_L7  post n (0 : Int32) z1))
set_option maxHeartbeats 4000000 in
set_option maxRecDepth 100000 in
theorem cX3_readPlan_c {l : Launch} {G : wG} {h g k : Nat → Nat} {sz : Nat}  {post : Int32 → (wSt × (Nat → Int32) × wSt) → Prop} {z0 : wSt × (Nat → Int32) × wSt}  (hw : wpX3_readPlan z0 post) : Met l yX3_readPlan (.code yX3_readPlan cX3_readPlan 6 (some .int) :: BIG) { frames := 1, cells := 0, slots := 0, locals := 21 } (xPw G [.ref (h 0), .ref (g 0), .ref (k 0)] (wsTape G h z0.1 ++ (wsArr G g 24 z0.2.1 ++ wsFolk G k z0.2.2)) sz) (xQi G post (fun q => (wsTape G h q.1 ++ (wsArr G g 24 q.2.1 ++ wsFolk G k q.2.2))) (va_A (wsTape G h z0.1 ++ (wsArr G g 24 z0.2.1 ++ wsFolk G k z0.2.2)) sz)) 0 0 (va_A (wsTape G h z0.1 ++ (wsArr G g 24 z0.2.1 ++ wsFolk G k z0.2.2)) sz) := by
  refine xm_wi (by decide) (Nat.le_of_ble_eq_true rfl) (fun p e s m args below meth c A ls R Q hC hK hA hP hD hS hl hF hL hret => ?_)
  have hx := hC.1
  have hb := hC.2.1
  have hl : lv_has ls 6 [(0, .ref (h 0)), (1, .ref (g 0)), (2, .ref (k 0))] := hl
  have B7 : ∀ n7 : Nat, ∀ (x3 : Int32) (z0 : wSt × (Nat → Int32) × wSt) (H : Heap) (locs : List Loc) (ls : Array Slot), wpX3_readPlan_L7  post n7 x3 z0 → va_P G.1 vwCl (wsTape G h z0.1 ++ (wsArr G g 24 z0.2.1 ++ wsFolk G k z0.2.2)) H → va_D A (wsTape G h z0.1 ++ (wsArr G g 24 z0.2.1 ++ wsFolk G k z0.2.2)) → va_S A s.heap H locs → lv_has ls 6 [(0, .ref (h 0)), (1, .ref (g 0)), (2, .ref (k 0)), (3, .int x3)] → W p l e R s m args below meth c H locs 0 0 Q (F0 m 7 ls []) := by
    intro n7
    induction n7 with
    | zero => intro x3 z0 H locs ls hw hP hD hS hl; exact False.elim hw
    | succ n7 I7 =>
      have B70 : ∀ (x3 : Int32) (x5 : Int32) (z0 : wSt × (Nat → Int32) × wSt) (H : Heap) (locs : List Loc) (ls : Array Slot), wpX3_readPlan_70 (wpX3_readPlan_L7  post n7) post x3 x5 z0 → va_P G.1 vwCl (wsTape G h z0.1 ++ (wsArr G g 24 z0.2.1 ++ wsFolk G k z0.2.2)) H → va_D A (wsTape G h z0.1 ++ (wsArr G g 24 z0.2.1 ++ wsFolk G k z0.2.2)) → va_S A s.heap H locs → lv_has ls 6 [(0, .ref (h 0)), (1, .ref (g 0)), (2, .ref (k 0)), (3, .int x3), (5, .int x5)] → W p l e R s m args below meth c H locs 0 0 Q (F0 m 70 ls []) := by
        intro x3 x5 z0 H locs ls hw hP hD hS hl
        unfold wpX3_readPlan_70 at hw
        refine lv_aload_n hx hb dX3_readPlan_70 rfl (lv_at hl 1 rfl) ?_
        refine lv_iload_n hx hb dX3_readPlan_71 rfl (lv_at hl 3 rfl) ?_
        refine lv_iload hx hb dX3_readPlan_72 (lv_at hl 4 rfl) ?_
        refine rs_TAF_2 hC hK hP hD hS (And.left hw) dX3_readPlan_74 (fun z1 H locs hz1 hP hD hS => ?_)
        have hw := And.right hw z1 hz1
        refine lv_aload_n hx hb dX3_readPlan_75 rfl (lv_at hl 0 rfl) ?_
        refine lv_dup hx hb dX3_readPlan_76 rfl ?_
        refine rg_TAF_X3_0_2 hC hK hP dX3_readPlan_77 ?_
        refine lv_iconst (v := (1 : Int32)) hx hb dX3_readPlan_80 (by decide) ?_
        refine lv_iadd hx hb dX3_readPlan_81 ?_
        refine rp_TAF_X3_0_2 hC hK hP hD hS dX3_readPlan_82 (fun z2 H locs hz1 hP hD hS => ?_)
        have hw := hw z2 hz1
        refine lv_iinc (v := (x3 + (1 : Int32))) (lv' := [(3, .int (x3 + (1 : Int32))), (0, .ref (h 0)), (1, .ref (g 0)), (2, .ref (k 0)), (5, .int x5)]) hx hb dX3_readPlan_85 hl (k := 3) rfl rfl (by decide) rfl (fun ls hl => ?_)
        refine lv_goto (tgt := 7) hx hb dX3_readPlan_88 (by decide) ?_
        exact I7 (x3 + (1 : Int32)) z2 _ _ _ hw hP hD hS (lv_sub hl [1, 2, 3, 0] rfl)
      have B47 : ∀ (x3 : Int32) (x4 : Int32) (t0 : Int32) (z0 : wSt × (Nat → Int32) × wSt) (H : Heap) (locs : List Loc) (ls : Array Slot), wpX3_readPlan_47 (wpX3_readPlan_L7  post n7) post x3 x4 t0 z0 → va_P G.1 vwCl (wsTape G h z0.1 ++ (wsArr G g 24 z0.2.1 ++ wsFolk G k z0.2.2)) H → va_D A (wsTape G h z0.1 ++ (wsArr G g 24 z0.2.1 ++ wsFolk G k z0.2.2)) → va_S A s.heap H locs → lv_has ls 6 [(0, .ref (h 0)), (1, .ref (g 0)), (2, .ref (k 0)), (3, .int x3), (4, .int x4)] → W p l e R s m args below meth c H locs 0 0 Q (F0 m 47 ls [.int t0]) := by
        intro x3 x4 t0 z0 H locs ls hw hP hD hS hl
        unfold wpX3_readPlan_47 at hw
        refine lv_istore (lv' := [(5, .int t0), (0, .ref (h 0)), (1, .ref (g 0)), (2, .ref (k 0)), (3, .int x3), (4, .int x4)]) hx hb dX3_readPlan_47 hl (by decide) rfl (fun ls hl => ?_)
        refine lv_iload hx hb dX3_readPlan_49 (lv_at hl 5 rfl) ?_
        refine lv_bipush (v := (46 : Int32)) hx hb dX3_readPlan_51 (by decide) ?_
        refine lv_icmp_eq (tgt := 70) hx hb dX3_readPlan_53 (by decide) (fun hc => ?_) (fun hc => ?_)
        · have hw := And.left hw hc
          exact B70 x3 t0 z0 _ _ _ hw hP hD hS (lv_sub hl [1, 2, 3, 4, 0] rfl)
        · have hw := And.right hw hc
          refine lv_aload_n hx hb dX3_readPlan_56 rfl (lv_at hl 3 rfl) ?_
          refine lv_iload hx hb dX3_readPlan_57 (lv_at hl 0 rfl) ?_
          refine vp_callSi (xro (xr_VN hC hK.2 (cX0_has_c (h := k) hw) ⟨rfl, rfl⟩ bw_322 calX0_has ⟨Nat.le_trans (Nat.le_of_ble_eq_true rfl) hF, Nat.le_trans (Nat.le_of_ble_eq_true rfl) hL⟩ (rest := []) (xpR hK (xCut.P (cut_TAF_F3) hP) rfl rfl) rfl hl rfl (Nat.le_of_ble_eq_true rfl) dX3_readPlan_59 ⟨Nat.zero_le _, Nat.zero_le _⟩)) (fun r1 hw => ?_)
          refine lv_if_ne (tgt := 70) hx hb dX3_readPlan_62 (by decide) (fun hc => ?_) (fun hc => ?_)
          · have hw := And.left hw hc
            exact B70 x3 t0 z0 _ _ _ hw hP hD hS (lv_sub hl [1, 2, 3, 4, 0] rfl)
          · have hw := And.right hw hc
            refine lv_aload_n hx hb dX3_readPlan_65 rfl (lv_at hl 1 rfl) ?_
            refine vp_callSi (xro (xr_V hC (cX3_fault_c (h := h) hw) ⟨rfl, rfl⟩ bw_302 calX3_fault ⟨Nat.le_trans (Nat.le_of_ble_eq_true rfl) hF, Nat.le_trans (Nat.le_of_ble_eq_true rfl) hL⟩ (rest := []) (xpR hK (xCut.P (cut_TAF_T0) hP) rfl rfl) rfl hl rfl (Nat.le_of_ble_eq_true rfl) dX3_readPlan_66 ⟨Nat.zero_le _, Nat.zero_le _⟩)) (fun r2 hw => ?_)
            exact hret _ _ _ _ _ _ hw hP hD hS dX3_readPlan_69
      have B30 : ∀ (x3 : Int32) (x4 : Int32) (z0 : wSt × (Nat → Int32) × wSt) (H : Heap) (locs : List Loc) (ls : Array Slot), wpX3_readPlan_30 (wpX3_readPlan_L7  post n7) post x3 x4 z0 → va_P G.1 vwCl (wsTape G h z0.1 ++ (wsArr G g 24 z0.2.1 ++ wsFolk G k z0.2.2)) H → va_D A (wsTape G h z0.1 ++ (wsArr G g 24 z0.2.1 ++ wsFolk G k z0.2.2)) → va_S A s.heap H locs → lv_has ls 6 [(0, .ref (h 0)), (1, .ref (g 0)), (2, .ref (k 0)), (3, .int x3), (4, .int x4)] → W p l e R s m args below meth c H locs 0 0 Q (F0 m 30 ls []) := by
        intro x3 x4 z0 H locs ls hw hP hD hS hl
        unfold wpX3_readPlan_30 at hw
        refine lv_iload hx hb dX3_readPlan_30 (lv_at hl 4 rfl) ?_
        refine lv_bipush (v := (46 : Int32)) hx hb dX3_readPlan_32 (by decide) ?_
        refine lv_icmp_ne (tgt := 42) hx hb dX3_readPlan_34 (by decide) (fun hc => ?_) (fun hc => ?_)
        · have hw := And.left hw hc
          refine lv_iload hx hb dX3_readPlan_42 (lv_at hl 4 rfl) ?_
          refine lv_bipush (v := (48 : Int32)) hx hb dX3_readPlan_44 (by decide) ?_
          refine lv_isub hx hb dX3_readPlan_46 ?_
          exact B47 x3 x4 (x4 - (48 : Int32)) z0 _ _ _ hw hP hD hS (lv_sub hl [0, 1, 2, 3, 4] rfl)
        · have hw := And.right hw hc
          refine lv_bipush (v := (9 : Int32)) hx hb dX3_readPlan_37 (by decide) ?_
          refine lv_goto (tgt := 47) hx hb dX3_readPlan_39 (by decide) ?_
          exact B47 x3 x4 (9 : Int32) z0 _ _ _ hw hP hD hS (lv_sub hl [0, 1, 2, 3, 4] rfl)
      intro x3 z0 H locs ls hw hP hD hS hl
      have hw : wpX3_readPlan_7  (wpX3_readPlan_L7  post n7) post x3 z0 := hw
      unfold wpX3_readPlan_7 at hw
      refine lv_iload_n hx hb dX3_readPlan_7 rfl (lv_at hl 3 rfl) ?_
      refine lv_bipush (v := (24 : Int32)) hx hb dX3_readPlan_8 (by decide) ?_
      refine lv_icmp_ge (tgt := 91) hx hb dX3_readPlan_10 (by decide) (fun hc => ?_) (fun hc => ?_)
      · have hw := And.left hw hc
        refine lv_aload_n hx hb dX3_readPlan_91 rfl (lv_at hl 0 rfl) ?_
        refine xc_wi (S := wSt) (wsz := fun q => (wsTape G h q.1 ++ (wsArr G g 24 q.2.1 ++ wsFolk G k q.2.2))) (f := fun u => (u, z0.2.1, z0.2.2)) (xr_V hC (cX3_next_c (h := h) hw) ⟨rfl, rfl⟩ bw_289 calX3_next ⟨Nat.le_trans (Nat.le_of_ble_eq_true rfl) hF, Nat.le_trans (Nat.le_of_ble_eq_true rfl) hL⟩ (rest := []) (xpV hK (cut_TAF_T0) hP hD rfl rfl) rfl hl rfl (Nat.le_of_ble_eq_true rfl) dX3_readPlan_92 ⟨Nat.zero_le _, Nat.zero_le _⟩) (cut_TAF_T0) hP hD hS hA (fun r1 u z1 H locs hz1 hw hP hD hS => ?_)
        have hw := hw z1 hz1
        refine lv_if_ne (tgt := 103) hx hb dX3_readPlan_95 (by decide) (fun hc => ?_) (fun hc => ?_)
        · have hw := And.left hw hc
          refine lv_aload_n hx hb dX3_readPlan_103 rfl (lv_at hl 0 rfl) ?_
          refine vp_callSi (xro (xr_V hC (cX3_fault_c (h := h) hw) ⟨rfl, rfl⟩ bw_302 calX3_fault ⟨Nat.le_trans (Nat.le_of_ble_eq_true rfl) hF, Nat.le_trans (Nat.le_of_ble_eq_true rfl) hL⟩ (rest := []) (xpR hK (xCut.P (cut_TAF_T0) hP) rfl rfl) rfl hl rfl (Nat.le_of_ble_eq_true rfl) dX3_readPlan_104 ⟨Nat.zero_le _, Nat.zero_le _⟩)) (fun r2 hw => ?_)
          exact hret _ _ _ _ _ _ hw hP hD hS dX3_readPlan_107
        · have hw := And.right hw hc
          refine lv_bipush (v := (24 : Int32)) hx hb dX3_readPlan_98 (by decide) ?_
          refine lv_goto (tgt := 107) hx hb dX3_readPlan_100 (by decide) ?_
          exact hret _ _ _ _ _ _ hw hP hD hS dX3_readPlan_107
      · have hw := And.right hw hc
        refine lv_aload_n hx hb dX3_readPlan_13 rfl (lv_at hl 0 rfl) ?_
        refine xc_wi (S := wSt) (wsz := fun q => (wsTape G h q.1 ++ (wsArr G g 24 q.2.1 ++ wsFolk G k q.2.2))) (f := fun u => (u, z0.2.1, z0.2.2)) (xr_V hC (cX3_next_c (h := h) hw) ⟨rfl, rfl⟩ bw_289 calX3_next ⟨Nat.le_trans (Nat.le_of_ble_eq_true rfl) hF, Nat.le_trans (Nat.le_of_ble_eq_true rfl) hL⟩ (rest := []) (xpV hK (cut_TAF_T0) hP hD rfl rfl) rfl hl rfl (Nat.le_of_ble_eq_true rfl) dX3_readPlan_14 ⟨Nat.zero_le _, Nat.zero_le _⟩) (cut_TAF_T0) hP hD hS hA (fun r3 u z2 H locs hz1 hw hP hD hS => ?_)
        have hw := hw z2 hz1
        refine lv_istore (lv' := [(4, .int r3), (0, .ref (h 0)), (1, .ref (g 0)), (2, .ref (k 0)), (3, .int x3)]) hx hb dX3_readPlan_17 hl (by decide) rfl (fun ls hl => ?_)
        refine lv_iload hx hb dX3_readPlan_19 (lv_at hl 0 rfl) ?_
        refine lv_if_ne (tgt := 30) hx hb dX3_readPlan_21 (by decide) (fun hc => ?_) (fun hc => ?_)
        · have hw := And.left hw hc
          exact B30 x3 r3 z2 _ _ _ hw hP hD hS (lv_sub hl [1, 2, 3, 4, 0] rfl)
        · have hw := And.right hw hc
          refine lv_iload_n hx hb dX3_readPlan_24 rfl (lv_at hl 4 rfl) ?_
          refine lv_if_le (tgt := 30) hx hb dX3_readPlan_25 (by decide) (fun hc => ?_) (fun hc => ?_)
          · have hw := And.left hw hc
            exact B30 x3 r3 z2 _ _ _ hw hP hD hS (lv_sub hl [1, 2, 3, 4, 0] rfl)
          · have hw := And.right hw hc
            refine lv_iload_n hx hb dX3_readPlan_28 rfl (lv_at hl 4 rfl) ?_
            exact hret _ _ _ _ _ _ hw hP hD hS dX3_readPlan_29
  unfold wpX3_readPlan at hw
  refine lv_aload_n hx hb dX3_readPlan_0 rfl (lv_at hl 0 rfl) ?_
  refine lv_iconst (v := (0 : Int32)) hx hb dX3_readPlan_1 (by decide) ?_
  refine rp_TAF_X3_0_2 hC hK hP hD hS dX3_readPlan_2 (fun z1 H locs hz1 hP hD hS => ?_)
  have hw := hw z1 hz1
  refine lv_iconst (v := (0 : Int32)) hx hb dX3_readPlan_5 (by decide) ?_
  refine lv_istore_n (lv' := [(3, .int (0 : Int32)), (0, .ref (h 0)), (1, .ref (g 0)), (2, .ref (k 0))]) hx hb dX3_readPlan_6 rfl hl (by decide) rfl (fun ls hl => ?_)
  obtain ⟨j7, hw⟩ := hw
  exact B7 j7 (0 : Int32) z1 _ _ _ hw hP hD hS (lv_sub hl [1, 2, 3, 0] rfl)
