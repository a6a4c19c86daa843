def wpX6_readDigit (x1 : Int32) (x2 : Int32) (z0 : wSt) (post : Int32 → (wSt) → Prop) : Prop := (wpX6_nextByte z0 (fun r1 u => ∀ z1 : wSt, z1 = u → (wpX6_in ((r1 - (48 : Int32)).toInt64) (x1.toInt64) (x2.toInt64) (fun r2 => ((¬ r2 = 0 → (∀ z2 : wSt, z2 = (w_si z1 18 ((w_i z1 18) + (1 : Int32))) → (post (r1 - (48 : Int32)) z2))) ∧ (r2 = 0 → (post (-1 : Int32) z1)))))))
set_option maxHeartbeats 4000000 in
set_option maxRecDepth 100000 in
theorem cX6_readDigit_c {l : Launch} {G : wG} {h : Nat → Nat} {sz : Nat} {x1 : Int32} {x2 : Int32} {post : Int32 → (wSt) → Prop} {z0 : wSt}  (hw : wpX6_readDigit x1 x2 z0 post) : Met l yX6_readDigit (.code yX6_readDigit cX6_readDigit 4 (some .int) :: BIG) { frames := 1, cells := 0, slots := 0, locals := 25 } (xPw G [.ref (h 0), .int x1, .int x2] (wsM G h z0) sz) (xQi G post (fun q => (wsM G h q)) (va_A (wsM G h z0) sz)) 0 0 (va_A (wsM G h z0) sz) := by
  refine xm_wi (by decide) (Nat.le_of_ble_eq_true rfl) (fun p e s m args below meth c A ls R Q hC hK hA hP hD hS hl hF hL hret => ?_)
  have hx := hC.1
  have hb := hC.2.1
  have hl : lv_has ls 4 [(0, .ref (h 0)), (1, .int x1), (2, .int x2)] := hl
  unfold wpX6_readDigit at hw
  refine lv_aload_n hx hb dX6_readDigit_0 rfl (lv_at hl 0 rfl) ?_
  refine xc_wi (S := wSt) (wsz := fun q => (wsM G h q)) (f := fun u => u) (xr_V hC (cX6_nextByte_c (h := h) hw) ⟨rfl, rfl⟩ bw_761 calX6_nextByte ⟨Nat.le_trans (Nat.le_of_ble_eq_true rfl) hF, Nat.le_trans (Nat.le_of_ble_eq_true rfl) hL⟩ (rest := []) (xpV hK (cut_all_M) hP hD rfl rfl) rfl hl rfl (Nat.le_of_ble_eq_true rfl) dX6_readDigit_1 ⟨Nat.zero_le _, Nat.zero_le _⟩) (cut_all_M) hP hD hS hA (fun r1 u z1 H locs hz1 hw hP hD hS => ?_)
  have hw := hw z1 hz1
  refine lv_bipush (v := (48 : Int32)) hx hb dX6_readDigit_4 (by decide) ?_
  refine lv_isub hx hb dX6_readDigit_6 ?_
  refine lv_istore_n (lv' := [(3, .int (r1 - (48 : Int32))), (0, .ref (h 0)), (1, .int x1), (2, .int x2)]) hx hb dX6_readDigit_7 rfl hl (by decide) rfl (fun ls hl => ?_)
  refine lv_iload_n hx hb dX6_readDigit_8 rfl (lv_at hl 0 rfl) ?_
  refine lv_i2l (v := ((r1 - (48 : Int32)).toInt64)) hx hb dX6_readDigit_9 rfl ?_
  refine lv_iload_n hx hb dX6_readDigit_10 rfl (lv_at hl 2 rfl) ?_
  refine lv_i2l (v := (x1.toInt64)) hx hb dX6_readDigit_11 rfl ?_
  refine lv_iload_n hx hb dX6_readDigit_12 rfl (lv_at hl 3 rfl) ?_
  refine lv_i2l (v := (x2.toInt64)) hx hb dX6_readDigit_13 rfl ?_
  refine vp_callSi (xro (xr_S hC (cX6_in_c hw) ⟨rfl, rfl⟩ bw_700 calX6_in ⟨Nat.le_trans (Nat.le_of_ble_eq_true rfl) hF, Nat.le_trans (Nat.le_of_ble_eq_true rfl) hL⟩ (rest := []) (xpS hK) rfl hl rfl (Nat.le_of_ble_eq_true rfl) dX6_readDigit_14 ⟨Nat.zero_le _, Nat.zero_le _⟩)) (fun r2 hw => ?_)
  refine lv_if_ne (tgt := 22) hx hb dX6_readDigit_17 (by decide) (fun hc => ?_) (fun hc => ?_)
  · have hw := And.left hw hc
    refine lv_aload_n hx hb dX6_readDigit_22 rfl (lv_at hl 1 rfl) ?_
    refine lv_dup hx hb dX6_readDigit_23 rfl ?_
    refine rg_M_X6_0_18 hC hK hP dX6_readDigit_24 ?_
    refine lv_iconst (v := (1 : Int32)) hx hb dX6_readDigit_27 (by decide) ?_
    refine lv_iadd hx hb dX6_readDigit_28 ?_
    refine rp_M_X6_0_18 hC hK hP hD hS dX6_readDigit_29 (fun z2 H locs hz1 hP hD hS => ?_)
    have hw := hw z2 hz1
    refine lv_iload_n hx hb dX6_readDigit_32 rfl (lv_at hl 0 rfl) ?_
    exact hret _ _ _ _ _ _ hw hP hD hS dX6_readDigit_33
  · have hw := And.right hw hc
    refine lv_iconst (v := (-1 : Int32)) hx hb dX6_readDigit_20 (by decide) ?_
    exact hret _ _ _ _ _ _ hw hP hD hS dX6_readDigit_21
def wpX6_readOne_189  (post : Int32 → (wSt) → Prop) (x1 : Int32) (z0 : wSt) : Prop := (vp_in (x1 + (2 : Int32)) 24 ∧ ((((w_a z0 20) (x1 + (2 : Int32)).toNatClampNeg) ≤ 0 → (post (0 : Int32) z0)) ∧ (¬ ((w_a z0 20) (x1 + (2 : Int32)).toNatClampNeg) ≤ 0 → (post (1 : Int32) z0))))
def wpX6_readOne_146  (post : Int32 → (wSt) → Prop) (x1 : Int32) (z0 : wSt) : Prop := (vp_in (x1 + (2 : Int32)) 24 ∧ ∀ z1 : wSt, z1 = (w_sa z0 20 (upd (w_a z0 20) (x1 + (2 : Int32)).toNatClampNeg (1 : Int32))) → (wpX6_nextByte z1 (fun r1 u => ∀ z2 : wSt, z2 = u → ((¬ r1 = (114 : Int32) → (wpX6_readOne_189  post x1 z2)) ∧ (r1 = (114 : Int32) → (∀ z3 : wSt, z3 = (w_si z2 18 ((w_i z2 18) + (1 : Int32))) → (wpX6_readDigit (1 : Int32) (9 : Int32) z3 (fun r2 u => ∀ z4 : wSt, z4 = u → (vp_in (x1 + (2 : Int32)) 24 ∧ ∀ z5 : wSt, z5 = (w_sa z4 20 (upd (w_a z4 20) (x1 + (2 : Int32)).toNatClampNeg r2)) → (wpX6_readOne_189  post x1 z5))))))))))
def wpX6_readOne_145  (post : Int32 → (wSt) → Prop) (x1 : Int32) (t0 : Int32) (t1 : Int32) (z0 : wSt) : Prop := (vp_in t1 24 ∧ ∀ z1 : wSt, z1 = (w_sa z0 20 (upd (w_a z0 20) t1.toNatClampNeg t0)) → (wpX6_readOne_146  post x1 z1))
def wpX6_readOne_99  (post : Int32 → (wSt) → Prop) (x1 : Int32) (x3 : Int32) (z0 : wSt) : Prop := (∀ z1 : wSt, z1 = (w_si z0 18 ((w_i z0 18) + (1 : Int32))) → (wpX6_readDigit (0 : Int32) (3 : Int32) z1 (fun r1 u => ∀ z2 : wSt, z2 = u → ((0 ≤ r1 → ((¬ x3 = (43 : Int32) → (wpX6_readOne_145  post x1 (-r1) (x1 + (1 : Int32)) z2)) ∧ (x3 = (43 : Int32) → (wpX6_readOne_145  post x1 r1 (x1 + (1 : Int32)) z2)))) ∧ (¬ 0 ≤ r1 → (post (0 : Int32) z2))))))
def wpX6_readOne_51  (post : Int32 → (wSt) → Prop) (x1 : Int32) (t0 : Int32) (t1 : Int32) (z0 : wSt) : Prop := (vp_in t1 24 ∧ ∀ z1 : wSt, z1 = (w_sa z0 20 (upd (w_a z0 20) t1.toNatClampNeg t0)) → (vp_in x1 24 ∧ ((0 ≤ ((w_a z1 20) x1.toNatClampNeg) → (∀ z2 : wSt, z2 = (w_si z1 18 ((w_i z1 18) + (1 : Int32))) → (vp_in (x1 + (1 : Int32)) 24 ∧ ∀ z3 : wSt, z3 = (w_sa z2 20 (upd (w_a z2 20) (x1 + (1 : Int32)).toNatClampNeg (0 : Int32))) → (wpX6_nextByte z3 (fun r1 u => ∀ z4 : wSt, z4 = u → ((r1 = (43 : Int32) → (wpX6_readOne_99  post x1 r1 z4)) ∧ (¬ r1 = (43 : Int32) → ((¬ r1 = (45 : Int32) → (wpX6_readOne_146  post x1 z4)) ∧ (r1 = (45 : Int32) → (wpX6_readOne_99  post x1 r1 z4)))))))))) ∧ (¬ 0 ≤ ((w_a z1 20) x1.toNatClampNeg) → (post (0 : Int32) z1)))))
def wpX6_readOne (x1 : Int32) (z0 : wSt) (post : Int32 → (wSt) → Prop) : Prop := (wpX6_nextByte z0 (fun r1 u => ∀ z1 : wSt, z1 = u → ((¬ r1 = (112 : Int32) → ((¬ r1 = (115 : Int32) → ((¬ r1 = (118 : Int32) → ((¬ r1 = (109 : Int32) → (wpX6_readOne_51  post x1 (-1 : Int32) x1 z1)) ∧ (r1 = (109 : Int32) → (wpX6_readOne_51  post x1 (3 : Int32) x1 z1)))) ∧ (r1 = (118 : Int32) → (wpX6_readOne_51  post x1 (2 : Int32) x1 z1)))) ∧ (r1 = (115 : Int32) → (wpX6_readOne_51  post x1 (1 : Int32) x1 z1)))) ∧ (r1 = (112 : Int32) → (wpX6_readOne_51  post x1 (0 : Int32) x1 z1)))))
set_option maxHeartbeats 4000000 in
set_option maxRecDepth 100000 in
theorem cX6_readOne_c {l : Launch} {G : wG} {h : Nat → Nat} {sz : Nat} {x1 : Int32} {post : Int32 → (wSt) → Prop} {z0 : wSt}  (hw : wpX6_readOne x1 z0 post) : Met l yX6_readOne (.code yX6_readOne cX6_readOne 5 (some .boolean) :: BIG) { frames := 2, cells := 0, slots := 0, locals := 48 } (xPw G [.ref (h 0), .int x1] (wsM G h z0) sz) (xQi G post (fun q => (wsM G h q)) (va_A (wsM G h z0) sz)) 0 0 (va_A (wsM G h z0) sz) := by
  refine xm_wz (by decide) (Nat.le_of_ble_eq_true rfl) (fun p e s m args below meth c A ls R Q hC hK hA hP hD hS hl hF hL hret => ?_)
  have hx := hC.1
  have hb := hC.2.1
  have hl : lv_has ls 5 [(0, .ref (h 0)), (1, .int x1)] := hl
  have B189 : ∀ (x1 : Int32) (z0 : wSt) (H : Heap) (locs : List Loc) (ls : Array Slot), wpX6_readOne_189  post x1 z0 → va_P G.1 vwCl (wsM G h z0) H → va_D A (wsM G h z0) → va_S A s.heap H locs → lv_has ls 5 [(0, .ref (h 0)), (1, .int x1)] → W p l e R s m args below meth c H locs 0 0 Q (F0 m 189 ls []) := by
    intro x1 z0 H locs ls hw hP hD hS hl
    unfold wpX6_readOne_189 at hw
    refine lv_aload_n hx hb dX6_readOne_189 rfl (lv_at hl 0 rfl) ?_
    refine rg_M_X6_0_20 hC hK hP dX6_readOne_190 ?_
    refine lv_iload_n hx hb dX6_readOne_193 rfl (lv_at hl 1 rfl) ?_
    refine lv_iconst (v := (2 : Int32)) hx hb dX6_readOne_194 (by decide) ?_
    refine lv_iadd hx hb dX6_readOne_195 ?_
    refine rl_M_8 hC hK hP (And.left hw) dX6_readOne_196 ?_
    have hw := And.right hw
    refine lv_if_le (tgt := 204) hx hb dX6_readOne_197 (by decide) (fun hc => ?_) (fun hc => ?_)
    · have hw := And.left hw hc
      refine lv_iconst (v := (0 : Int32)) hx hb dX6_readOne_204 (by decide) ?_
      exact hret _ _ _ _ _ _ rfl hw hP hD hS dX6_readOne_205
    · have hw := And.right hw hc
      refine lv_iconst (v := (1 : Int32)) hx hb dX6_readOne_200 (by decide) ?_
      refine lv_goto (tgt := 205) hx hb dX6_readOne_201 (by decide) ?_
      exact hret _ _ _ _ _ _ rfl hw hP hD hS dX6_readOne_205
  have B146 : ∀ (x1 : Int32) (z0 : wSt) (H : Heap) (locs : List Loc) (ls : Array Slot), wpX6_readOne_146  post x1 z0 → va_P G.1 vwCl (wsM G h z0) H → va_D A (wsM G h z0) → va_S A s.heap H locs → lv_has ls 5 [(0, .ref (h 0)), (1, .int x1)] → W p l e R s m args below meth c H locs 0 0 Q (F0 m 146 ls []) := by
    intro x1 z0 H locs ls hw hP hD hS hl
    unfold wpX6_readOne_146 at hw
    refine lv_aload_n hx hb dX6_readOne_146 rfl (lv_at hl 0 rfl) ?_
    refine rg_M_X6_0_20 hC hK hP dX6_readOne_147 ?_
    refine lv_iload_n hx hb dX6_readOne_150 rfl (lv_at hl 1 rfl) ?_
    refine lv_iconst (v := (2 : Int32)) hx hb dX6_readOne_151 (by decide) ?_
    refine lv_iadd hx hb dX6_readOne_152 ?_
    refine lv_iconst (v := (1 : Int32)) hx hb dX6_readOne_153 (by decide) ?_
    refine rs_M_8 hC hK hP hD hS (And.left hw) dX6_readOne_154 (fun z1 H locs hz1 hP hD hS => ?_)
    have hw := And.right hw z1 hz1
    refine lv_aload_n hx hb dX6_readOne_155 rfl (lv_at hl 0 rfl) ?_
    refine xc_wi (S := wSt) (wsz := fun q => (wsM G h q)) (f := fun u => u) (xr_V hC (cX6_nextByte_c (h := h) hw) ⟨rfl, rfl⟩ bw_761 calX6_nextByte ⟨Nat.le_trans (Nat.le_of_ble_eq_true rfl) hF, Nat.le_trans (Nat.le_of_ble_eq_true rfl) hL⟩ (rest := []) (xpV hK (cut_all_M) hP hD rfl rfl) rfl hl rfl (Nat.le_of_ble_eq_true rfl) dX6_readOne_156 ⟨Nat.zero_le _, Nat.zero_le _⟩) (cut_all_M) hP hD hS hA (fun r1 u z2 H locs hz1 hw hP hD hS => ?_)
    have hw := hw z2 hz1
    refine lv_bipush (v := (114 : Int32)) hx hb dX6_readOne_159 (by decide) ?_
    refine lv_icmp_ne (tgt := 189) hx hb dX6_readOne_161 (by decide) (fun hc => ?_) (fun hc => ?_)
    · have hw := And.left hw hc
      exact B189 x1 z2 _ _ _ hw hP hD hS (lv_sub hl [0, 1] rfl)
    · have hw := And.right hw hc
      refine lv_aload_n hx hb dX6_readOne_164 rfl (lv_at hl 0 rfl) ?_
      refine lv_dup hx hb dX6_readOne_165 rfl ?_
      refine rg_M_X6_0_18 hC hK hP dX6_readOne_166 ?_
      refine lv_iconst (v := (1 : Int32)) hx hb dX6_readOne_169 (by decide) ?_
      refine lv_iadd hx hb dX6_readOne_170 ?_
      refine rp_M_X6_0_18 hC hK hP hD hS dX6_readOne_171 (fun z3 H locs hz1 hP hD hS => ?_)
      have hw := hw z3 hz1
      refine lv_aload_n hx hb dX6_readOne_174 rfl (lv_at hl 0 rfl) ?_
      refine rg_M_X6_0_20 hC hK hP dX6_readOne_175 ?_
      refine lv_iload_n hx hb dX6_readOne_178 rfl (lv_at hl 1 rfl) ?_
      refine lv_iconst (v := (2 : Int32)) hx hb dX6_readOne_179 (by decide) ?_
      refine lv_iadd hx hb dX6_readOne_180 ?_
      refine lv_aload_n hx hb dX6_readOne_181 rfl (lv_at hl 0 rfl) ?_
      refine lv_iconst (v := (1 : Int32)) hx hb dX6_readOne_182 (by decide) ?_
      refine lv_bipush (v := (9 : Int32)) hx hb dX6_readOne_183 (by decide) ?_
      refine xc_wi (S := wSt) (wsz := fun q => (wsM G h q)) (f := fun u => u) (xr_V hC (cX6_readDigit_c (h := h) hw) ⟨rfl, rfl⟩ bw_765 calX6_readDigit ⟨Nat.le_trans (Nat.le_of_ble_eq_true rfl) hF, Nat.le_trans (Nat.le_of_ble_eq_true rfl) hL⟩ (rest := [.int (x1 + (2 : Int32)), .ref (h 8)]) (xpV hK (cut_all_M) hP hD rfl rfl) rfl hl rfl (Nat.le_of_ble_eq_true rfl) dX6_readOne_185 ⟨Nat.zero_le _, Nat.zero_le _⟩) (cut_all_M) hP hD hS hA (fun r2 u z4 H locs hz1 hw hP hD hS => ?_)
      have hw := hw z4 hz1
      refine rs_M_8 hC hK hP hD hS (And.left hw) dX6_readOne_188 (fun z5 H locs hz1 hP hD hS => ?_)
      have hw := And.right hw z5 hz1
      exact B189 x1 z5 _ _ _ hw hP hD hS (lv_sub hl [0, 1] rfl)
  have B145 : ∀ (x1 : Int32) (t0 : Int32) (t1 : Int32) (z0 : wSt) (H : Heap) (locs : List Loc) (ls : Array Slot), wpX6_readOne_145  post x1 t0 t1 z0 → va_P G.1 vwCl (wsM G h z0) H → va_D A (wsM G h z0) → va_S A s.heap H locs → lv_has ls 5 [(0, .ref (h 0)), (1, .int x1)] → W p l e R s m args below meth c H locs 0 0 Q (F0 m 145 ls [.int t0, .int t1, .ref (h 8)]) := by
    intro x1 t0 t1 z0 H locs ls hw hP hD hS hl
    unfold wpX6_readOne_145 at hw
    refine rs_M_8 hC hK hP hD hS (And.left hw) dX6_readOne_145 (fun z1 H locs hz1 hP hD hS => ?_)
    have hw := And.right hw z1 hz1
    exact B146 x1 z1 _ _ _ hw hP hD hS (lv_sub hl [0, 1] rfl)
  have B99 : ∀ (x1 : Int32) (x3 : Int32) (z0 : wSt) (H : Heap) (locs : List Loc) (ls : Array Slot), wpX6_readOne_99  post x1 x3 z0 → va_P G.1 vwCl (wsM G h z0) H → va_D A (wsM G h z0) → va_S A s.heap H locs → lv_has ls 5 [(0, .ref (h 0)), (1, .int x1), (3, .int x3)] → W p l e R s m args below meth c H locs 0 0 Q (F0 m 99 ls []) := by
    intro x1 x3 z0 H locs ls hw hP hD hS hl
    unfold wpX6_readOne_99 at hw
    refine lv_aload_n hx hb dX6_readOne_99 rfl (lv_at hl 0 rfl) ?_
    refine lv_dup hx hb dX6_readOne_100 rfl ?_
    refine rg_M_X6_0_18 hC hK hP dX6_readOne_101 ?_
    refine lv_iconst (v := (1 : Int32)) hx hb dX6_readOne_104 (by decide) ?_
    refine lv_iadd hx hb dX6_readOne_105 ?_
    refine rp_M_X6_0_18 hC hK hP hD hS dX6_readOne_106 (fun z1 H locs hz1 hP hD hS => ?_)
    have hw := hw z1 hz1
    refine lv_aload_n hx hb dX6_readOne_109 rfl (lv_at hl 0 rfl) ?_
    refine lv_iconst (v := (0 : Int32)) hx hb dX6_readOne_110 (by decide) ?_
    refine lv_iconst (v := (3 : Int32)) hx hb dX6_readOne_111 (by decide) ?_
    refine xc_wi (S := wSt) (wsz := fun q => (wsM G h q)) (f := fun u => u) (xr_V hC (cX6_readDigit_c (h := h) hw) ⟨rfl, rfl⟩ bw_765 calX6_readDigit ⟨Nat.le_trans (Nat.le_of_ble_eq_true rfl) hF, Nat.le_trans (Nat.le_of_ble_eq_true rfl) hL⟩ (rest := []) (xpV hK (cut_all_M) hP hD rfl rfl) rfl hl rfl (Nat.le_of_ble_eq_true rfl) dX6_readOne_112 ⟨Nat.zero_le _, Nat.zero_le _⟩) (cut_all_M) hP hD hS hA (fun r1 u z2 H locs hz1 hw hP hD hS => ?_)
    have hw := hw z2 hz1
    refine lv_istore (lv' := [(4, .int r1), (0, .ref (h 0)), (1, .int x1), (3, .int x3)]) hx hb dX6_readOne_115 hl (by decide) rfl (fun ls hl => ?_)
    refine lv_iload hx hb dX6_readOne_117 (lv_at hl 0 rfl) ?_
    refine lv_if_ge (tgt := 124) hx hb dX6_readOne_119 (by decide) (fun hc => ?_) (fun hc => ?_)
    · have hw := And.left hw hc
      refine lv_aload_n hx hb dX6_readOne_124 rfl (lv_at hl 1 rfl) ?_
      refine rg_M_X6_0_20 hC hK hP dX6_readOne_125 ?_
      refine lv_iload_n hx hb dX6_readOne_128 rfl (lv_at hl 2 rfl) ?_
      refine lv_iconst (v := (1 : Int32)) hx hb dX6_readOne_129 (by decide) ?_
      refine lv_iadd hx hb dX6_readOne_130 ?_
      refine lv_iload_n hx hb dX6_readOne_131 rfl (lv_at hl 3 rfl) ?_
      refine lv_bipush (v := (43 : Int32)) hx hb dX6_readOne_132 (by decide) ?_
      refine lv_icmp_ne (tgt := 142) hx hb dX6_readOne_134 (by decide) (fun hc => ?_) (fun hc => ?_)
      · have hw := And.left hw hc
        refine lv_iload hx hb dX6_readOne_142 (lv_at hl 0 rfl) ?_
        refine lv_ineg hx hb dX6_readOne_144 ?_
        exact B145 x1 (-r1) (x1 + (1 : Int32)) z2 _ _ _ hw hP hD hS (lv_sub hl [1, 2] rfl)
      · have hw := And.right hw hc
        refine lv_iload hx hb dX6_readOne_137 (lv_at hl 0 rfl) ?_
        refine lv_goto (tgt := 145) hx hb dX6_readOne_139 (by decide) ?_
        exact B145 x1 r1 (x1 + (1 : Int32)) z2 _ _ _ hw hP hD hS (lv_sub hl [1, 2] rfl)
    · have hw := And.right hw hc
      refine lv_iconst (v := (0 : Int32)) hx hb dX6_readOne_122 (by decide) ?_
      exact hret _ _ _ _ _ _ rfl hw hP hD hS dX6_readOne_123
  have B51 : ∀ (x1 : Int32) (t0 : Int32) (t1 : Int32) (z0 : wSt) (H : Heap) (locs : List Loc) (ls : Array Slot), wpX6_readOne_51  post x1 t0 t1 z0 → va_P G.1 vwCl (wsM G h z0) H → va_D A (wsM G h z0) → va_S A s.heap H locs → lv_has ls 5 [(0, .ref (h 0)), (1, .int x1)] → W p l e R s m args below meth c H locs 0 0 Q (F0 m 51 ls [.int t0, .int t1, .ref (h 8)]) := by
    intro x1 t0 t1 z0 H locs ls hw hP hD hS hl
    unfold wpX6_readOne_51 at hw
    refine rs_M_8 hC hK hP hD hS (And.left hw) dX6_readOne_51 (fun z1 H locs hz1 hP hD hS => ?_)
    have hw := And.right hw z1 hz1
    refine lv_aload_n hx hb dX6_readOne_52 rfl (lv_at hl 0 rfl) ?_
    refine rg_M_X6_0_20 hC hK hP dX6_readOne_53 ?_
    refine lv_iload_n hx hb dX6_readOne_56 rfl (lv_at hl 1 rfl) ?_
    refine rl_M_8 hC hK hP (And.left hw) dX6_readOne_57 ?_
    have hw := And.right hw
    refine lv_if_ge (tgt := 63) hx hb dX6_readOne_58 (by decide) (fun hc => ?_) (fun hc => ?_)
    · have hw := And.left hw hc
      refine lv_aload_n hx hb dX6_readOne_63 rfl (lv_at hl 0 rfl) ?_
      refine lv_dup hx hb dX6_readOne_64 rfl ?_
      refine rg_M_X6_0_18 hC hK hP dX6_readOne_65 ?_
      refine lv_iconst (v := (1 : Int32)) hx hb dX6_readOne_68 (by decide) ?_
      refine lv_iadd hx hb dX6_readOne_69 ?_
      refine rp_M_X6_0_18 hC hK hP hD hS dX6_readOne_70 (fun z2 H locs hz1 hP hD hS => ?_)
      have hw := hw z2 hz1
      refine lv_aload_n hx hb dX6_readOne_73 rfl (lv_at hl 0 rfl) ?_
      refine rg_M_X6_0_20 hC hK hP dX6_readOne_74 ?_
      refine lv_iload_n hx hb dX6_readOne_77 rfl (lv_at hl 1 rfl) ?_
      refine lv_iconst (v := (1 : Int32)) hx hb dX6_readOne_78 (by decide) ?_
      refine lv_iadd hx hb dX6_readOne_79 ?_
      refine lv_iconst (v := (0 : Int32)) hx hb dX6_readOne_80 (by decide) ?_
      refine rs_M_8 hC hK hP hD hS (And.left hw) dX6_readOne_81 (fun z3 H locs hz1 hP hD hS => ?_)
      have hw := And.right hw z3 hz1
      refine lv_aload_n hx hb dX6_readOne_82 rfl (lv_at hl 0 rfl) ?_
      refine xc_wi (S := wSt) (wsz := fun q => (wsM G h q)) (f := fun u => u) (xr_V hC (cX6_nextByte_c (h := h) hw) ⟨rfl, rfl⟩ bw_761 calX6_nextByte ⟨Nat.le_trans (Nat.le_of_ble_eq_true rfl) hF, Nat.le_trans (Nat.le_of_ble_eq_true rfl) hL⟩ (rest := []) (xpV hK (cut_all_M) hP hD rfl rfl) rfl hl rfl (Nat.le_of_ble_eq_true rfl) dX6_readOne_83 ⟨Nat.zero_le _, Nat.zero_le _⟩) (cut_all_M) hP hD hS hA (fun r1 u z4 H locs hz1 hw hP hD hS => ?_)
      have hw := hw z4 hz1
      refine lv_istore_n (lv' := [(3, .int r1), (0, .ref (h 0)), (1, .int x1)]) hx hb dX6_readOne_86 rfl hl (by decide) rfl (fun ls hl => ?_)
      refine lv_iload_n hx hb dX6_readOne_87 rfl (lv_at hl 0 rfl) ?_
      refine lv_bipush (v := (43 : Int32)) hx hb dX6_readOne_88 (by decide) ?_
      refine lv_icmp_eq (tgt := 99) hx hb dX6_readOne_90 (by decide) (fun hc => ?_) (fun hc => ?_)
      · have hw := And.left hw hc
        exact B99 x1 r1 z4 _ _ _ hw hP hD hS (lv_sub hl [1, 2, 0] rfl)
      · have hw := And.right hw hc
        refine lv_iload_n hx hb dX6_readOne_93 rfl (lv_at hl 0 rfl) ?_
        refine lv_bipush (v := (45 : Int32)) hx hb dX6_readOne_94 (by decide) ?_
        refine lv_icmp_ne (tgt := 146) hx hb dX6_readOne_96 (by decide) (fun hc => ?_) (fun hc => ?_)
        · have hw := And.left hw hc
          exact B146 x1 z4 _ _ _ hw hP hD hS (lv_sub hl [1, 2] rfl)
        · have hw := And.right hw hc
          exact B99 x1 r1 z4 _ _ _ hw hP hD hS (lv_sub hl [1, 2, 0] rfl)
    · have hw := And.right hw hc
      refine lv_iconst (v := (0 : Int32)) hx hb dX6_readOne_61 (by decide) ?_
      exact hret _ _ _ _ _ _ rfl hw hP hD hS dX6_readOne_62
  unfold wpX6_readOne at hw
  refine lv_aload_n hx hb dX6_readOne_0 rfl (lv_at hl 0 rfl) ?_
  refine xc_wi (S := wSt) (wsz := fun q => (wsM G h q)) (f := fun u => u) (xr_V hC (cX6_nextByte_c (h := h) hw) ⟨rfl, rfl⟩ bw_761 calX6_nextByte ⟨Nat.le_trans (Nat.le_of_ble_eq_true rfl) hF, Nat.le_trans (Nat.le_of_ble_eq_true rfl) hL⟩ (rest := []) (xpV hK (cut_all_M) hP hD rfl rfl) rfl hl rfl (Nat.le_of_ble_eq_true rfl) dX6_readOne_1 ⟨Nat.zero_le _, Nat.zero_le _⟩) (cut_all_M) hP hD hS hA (fun r1 u z1 H locs hz1 hw hP hD hS => ?_)
  have hw := hw z1 hz1
  refine lv_istore_n (lv' := [(2, .int r1), (0, .ref (h 0)), (1, .int x1)]) hx hb dX6_readOne_4 rfl hl (by decide) rfl (fun ls hl => ?_)
  refine lv_aload_n hx hb dX6_readOne_5 rfl (lv_at hl 1 rfl) ?_
  refine rg_M_X6_0_20 hC hK hP dX6_readOne_6 ?_
  refine lv_iload_n hx hb dX6_readOne_9 rfl (lv_at hl 2 rfl) ?_
  refine lv_iload_n hx hb dX6_readOne_10 rfl (lv_at hl 0 rfl) ?_
  refine lv_bipush (v := (112 : Int32)) hx hb dX6_readOne_11 (by decide) ?_
  refine lv_icmp_ne (tgt := 20) hx hb dX6_readOne_13 (by decide) (fun hc => ?_) (fun hc => ?_)
  · have hw := And.left hw hc
    refine lv_iload_n hx hb dX6_readOne_20 rfl (lv_at hl 0 rfl) ?_
    refine lv_bipush (v := (115 : Int32)) hx hb dX6_readOne_21 (by decide) ?_
    refine lv_icmp_ne (tgt := 30) hx hb dX6_readOne_23 (by decide) (fun hc => ?_) (fun hc => ?_)
    · have hw := And.left hw hc
      refine lv_iload_n hx hb dX6_readOne_30 rfl (lv_at hl 0 rfl) ?_
      refine lv_bipush (v := (118 : Int32)) hx hb dX6_readOne_31 (by decide) ?_
      refine lv_icmp_ne (tgt := 40) hx hb dX6_readOne_33 (by decide) (fun hc => ?_) (fun hc => ?_)
      · have hw := And.left hw hc
        refine lv_iload_n hx hb dX6_readOne_40 rfl (lv_at hl 0 rfl) ?_
        refine lv_bipush (v := (109 : Int32)) hx hb dX6_readOne_41 (by decide) ?_
        refine lv_icmp_ne (tgt := 50) hx hb dX6_readOne_43 (by decide) (fun hc => ?_) (fun hc => ?_)
        · have hw := And.left hw hc
          refine lv_iconst (v := (-1 : Int32)) hx hb dX6_readOne_50 (by decide) ?_
          exact B51 x1 (-1 : Int32) x1 z1 _ _ _ hw hP hD hS (lv_sub hl [1, 2] rfl)
        · have hw := And.right hw hc
          refine lv_iconst (v := (3 : Int32)) hx hb dX6_readOne_46 (by decide) ?_
          refine lv_goto (tgt := 51) hx hb dX6_readOne_47 (by decide) ?_
          exact B51 x1 (3 : Int32) x1 z1 _ _ _ hw hP hD hS (lv_sub hl [1, 2] rfl)
      · have hw := And.right hw hc
        refine lv_iconst (v := (2 : Int32)) hx hb dX6_readOne_36 (by decide) ?_
        refine lv_goto (tgt := 51) hx hb dX6_readOne_37 (by decide) ?_
        exact B51 x1 (2 : Int32) x1 z1 _ _ _ hw hP hD hS (lv_sub hl [1, 2] rfl)
    · have hw := And.right hw hc
      refine lv_iconst (v := (1 : Int32)) hx hb dX6_readOne_26 (by decide) ?_
      refine lv_goto (tgt := 51) hx hb dX6_readOne_27 (by decide) ?_
      exact B51 x1 (1 : Int32) x1 z1 _ _ _ hw hP hD hS (lv_sub hl [1, 2] rfl)
  · have hw := And.right hw hc
    refine lv_iconst (v := (0 : Int32)) hx hb dX6_readOne_16 (by decide) ?_
    refine lv_goto (tgt := 51) hx hb dX6_readOne_17 (by decide) ?_
    exact B51 x1 (0 : Int32) x1 z1 _ _ _ hw hP hD hS (lv_sub hl [1, 2] rfl)
def wpX6_readVillage_7 (k7 : Int32 → (wSt) → Prop) (post : Int32 → (wSt) → Prop) (x1 : Int32) (z0 : wSt) : Prop := (((6 : Int32) ≤ x1 → (post (0 : Int32) z0)) ∧ (¬ (6 : Int32) ≤ x1 → (wpX6_readOne ((3 : Int32) * x1) z0 (fun r1 u => ∀ z1 : wSt, z1 = u → ((¬ r1 = 0 → (∀ z2 : wSt, z2 = (w_si z1 19 (x1 + (1 : Int32))) → (wpX6_nextByte z2 (fun r2 u => ∀ z3 : wSt, z3 = u → ((0 ≤ r2 → ((¬ r2 = (44 : Int32) → (post (0 : Int32) z3)) ∧ (r2 = (44 : Int32) → ((¬ x1 = (5 : Int32) → (∀ z4 : wSt, z4 = (w_si z3 18 ((w_i z3 18) + (1 : Int32))) → (k7 (x1 + (1 : Int32)) z4))) ∧ (x1 = (5 : Int32) → (post (0 : Int32) z3)))))) ∧ (¬ 0 ≤ r2 → (post (1 : Int32) z3))))))) ∧ (r1 = 0 → (post (0 : Int32) z1)))))))
def wpX6_readVillage_L7  (post : Int32 → (wSt) → Prop) : Nat → Int32 → (wSt) → Prop
  | 0 => fun _ _ => False
  | n + 1 => fun x1 z0 => wpX6_readVillage_7  (wpX6_readVillage_L7  post n) post x1 z0
def wpX6_readVillage (z0 : wSt) (post : Int32 → (wSt) → Prop) : Prop := (∀ z1 : wSt, z1 = (w_si z0 18 (0 : Int32)) → (∃ n, wpX6_readVillage_L7  post n (0 : Int32) z1))
set_option maxHeartbeats 4000000 in
set_option maxRecDepth 100000 in
theorem cX6_readVillage_c {l : Launch} {G : wG} {h : Nat → Nat} {sz : Nat}  {post : Int32 → (wSt) → Prop} {z0 : wSt}  (hw : wpX6_readVillage z0 post) : Met l yX6_readVillage (.code yX6_readVillage cX6_readVillage 3 (some .boolean) :: BIG) { frames := 3, cells := 0, slots := 0, locals := 72 } (xPw G [.ref (h 0)] (wsM G h z0) sz) (xQi G post (fun q => (wsM G h q)) (va_A (wsM G h z0) sz)) 0 0 (va_A (wsM G h z0) sz) := by
  refine xm_wz (by decide) (Nat.le_of_ble_eq_true rfl) (fun p e s m args below meth c A ls R Q hC hK hA hP hD hS hl hF hL hret => ?_)
  have hx := hC.1
  have hb := hC.2.1
  have hl : lv_has ls 3 [(0, .ref (h 0))] := hl
  have B7 : ∀ n7 : Nat, ∀ (x1 : Int32) (z0 : wSt) (H : Heap) (locs : List Loc) (ls : Array Slot), wpX6_readVillage_L7  post n7 x1 z0 → va_P G.1 vwCl (wsM G h z0) H → va_D A (wsM G h z0) → va_S A s.heap H locs → lv_has ls 3 [(0, .ref (h 0)), (1, .int x1)] → W p l e R s m args below meth c H locs 0 0 Q (F0 m 7 ls []) := by
    intro n7
    induction n7 with
    | zero => intro x1 z0 H locs ls hw hP hD hS hl; exact False.elim hw
    | succ n7 I7 =>
      intro x1 z0 H locs ls hw hP hD hS hl
      have hw : wpX6_readVillage_7  (wpX6_readVillage_L7  post n7) post x1 z0 := hw
      unfold wpX6_readVillage_7 at hw
      refine lv_iload_n hx hb dX6_readVillage_7 rfl (lv_at hl 1 rfl) ?_
      refine lv_bipush (v := (6 : Int32)) hx hb dX6_readVillage_8 (by decide) ?_
      refine lv_icmp_ge (tgt := 72) hx hb dX6_readVillage_10 (by decide) (fun hc => ?_) (fun hc => ?_)
      · have hw := And.left hw hc
        refine lv_iconst (v := (0 : Int32)) hx hb dX6_readVillage_72 (by decide) ?_
        exact hret _ _ _ _ _ _ rfl hw hP hD hS dX6_readVillage_73
      · have hw := And.right hw hc
        refine lv_aload_n hx hb dX6_readVillage_13 rfl (lv_at hl 0 rfl) ?_
        refine lv_iconst (v := (3 : Int32)) hx hb dX6_readVillage_14 (by decide) ?_
        refine lv_iload_n hx hb dX6_readVillage_15 rfl (lv_at hl 1 rfl) ?_
        refine lv_imul hx hb dX6_readVillage_16 ?_
        refine xc_wi (S := wSt) (wsz := fun q => (wsM G h q)) (f := fun u => u) (xr_V hC (cX6_readOne_c (h := h) hw) ⟨rfl, rfl⟩ bw_757 calX6_readOne ⟨Nat.le_trans (Nat.le_of_ble_eq_true rfl) hF, Nat.le_trans (Nat.le_of_ble_eq_true rfl) hL⟩ (rest := []) (xpV hK (cut_all_M) hP hD rfl rfl) rfl hl rfl (Nat.le_of_ble_eq_true rfl) dX6_readVillage_17 ⟨Nat.zero_le _, Nat.zero_le _⟩) (cut_all_M) hP hD hS hA (fun r1 u z1 H locs hz1 hw hP hD hS => ?_)
        have hw := hw z1 hz1
        refine lv_if_ne (tgt := 25) hx hb dX6_readVillage_20 (by decide) (fun hc => ?_) (fun hc => ?_)
        · have hw := And.left hw hc
          refine lv_aload_n hx hb dX6_readVillage_25 rfl (lv_at hl 0 rfl) ?_
          refine lv_iload_n hx hb dX6_readVillage_26 rfl (lv_at hl 1 rfl) ?_
          refine lv_iconst (v := (1 : Int32)) hx hb dX6_readVillage_27 (by decide) ?_
          refine lv_iadd hx hb dX6_readVillage_28 ?_
          refine rp_M_X6_0_19 hC hK hP hD hS dX6_readVillage_29 (fun z2 H locs hz1 hP hD hS => ?_)
          have hw := hw z2 hz1
          refine lv_aload_n hx hb dX6_readVillage_32 rfl (lv_at hl 0 rfl) ?_
          refine xc_wi (S := wSt) (wsz := fun q => (wsM G h q)) (f := fun u => u) (xr_V hC (cX6_nextByte_c (h := h) hw) ⟨rfl, rfl⟩ bw_761 calX6_nextByte ⟨Nat.le_trans (Nat.le_of_ble_eq_true rfl) hF, Nat.le_trans (Nat.le_of_ble_eq_true rfl) hL⟩ (rest := []) (xpV hK (cut_all_M) hP hD rfl rfl) rfl hl rfl (Nat.le_of_ble_eq_true rfl) dX6_readVillage_33 ⟨Nat.zero_le _, Nat.zero_le _⟩) (cut_all_M) hP hD hS hA (fun r2 u z3 H locs hz1 hw hP hD hS => ?_)
          have hw := hw z3 hz1
          refine lv_istore_n (lv' := [(2, .int r2), (0, .ref (h 0)), (1, .int x1)]) hx hb dX6_readVillage_36 rfl hl (by decide) rfl (fun ls hl => ?_)
          refine lv_iload_n hx hb dX6_readVillage_37 rfl (lv_at hl 0 rfl) ?_
          refine lv_if_ge (tgt := 43) hx hb dX6_readVillage_38 (by decide) (fun hc => ?_) (fun hc => ?_)
          · have hw := And.left hw hc
            refine lv_iload_n hx hb dX6_readVillage_43 rfl (lv_at hl 0 rfl) ?_
            refine lv_bipush (v := (44 : Int32)) hx hb dX6_readVillage_44 (by decide) ?_
            refine lv_icmp_ne (tgt := 54) hx hb dX6_readVillage_46 (by decide) (fun hc => ?_) (fun hc => ?_)
            · have hw := And.left hw hc
              refine lv_iconst (v := (0 : Int32)) hx hb dX6_readVillage_54 (by decide) ?_
              exact hret _ _ _ _ _ _ rfl hw hP hD hS dX6_readVillage_55
            · have hw := And.right hw hc
              refine lv_iload_n hx hb dX6_readVillage_49 rfl (lv_at hl 2 rfl) ?_
              refine lv_iconst (v := (5 : Int32)) hx hb dX6_readVillage_50 (by decide) ?_
              refine lv_icmp_ne (tgt := 56) hx hb dX6_readVillage_51 (by decide) (fun hc => ?_) (fun hc => ?_)
              · have hw := And.left hw hc
                refine lv_aload_n hx hb dX6_readVillage_56 rfl (lv_at hl 1 rfl) ?_
                refine lv_dup hx hb dX6_readVillage_57 rfl ?_
                refine rg_M_X6_0_18 hC hK hP dX6_readVillage_58 ?_
                refine lv_iconst (v := (1 : Int32)) hx hb dX6_readVillage_61 (by decide) ?_
                refine lv_iadd hx hb dX6_readVillage_62 ?_
                refine rp_M_X6_0_18 hC hK hP hD hS dX6_readVillage_63 (fun z4 H locs hz1 hP hD hS => ?_)
                have hw := hw z4 hz1
                refine lv_iinc (v := (x1 + (1 : Int32))) (lv' := [(1, .int (x1 + (1 : Int32))), (2, .int r2), (0, .ref (h 0))]) hx hb dX6_readVillage_66 hl (k := 2) rfl rfl (by decide) rfl (fun ls hl => ?_)
                refine lv_goto (tgt := 7) hx hb dX6_readVillage_69 (by decide) ?_
                exact I7 (x1 + (1 : Int32)) z4 _ _ _ hw hP hD hS (lv_sub hl [2, 0] rfl)
              · have hw := And.right hw hc
                refine lv_iconst (v := (0 : Int32)) hx hb dX6_readVillage_54 (by decide) ?_
                exact hret _ _ _ _ _ _ rfl hw hP hD hS dX6_readVillage_55
          · have hw := And.right hw hc
            refine lv_iconst (v := (1 : Int32)) hx hb dX6_readVillage_41 (by decide) ?_
            exact hret _ _ _ _ _ _ rfl hw hP hD hS dX6_readVillage_42
        · have hw := And.right hw hc
          refine lv_iconst (v := (0 : Int32)) hx hb dX6_readVillage_23 (by decide) ?_
          exact hret _ _ _ _ _ _ rfl hw hP hD hS dX6_readVillage_24
  unfold wpX6_readVillage at hw
  refine lv_aload_n hx hb dX6_readVillage_0 rfl (lv_at hl 0 rfl) ?_
  refine lv_iconst (v := (0 : Int32)) hx hb dX6_readVillage_1 (by decide) ?_
  refine rp_M_X6_0_18 hC hK hP hD hS dX6_readVillage_2 (fun z1 H locs hz1 hP hD hS => ?_)
  have hw := hw z1 hz1
  refine lv_iconst (v := (0 : Int32)) hx hb dX6_readVillage_5 (by decide) ?_
  refine lv_istore_n (lv' := [(1, .int (0 : Int32)), (0, .ref (h 0))]) hx hb dX6_readVillage_6 rfl hl (by decide) rfl (fun ls hl => ?_)
  obtain ⟨j7, hw⟩ := hw
  exact B7 j7 (0 : Int32) z1 _ _ _ hw hP hD hS (lv_sub hl [1, 0] rfl)
def wpX6_readPlan_80 (k10 : (wSt) → Prop) (post : Int32 → (wSt) → Prop) (t0 : Int32) (t1 : Int32) (z0 : wSt) : Prop := (vp_in t1 24 ∧ ∀ z1 : wSt, z1 = (w_sa z0 20 (upd (w_a z0 20) t1.toNatClampNeg t0)) → (∀ z2 : wSt, z2 = (w_si z1 19 ((w_i z1 19) + (1 : Int32))) → (∀ z3 : wSt, z3 = (w_si z2 18 ((w_i z2 18) + (1 : Int32))) → (k10 z3))))
def wpX6_readPlan_46 (k10 : (wSt) → Prop) (post : Int32 → (wSt) → Prop) (x1 : Int32) (z0 : wSt) : Prop := ((¬ (w_i z0 19) = (24 : Int32) → ((¬ x1 = (46 : Int32) → (wpX6_readPlan_80 k10 post (x1 - (48 : Int32)) (w_i z0 19) z0)) ∧ (x1 = (46 : Int32) → (wpX6_readPlan_80 k10 post (9 : Int32) (w_i z0 19) z0)))) ∧ ((w_i z0 19) = (24 : Int32) → (post (0 : Int32) z0)))
def wpX6_readPlan_24 (k10 : (wSt) → Prop) (post : Int32 → (wSt) → Prop)  (z0 : wSt) : Prop := (wpX6_nextByte z0 (fun r1 u => ∀ z1 : wSt, z1 = u → ((r1 = (46 : Int32) → (wpX6_readPlan_46 k10 post r1 z1)) ∧ (¬ r1 = (46 : Int32) → (wpX6_isOne (r1 - (48 : Int32)) z1 (fun r2 => ((r2 = 0 → (post (0 : Int32) z1)) ∧ (¬ r2 = 0 → (wpX6_readPlan_46 k10 post r1 z1)))))))))
def wpX6_readPlan_10 (k10 : (wSt) → Prop) (post : Int32 → (wSt) → Prop)  (z0 : wSt) : Prop := (((w_i z0 19) = 0 → (wpX6_readPlan_24 k10 post z0)) ∧ (¬ (w_i z0 19) = 0 → (wpX6_nextByte z0 (fun r1 u => ∀ z1 : wSt, z1 = u → ((r1 < 0 → (post (1 : Int32) z1)) ∧ (¬ r1 < 0 → (wpX6_readPlan_24 k10 post z1)))))))
def wpX6_readPlan_L10  (post : Int32 → (wSt) → Prop) : Nat → (wSt) → Prop
  | 0 => fun _ => False
  | n + 1 => fun z0 => wpX6_readPlan_10  (wpX6_readPlan_L10  post n) post z0
def wpX6_readPlan (z0 : wSt) (post : Int32 → (wSt) → Prop) : Prop := (∀ z1 : wSt, z1 = (w_si z0 18 (0 : Int32)) → (∀ z2 : wSt, z2 = (w_si z1 19 (0 : Int32)) → (∃ n, wpX6_readPlan_L10  post n z2)))
set_option maxHeartbeats 4000000 in
set_option maxRecDepth 100000 in
theorem cX6_readPlan_c {l : Launch} {G : wG} {h : Nat → Nat} {sz : Nat}  {post : Int32 → (wSt) → Prop} {z0 : wSt}  (hw : wpX6_readPlan z0 post) : Met l yX6_readPlan (.code yX6_readPlan cX6_readPlan 2 (some .boolean) :: BIG) { frames := 2, cells := 0, slots := 0, locals := 46 } (xPw G [.ref (h 0)] (wsM G h z0) sz) (xQi G post (fun q => (wsM G h q)) (va_A (wsM G h z0) sz)) 0 0 (va_A (wsM G h z0) sz) := by
  refine xm_wz (by decide) (Nat.le_of_ble_eq_true rfl) (fun p e s m args below meth c A ls R Q hC hK hA hP hD hS hl hF hL hret => ?_)
  have hx := hC.1
  have hb := hC.2.1
  have hl : lv_has ls 2 [(0, .ref (h 0))] := hl
  have B10 : ∀ n10 : Nat, ∀  (z0 : wSt) (H : Heap) (locs : List Loc) (ls : Array Slot), wpX6_readPlan_L10  post n10 z0 → va_P G.1 vwCl (wsM G h z0) H → va_D A (wsM G h z0) → va_S A s.heap H locs → lv_has ls 2 [(0, .ref (h 0))] → W p l e R s m args below meth c H locs 0 0 Q (F0 m 10 ls []) := by
    intro n10
    induction n10 with
    | zero => intro  z0 H locs ls hw hP hD hS hl; exact False.elim hw
    | succ n10 I10 =>
      have B80 : ∀ (t0 : Int32) (t1 : Int32) (z0 : wSt) (H : Heap) (locs : List Loc) (ls : Array Slot), wpX6_readPlan_80 (wpX6_readPlan_L10  post n10) post t0 t1 z0 → va_P G.1 vwCl (wsM G h z0) H → va_D A (wsM G h z0) → va_S A s.heap H locs → lv_has ls 2 [(0, .ref (h 0))] → W p l e R s m args below meth c H locs 0 0 Q (F0 m 80 ls [.int t0, .int t1, .ref (h 8)]) := by
        intro t0 t1 z0 H locs ls hw hP hD hS hl
        unfold wpX6_readPlan_80 at hw
        refine rs_M_8 hC hK hP hD hS (And.left hw) dX6_readPlan_80 (fun z1 H locs hz1 hP hD hS => ?_)
        have hw := And.right hw z1 hz1
        refine lv_aload_n hx hb dX6_readPlan_81 rfl (lv_at hl 0 rfl) ?_
        refine lv_dup hx hb dX6_readPlan_82 rfl ?_
        refine rg_M_X6_0_19 hC hK hP dX6_readPlan_83 ?_
        refine lv_iconst (v := (1 : Int32)) hx hb dX6_readPlan_86 (by decide) ?_
        refine lv_iadd hx hb dX6_readPlan_87 ?_
        refine rp_M_X6_0_19 hC hK hP hD hS dX6_readPlan_88 (fun z2 H locs hz1 hP hD hS => ?_)
        have hw := hw z2 hz1
        refine lv_aload_n hx hb dX6_readPlan_91 rfl (lv_at hl 0 rfl) ?_
        refine lv_dup hx hb dX6_readPlan_92 rfl ?_
        refine rg_M_X6_0_18 hC hK hP dX6_readPlan_93 ?_
        refine lv_iconst (v := (1 : Int32)) hx hb dX6_readPlan_96 (by decide) ?_
        refine lv_iadd hx hb dX6_readPlan_97 ?_
        refine rp_M_X6_0_18 hC hK hP hD hS dX6_readPlan_98 (fun z3 H locs hz1 hP hD hS => ?_)
        have hw := hw z3 hz1
        refine lv_goto (tgt := 10) hx hb dX6_readPlan_101 (by decide) ?_
        exact I10 z3 _ _ _ hw hP hD hS (lv_sub hl [0] rfl)
      have B46 : ∀ (x1 : Int32) (z0 : wSt) (H : Heap) (locs : List Loc) (ls : Array Slot), wpX6_readPlan_46 (wpX6_readPlan_L10  post n10) post x1 z0 → va_P G.1 vwCl (wsM G h z0) H → va_D A (wsM G h z0) → va_S A s.heap H locs → lv_has ls 2 [(0, .ref (h 0)), (1, .int x1)] → W p l e R s m args below meth c H locs 0 0 Q (F0 m 46 ls []) := by
        intro x1 z0 H locs ls hw hP hD hS hl
        unfold wpX6_readPlan_46 at hw
        refine lv_aload_n hx hb dX6_readPlan_46 rfl (lv_at hl 0 rfl) ?_
        refine rg_M_X6_0_19 hC hK hP dX6_readPlan_47 ?_
        refine lv_bipush (v := (24 : Int32)) hx hb dX6_readPlan_50 (by decide) ?_
        refine lv_icmp_ne (tgt := 57) hx hb dX6_readPlan_52 (by decide) (fun hc => ?_) (fun hc => ?_)
        · have hw := And.left hw hc
          refine lv_aload_n hx hb dX6_readPlan_57 rfl (lv_at hl 0 rfl) ?_
          refine rg_M_X6_0_20 hC hK hP dX6_readPlan_58 ?_
          refine lv_aload_n hx hb dX6_readPlan_61 rfl (lv_at hl 0 rfl) ?_
          refine rg_M_X6_0_19 hC hK hP dX6_readPlan_62 ?_
          refine lv_iload_n hx hb dX6_readPlan_65 rfl (lv_at hl 1 rfl) ?_
          refine lv_bipush (v := (46 : Int32)) hx hb dX6_readPlan_66 (by decide) ?_
          refine lv_icmp_ne (tgt := 76) hx hb dX6_readPlan_68 (by decide) (fun hc => ?_) (fun hc => ?_)
          · have hw := And.left hw hc
            refine lv_iload_n hx hb dX6_readPlan_76 rfl (lv_at hl 1 rfl) ?_
            refine lv_bipush (v := (48 : Int32)) hx hb dX6_readPlan_77 (by decide) ?_
            refine lv_isub hx hb dX6_readPlan_79 ?_
            exact B80 (x1 - (48 : Int32)) (w_i z0 19) z0 _ _ _ hw hP hD hS (lv_sub hl [0] rfl)
          · have hw := And.right hw hc
            refine lv_bipush (v := (9 : Int32)) hx hb dX6_readPlan_71 (by decide) ?_
            refine lv_goto (tgt := 80) hx hb dX6_readPlan_73 (by decide) ?_
            exact B80 (9 : Int32) (w_i z0 19) z0 _ _ _ hw hP hD hS (lv_sub hl [0] rfl)
        · have hw := And.right hw hc
          refine lv_iconst (v := (0 : Int32)) hx hb dX6_readPlan_55 (by decide) ?_
          exact hret _ _ _ _ _ _ rfl hw hP hD hS dX6_readPlan_56
      have B24 : ∀  (z0 : wSt) (H : Heap) (locs : List Loc) (ls : Array Slot), wpX6_readPlan_24 (wpX6_readPlan_L10  post n10) post z0 → va_P G.1 vwCl (wsM G h z0) H → va_D A (wsM G h z0) → va_S A s.heap H locs → lv_has ls 2 [(0, .ref (h 0))] → W p l e R s m args below meth c H locs 0 0 Q (F0 m 24 ls []) := by
        intro  z0 H locs ls hw hP hD hS hl
        unfold wpX6_readPlan_24 at hw
        refine lv_aload_n hx hb dX6_readPlan_24 rfl (lv_at hl 0 rfl) ?_
        refine xc_wi (S := wSt) (wsz := fun q => (wsM G h q)) (f := fun u => u) (xr_V hC (cX6_nextByte_c (h := h) hw) ⟨rfl, rfl⟩ bw_761 calX6_nextByte ⟨Nat.le_trans (Nat.le_of_ble_eq_true rfl) hF, Nat.le_trans (Nat.le_of_ble_eq_true rfl) hL⟩ (rest := []) (xpV hK (cut_all_M) hP hD rfl rfl) rfl hl rfl (Nat.le_of_ble_eq_true rfl) dX6_readPlan_25 ⟨Nat.zero_le _, Nat.zero_le _⟩) (cut_all_M) hP hD hS hA (fun r1 u z1 H locs hz1 hw hP hD hS => ?_)
        have hw := hw z1 hz1
        refine lv_istore_n (lv' := [(1, .int r1), (0, .ref (h 0))]) hx hb dX6_readPlan_28 rfl hl (by decide) rfl (fun ls hl => ?_)
        refine lv_iload_n hx hb dX6_readPlan_29 rfl (lv_at hl 0 rfl) ?_
        refine lv_bipush (v := (46 : Int32)) hx hb dX6_readPlan_30 (by decide) ?_
        refine lv_icmp_eq (tgt := 46) hx hb dX6_readPlan_32 (by decide) (fun hc => ?_) (fun hc => ?_)
        · have hw := And.left hw hc
          exact B46 r1 z1 _ _ _ hw hP hD hS (lv_sub hl [1, 0] rfl)
        · have hw := And.right hw hc
          refine lv_aload_n hx hb dX6_readPlan_35 rfl (lv_at hl 1 rfl) ?_
          refine lv_iload_n hx hb dX6_readPlan_36 rfl (lv_at hl 0 rfl) ?_
          refine lv_bipush (v := (48 : Int32)) hx hb dX6_readPlan_37 (by decide) ?_
          refine lv_isub hx hb dX6_readPlan_39 ?_
          refine vp_callSi (xro (xr_V hC (cX6_isOne_c (h := h) hw) ⟨rfl, rfl⟩ bw_713 calX6_isOne ⟨Nat.le_trans (Nat.le_of_ble_eq_true rfl) hF, Nat.le_trans (Nat.le_of_ble_eq_true rfl) hL⟩ (rest := []) (xpR hK hP rfl rfl) rfl hl rfl (Nat.le_of_ble_eq_true rfl) dX6_readPlan_40 ⟨Nat.zero_le _, Nat.zero_le _⟩)) (fun r2 hw => ?_)
          refine lv_if_eq (tgt := 55) hx hb dX6_readPlan_43 (by decide) (fun hc => ?_) (fun hc => ?_)
          · have hw := And.left hw hc
            refine lv_iconst (v := (0 : Int32)) hx hb dX6_readPlan_55 (by decide) ?_
            exact hret _ _ _ _ _ _ rfl hw hP hD hS dX6_readPlan_56
          · have hw := And.right hw hc
            exact B46 r1 z1 _ _ _ hw hP hD hS (lv_sub hl [1, 0] rfl)
      intro  z0 H locs ls hw hP hD hS hl
      have hw : wpX6_readPlan_10  (wpX6_readPlan_L10  post n10) post z0 := hw
      unfold wpX6_readPlan_10 at hw
      refine lv_aload_n hx hb dX6_readPlan_10 rfl (lv_at hl 0 rfl) ?_
      refine rg_M_X6_0_19 hC hK hP dX6_readPlan_11 ?_
      refine lv_if_eq (tgt := 24) hx hb dX6_readPlan_14 (by decide) (fun hc => ?_) (fun hc => ?_)
      · have hw := And.left hw hc
        exact B24 z0 _ _ _ hw hP hD hS (lv_sub hl [0] rfl)
      · have hw := And.right hw hc
        refine lv_aload_n hx hb dX6_readPlan_17 rfl (lv_at hl 0 rfl) ?_
        refine xc_wi (S := wSt) (wsz := fun q => (wsM G h q)) (f := fun u => u) (xr_V hC (cX6_nextByte_c (h := h) hw) ⟨rfl, rfl⟩ bw_761 calX6_nextByte ⟨Nat.le_trans (Nat.le_of_ble_eq_true rfl) hF, Nat.le_trans (Nat.le_of_ble_eq_true rfl) hL⟩ (rest := []) (xpV hK (cut_all_M) hP hD rfl rfl) rfl hl rfl (Nat.le_of_ble_eq_true rfl) dX6_readPlan_18 ⟨Nat.zero_le _, Nat.zero_le _⟩) (cut_all_M) hP hD hS hA (fun r1 u z1 H locs hz1 hw hP hD hS => ?_)
        have hw := hw z1 hz1
        refine lv_if_lt (tgt := 104) hx hb dX6_readPlan_21 (by decide) (fun hc => ?_) (fun hc => ?_)
        · have hw := And.left hw hc
          refine lv_iconst (v := (1 : Int32)) hx hb dX6_readPlan_104 (by decide) ?_
          exact hret _ _ _ _ _ _ rfl hw hP hD hS dX6_readPlan_105
        · have hw := And.right hw hc
          exact B24 z1 _ _ _ hw hP hD hS (lv_sub hl [0] rfl)
  unfold wpX6_readPlan at hw
  refine lv_aload_n hx hb dX6_readPlan_0 rfl (lv_at hl 0 rfl) ?_
  refine lv_iconst (v := (0 : Int32)) hx hb dX6_readPlan_1 (by decide) ?_
  refine rp_M_X6_0_18 hC hK hP hD hS dX6_readPlan_2 (fun z1 H locs hz1 hP hD hS => ?_)
  have hw := hw z1 hz1
  refine lv_aload_n hx hb dX6_readPlan_5 rfl (lv_at hl 0 rfl) ?_
  refine lv_iconst (v := (0 : Int32)) hx hb dX6_readPlan_6 (by decide) ?_
  refine rp_M_X6_0_19 hC hK hP hD hS dX6_readPlan_7 (fun z2 H locs hz1 hP hD hS => ?_)
  have hw := hw z2 hz1
  obtain ⟨j10, hw⟩ := hw
  exact B10 j10 z2 _ _ _ hw hP hD hS (lv_sub hl [0] rfl)
def wpX6_plan_41 (k41 : Int32 → (wSt) → Prop) (post : Int32 → (wSt) → Prop) (x2 : Int32) (z0 : wSt) : Prop := (((w_i z0 19) ≤ x2 → (post (w_i z0 14) z0)) ∧ (¬ (w_i z0 19) ≤ x2 → (vp_in x2 24 ∧ (vp_in x2 24 ∧ ∀ z1 : wSt, z1 = (w_sa z0 13 (upd (w_a z0 13) x2.toNatClampNeg ((w_a z0 20) x2.toNatClampNeg))) → (k41 (x2 + (1 : Int32)) z1)))))
def wpX6_plan_L41  (post : Int32 → (wSt) → Prop) : Nat → Int32 → (wSt) → Prop
  | 0 => fun _ _ => False
  | n + 1 => fun x2 z0 => wpX6_plan_41  (wpX6_plan_L41  post n) post x2 z0
def wpX6_plan_14  (post : Int32 → (wSt) → Prop) (x1 : Int32) (z0 : wSt) : Prop := (∀ z1 : wSt, z1 = (w_si z0 17 (0 : Int32)) → ((¬ x1 = 0 → (∀ z2 : wSt, z2 = (w_si z1 14 (w_i z1 19)) → (∃ n, wpX6_plan_L41  post n (0 : Int32) z2))) ∧ (x1 = 0 → (post ((-20 : Int32) - (w_i z1 18)) z1))))
def wpX6_plan (z0 : wSt) (post : Int32 → (wSt) → Prop) : Prop := (wpX6_readPlan z0 (fun r1 u => ∀ z1 : wSt, z1 = u → ((¬ r1 = 0 → (wpX6_plan_14  post r1 z1)) ∧ (r1 = 0 → (wpX6_nextByte z1 (fun r2 u => ∀ z2 : wSt, z2 = u → (wpX6_plan_14  post r1 z2)))))))
set_option maxHeartbeats 4000000 in
set_option maxRecDepth 100000 in
theorem cX6_plan_c {l : Launch} {G : wG} {h : Nat → Nat} {sz : Nat}  {post : Int32 → (wSt) → Prop} {z0 : wSt}  (hw : wpX6_plan z0 post) : Met l yX6_plan (.code yX6_plan cX6_plan 3 (some .int) :: BIG) { frames := 3, cells := 0, slots := 0, locals := 67 } (xPw G [.ref (h 0)] (wsM G h z0) sz) (xQi G post (fun q => (wsM G h q)) (va_A (wsM G h z0) sz)) 0 0 (va_A (wsM G h z0) sz) := by
  refine xm_wi (by decide) (Nat.le_of_ble_eq_true rfl) (fun p e s m args below meth c A ls R Q hC hK hA hP hD hS hl hF hL hret => ?_)
  have hx := hC.1
  have hb := hC.2.1
  have hl : lv_has ls 3 [(0, .ref (h 0))] := hl
  have B41 : ∀ n41 : Nat, ∀ (x2 : Int32) (z0 : wSt) (H : Heap) (locs : List Loc) (ls : Array Slot), wpX6_plan_L41  post n41 x2 z0 → va_P G.1 vwCl (wsM G h z0) H → va_D A (wsM G h z0) → va_S A s.heap H locs → lv_has ls 3 [(0, .ref (h 0)), (2, .int x2)] → W p l e R s m args below meth c H locs 0 0 Q (F0 m 41 ls []) := by
    intro n41
    induction n41 with
    | zero => intro x2 z0 H locs ls hw hP hD hS hl; exact False.elim hw
    | succ n41 I41 =>
      intro x2 z0 H locs ls hw hP hD hS hl
      have hw : wpX6_plan_41  (wpX6_plan_L41  post n41) post x2 z0 := hw
      unfold wpX6_plan_41 at hw
      refine lv_iload_n hx hb dX6_plan_41 rfl (lv_at hl 1 rfl) ?_
      refine lv_aload_n hx hb dX6_plan_42 rfl (lv_at hl 0 rfl) ?_
      refine rg_M_X6_0_19 hC hK hP dX6_plan_43 ?_
      refine lv_icmp_ge (tgt := 67) hx hb dX6_plan_46 (by decide) (fun hc => ?_) (fun hc => ?_)
      · have hw := And.left hw hc
        refine lv_aload_n hx hb dX6_plan_67 rfl (lv_at hl 0 rfl) ?_
        refine rg_M_X6_0_14 hC hK hP dX6_plan_68 ?_
        exact hret _ _ _ _ _ _ hw hP hD hS dX6_plan_71
      · have hw := And.right hw hc
        refine lv_aload_n hx hb dX6_plan_49 rfl (lv_at hl 0 rfl) ?_
        refine rg_M_X6_0_13 hC hK hP dX6_plan_50 ?_
        refine lv_iload_n hx hb dX6_plan_53 rfl (lv_at hl 1 rfl) ?_
        refine lv_aload_n hx hb dX6_plan_54 rfl (lv_at hl 0 rfl) ?_
        refine rg_M_X6_0_20 hC hK hP dX6_plan_55 ?_
        refine lv_iload_n hx hb dX6_plan_58 rfl (lv_at hl 1 rfl) ?_
        refine rl_M_8 hC hK hP (And.left hw) dX6_plan_59 ?_
        have hw := And.right hw
        refine rs_M_6 hC hK hP hD hS (And.left hw) dX6_plan_60 (fun z1 H locs hz1 hP hD hS => ?_)
        have hw := And.right hw z1 hz1
        refine lv_iinc (v := (x2 + (1 : Int32))) (lv' := [(2, .int (x2 + (1 : Int32))), (0, .ref (h 0))]) hx hb dX6_plan_61 hl (k := 1) rfl rfl (by decide) rfl (fun ls hl => ?_)
        refine lv_goto (tgt := 41) hx hb dX6_plan_64 (by decide) ?_
        exact I41 (x2 + (1 : Int32)) z1 _ _ _ hw hP hD hS (lv_sub hl [1, 0] rfl)
  have B14 : ∀ (x1 : Int32) (z0 : wSt) (H : Heap) (locs : List Loc) (ls : Array Slot), wpX6_plan_14  post x1 z0 → va_P G.1 vwCl (wsM G h z0) H → va_D A (wsM G h z0) → va_S A s.heap H locs → lv_has ls 3 [(0, .ref (h 0)), (1, .int x1)] → W p l e R s m args below meth c H locs 0 0 Q (F0 m 14 ls []) := by
    intro x1 z0 H locs ls hw hP hD hS hl
    unfold wpX6_plan_14 at hw
    refine lv_aload_n hx hb dX6_plan_14 rfl (lv_at hl 0 rfl) ?_
    refine lv_iconst (v := (0 : Int32)) hx hb dX6_plan_15 (by decide) ?_
    refine rp_M_X6_0_17 hC hK hP hD hS dX6_plan_16 (fun z1 H locs hz1 hP hD hS => ?_)
    have hw := hw z1 hz1
    refine lv_iload_n hx hb dX6_plan_19 rfl (lv_at hl 1 rfl) ?_
    refine lv_if_ne (tgt := 31) hx hb dX6_plan_20 (by decide) (fun hc => ?_) (fun hc => ?_)
    · have hw := And.left hw hc
      refine lv_aload_n hx hb dX6_plan_31 rfl (lv_at hl 0 rfl) ?_
      refine lv_aload_n hx hb dX6_plan_32 rfl (lv_at hl 0 rfl) ?_
      refine rg_M_X6_0_19 hC hK hP dX6_plan_33 ?_
      refine rp_M_X6_0_14 hC hK hP hD hS dX6_plan_36 (fun z2 H locs hz1 hP hD hS => ?_)
      have hw := hw z2 hz1
      refine lv_iconst (v := (0 : Int32)) hx hb dX6_plan_39 (by decide) ?_
      refine lv_istore_n (lv' := [(2, .int (0 : Int32)), (0, .ref (h 0)), (1, .int x1)]) hx hb dX6_plan_40 rfl hl (by decide) rfl (fun ls hl => ?_)
      obtain ⟨j41, hw⟩ := hw
      exact B41 j41 (0 : Int32) z2 _ _ _ hw hP hD hS (lv_sub hl [1, 0] rfl)
    · have hw := And.right hw hc
      refine lv_bipush (v := (-20 : Int32)) hx hb dX6_plan_23 (by decide) ?_
      refine lv_aload_n hx hb dX6_plan_25 rfl (lv_at hl 0 rfl) ?_
      refine rg_M_X6_0_18 hC hK hP dX6_plan_26 ?_
      refine lv_isub hx hb dX6_plan_29 ?_
      exact hret _ _ _ _ _ _ hw hP hD hS dX6_plan_30
  unfold wpX6_plan at hw
  refine lv_aload_n hx hb dX6_plan_0 rfl (lv_at hl 0 rfl) ?_
  refine xc_wi (S := wSt) (wsz := fun q => (wsM G h q)) (f := fun u => u) (xr_V hC (cX6_readPlan_c (h := h) hw) ⟨rfl, rfl⟩ bw_773 calX6_readPlan ⟨Nat.le_trans (Nat.le_of_ble_eq_true rfl) hF, Nat.le_trans (Nat.le_of_ble_eq_true rfl) hL⟩ (rest := []) (xpV hK (cut_all_M) hP hD rfl rfl) rfl hl rfl (Nat.le_of_ble_eq_true rfl) dX6_plan_1 ⟨Nat.zero_le _, Nat.zero_le _⟩) (cut_all_M) hP hD hS hA (fun r1 u z1 H locs hz1 hw hP hD hS => ?_)
  have hw := hw z1 hz1
  refine lv_istore_n (lv' := [(1, .int r1), (0, .ref (h 0))]) hx hb dX6_plan_4 rfl hl (by decide) rfl (fun ls hl => ?_)
  refine lv_iload_n hx hb dX6_plan_5 rfl (lv_at hl 0 rfl) ?_
  refine lv_if_ne (tgt := 14) hx hb dX6_plan_6 (by decide) (fun hc => ?_) (fun hc => ?_)
  · have hw := And.left hw hc
    exact B14 r1 z1 _ _ _ hw hP hD hS (lv_sub hl [1, 0] rfl)
  · have hw := And.right hw hc
    refine lv_aload_n hx hb dX6_plan_9 rfl (lv_at hl 1 rfl) ?_
    refine xc_wi (S := wSt) (wsz := fun q => (wsM G h q)) (f := fun u => u) (xr_V hC (cX6_nextByte_c (h := h) hw) ⟨rfl, rfl⟩ bw_761 calX6_nextByte ⟨Nat.le_trans (Nat.le_of_ble_eq_true rfl) hF, Nat.le_trans (Nat.le_of_ble_eq_true rfl) hL⟩ (rest := []) (xpV hK (cut_all_M) hP hD rfl rfl) rfl hl rfl (Nat.le_of_ble_eq_true rfl) dX6_plan_10 ⟨Nat.zero_le _, Nat.zero_le _⟩) (cut_all_M) hP hD hS hA (fun r2 u z2 H locs hz1 hw hP hD hS => ?_)
    have hw := hw z2 hz1
    refine lv_pop hx hb dX6_plan_13 rfl ?_
    exact B14 r1 z2 _ _ _ hw hP hD hS (lv_sub hl [1, 0] rfl)
def wpX6_pailsOf_25  (post : Int32 → Prop) (t0 : Int32) : Prop := ((0 ≤ t0 → ((t0 ≤ (9 : Int32) → (post t0)) ∧ (¬ t0 ≤ (9 : Int32) → (post (9 : Int32))))) ∧ (¬ 0 ≤ t0 → (post (0 : Int32))))
def wpX6_pailsOf (x0 : Int32) (x1 : Int32) (post : Int32 → Prop) : Prop := ((¬ x0 = (1 : Int32) → ((¬ x0 = (3 : Int32) → (wpX6_pailsOf_25  post ((4 : Int32) + x1))) ∧ (x0 = (3 : Int32) → (wpX6_pailsOf_25  post ((2 : Int32) + x1))))) ∧ (x0 = (1 : Int32) → (wpX6_pailsOf_25  post ((5 : Int32) + x1))))
set_option maxHeartbeats 4000000 in
set_option maxRecDepth 100000 in
theorem cX6_pailsOf_c {l : Launch} {G : wG} {x0 : Int32} {x1 : Int32} {post : Int32 → Prop}  (hw : wpX6_pailsOf x0 x1 post) : Met l yX6_pailsOf (.code yX6_pailsOf cX6_pailsOf 3 (some .int) :: BIG) { frames := 0, cells := 0, slots := 0, locals := 0 } (xPr G [.int x0, .int x1] ([] : va_W)) (vp_Si post) 0 0 (fun _ => False) := by
  refine xm_ri (by decide) (Nat.le_of_ble_eq_true rfl) (fun p e s m args below meth c ls R Q hC hK hP hl hF hL hret => ?_)
  have hx := hC.1
  have hb := hC.2.1
  have hl : lv_has ls 3 [(0, .int x0), (1, .int x1)] := hl
  have B25 : ∀ (t0 : Int32) (ls : Array Slot), wpX6_pailsOf_25  post t0 → lv_has ls 3 [] → W p l e R s m args below meth c s.heap [] 0 0 Q (F0 m 25 ls [.int t0]) := by
    intro t0 ls hw hl
    unfold wpX6_pailsOf_25 at hw
    refine lv_istore_n (lv' := [(2, .int t0)]) hx hb dX6_pailsOf_25 rfl hl (by decide) rfl (fun ls hl => ?_)
    refine lv_iload_n hx hb dX6_pailsOf_26 rfl (lv_at hl 0 rfl) ?_
    refine lv_if_ge (tgt := 34) hx hb dX6_pailsOf_27 (by decide) (fun hc => ?_) (fun hc => ?_)
    · have hw := And.left hw hc
      refine lv_iload_n hx hb dX6_pailsOf_34 rfl (lv_at hl 0 rfl) ?_
      refine lv_bipush (v := (9 : Int32)) hx hb dX6_pailsOf_35 (by decide) ?_
      refine lv_icmp_le (tgt := 45) hx hb dX6_pailsOf_37 (by decide) (fun hc => ?_) (fun hc => ?_)
      · have hw := And.left hw hc
        refine lv_iload_n hx hb dX6_pailsOf_45 rfl (lv_at hl 0 rfl) ?_
        exact hret _ _ _ hw dX6_pailsOf_46
      · have hw := And.right hw hc
        refine lv_bipush (v := (9 : Int32)) hx hb dX6_pailsOf_40 (by decide) ?_
        refine lv_goto (tgt := 46) hx hb dX6_pailsOf_42 (by decide) ?_
        exact hret _ _ _ hw dX6_pailsOf_46
    · have hw := And.right hw hc
      refine lv_iconst (v := (0 : Int32)) hx hb dX6_pailsOf_30 (by decide) ?_
      refine lv_goto (tgt := 46) hx hb dX6_pailsOf_31 (by decide) ?_
      exact hret _ _ _ hw dX6_pailsOf_46
  unfold wpX6_pailsOf at hw
  refine lv_iload_n hx hb dX6_pailsOf_0 rfl (lv_at hl 0 rfl) ?_
  refine lv_iconst (v := (1 : Int32)) hx hb dX6_pailsOf_1 (by decide) ?_
  refine lv_icmp_ne (tgt := 11) hx hb dX6_pailsOf_2 (by decide) (fun hc => ?_) (fun hc => ?_)
  · have hw := And.left hw hc
    refine lv_iload_n hx hb dX6_pailsOf_11 rfl (lv_at hl 0 rfl) ?_
    refine lv_iconst (v := (3 : Int32)) hx hb dX6_pailsOf_12 (by decide) ?_
    refine lv_icmp_ne (tgt := 22) hx hb dX6_pailsOf_13 (by decide) (fun hc => ?_) (fun hc => ?_)
    · have hw := And.left hw hc
      refine lv_iconst (v := (4 : Int32)) hx hb dX6_pailsOf_22 (by decide) ?_
      refine lv_iload_n hx hb dX6_pailsOf_23 rfl (lv_at hl 1 rfl) ?_
      refine lv_iadd hx hb dX6_pailsOf_24 ?_
      exact B25 ((4 : Int32) + x1) _ hw (lv_sub hl [] rfl)
    · have hw := And.right hw hc
      refine lv_iconst (v := (2 : Int32)) hx hb dX6_pailsOf_16 (by decide) ?_
      refine lv_iload_n hx hb dX6_pailsOf_17 rfl (lv_at hl 1 rfl) ?_
      refine lv_iadd hx hb dX6_pailsOf_18 ?_
      refine lv_goto (tgt := 25) hx hb dX6_pailsOf_19 (by decide) ?_
      exact B25 ((2 : Int32) + x1) _ hw (lv_sub hl [] rfl)
  · have hw := And.right hw hc
    refine lv_iconst (v := (5 : Int32)) hx hb dX6_pailsOf_5 (by decide) ?_
    refine lv_iload_n hx hb dX6_pailsOf_6 rfl (lv_at hl 1 rfl) ?_
    refine lv_iadd hx hb dX6_pailsOf_7 ?_
    refine lv_goto (tgt := 25) hx hb dX6_pailsOf_8 (by decide) ?_
    exact B25 ((5 : Int32) + x1) _ hw (lv_sub hl [] rfl)
def wpX6_isSweet_13  (post : Int32 → Prop)  : Prop := (post (1 : Int32))
def wpX6_isSweet (x0 : Int32) (x1 : Int32) (post : Int32 → Prop) : Prop := ((x0 = (1 : Int32) → (wpX6_isSweet_13  post )) ∧ (¬ x0 = (1 : Int32) → ((¬ x0 = 0 → (post (0 : Int32))) ∧ (x0 = 0 → ((x1 < 0 → (post (0 : Int32))) ∧ (¬ x1 < 0 → (wpX6_isSweet_13  post )))))))
set_option maxHeartbeats 4000000 in
set_option maxRecDepth 100000 in
theorem cX6_isSweet_c {l : Launch} {G : wG} {x0 : Int32} {x1 : Int32} {post : Int32 → Prop}  (hw : wpX6_isSweet x0 x1 post) : Met l yX6_isSweet (.code yX6_isSweet cX6_isSweet 2 (some .boolean) :: BIG) { frames := 0, cells := 0, slots := 0, locals := 0 } (xPr G [.int x0, .int x1] ([] : va_W)) (vp_Si post) 0 0 (fun _ => False) := by
  refine xm_rz (by decide) (Nat.le_of_ble_eq_true rfl) (fun p e s m args below meth c ls R Q hC hK hP hl hF hL hret => ?_)
  have hx := hC.1
  have hb := hC.2.1
  have hl : lv_has ls 2 [(0, .int x0), (1, .int x1)] := hl
  have B13 : ∀  (ls : Array Slot), wpX6_isSweet_13  post  → lv_has ls 2 [] → W p l e R s m args below meth c s.heap [] 0 0 Q (F0 m 13 ls []) := by
    intro  ls hw hl
    unfold wpX6_isSweet_13 at hw
    refine lv_iconst (v := (1 : Int32)) hx hb dX6_isSweet_13 (by decide) ?_
    refine lv_goto (tgt := 18) hx hb dX6_isSweet_14 (by decide) ?_
    exact hret _ _ _ rfl hw dX6_isSweet_18
  unfold wpX6_isSweet at hw
  refine lv_iload_n hx hb dX6_isSweet_0 rfl (lv_at hl 0 rfl) ?_
  refine lv_iconst (v := (1 : Int32)) hx hb dX6_isSweet_1 (by decide) ?_
  refine lv_icmp_eq (tgt := 13) hx hb dX6_isSweet_2 (by decide) (fun hc => ?_) (fun hc => ?_)
  · have hw := And.left hw hc
    exact B13  _ hw (lv_sub hl [] rfl)
  · have hw := And.right hw hc
    refine lv_iload_n hx hb dX6_isSweet_5 rfl (lv_at hl 0 rfl) ?_
    refine lv_if_ne (tgt := 17) hx hb dX6_isSweet_6 (by decide) (fun hc => ?_) (fun hc => ?_)
    · have hw := And.left hw hc
      refine lv_iconst (v := (0 : Int32)) hx hb dX6_isSweet_17 (by decide) ?_
      exact hret _ _ _ rfl hw dX6_isSweet_18
    · have hw := And.right hw hc
      refine lv_iload_n hx hb dX6_isSweet_9 rfl (lv_at hl 1 rfl) ?_
      refine lv_if_lt (tgt := 17) hx hb dX6_isSweet_10 (by decide) (fun hc => ?_) (fun hc => ?_)
      · have hw := And.left hw hc
        refine lv_iconst (v := (0 : Int32)) hx hb dX6_isSweet_17 (by decide) ?_
        exact hret _ _ _ rfl hw dX6_isSweet_18
      · have hw := And.right hw hc
        exact B13  _ hw (lv_sub hl [] rfl)
def wpX6_most9 (x0 : Int32) (post : Int32 → Prop) : Prop := ((x0 ≤ (9 : Int32) → (((-9 : Int32) ≤ x0 → (post x0)) ∧ (¬ (-9 : Int32) ≤ x0 → (post (-9 : Int32))))) ∧ (¬ x0 ≤ (9 : Int32) → (post (9 : Int32))))
set_option maxHeartbeats 4000000 in
set_option maxRecDepth 100000 in
theorem cX6_most9_c {l : Launch} {G : wG} {x0 : Int32} {post : Int32 → Prop}  (hw : wpX6_most9 x0 post) : Met l yX6_most9 (.code yX6_most9 cX6_most9 1 (some .int) :: BIG) { frames := 0, cells := 0, slots := 0, locals := 0 } (xPr G [.int x0] ([] : va_W)) (vp_Si post) 0 0 (fun _ => False) := by
  refine xm_ri (by decide) (Nat.le_of_ble_eq_true rfl) (fun p e s m args below meth c ls R Q hC hK hP hl hF hL hret => ?_)
  have hx := hC.1
  have hb := hC.2.1
  have hl : lv_has ls 1 [(0, .int x0)] := hl
  unfold wpX6_most9 at hw
  refine lv_iload_n hx hb dX6_most9_0 rfl (lv_at hl 0 rfl) ?_
  refine lv_bipush (v := (9 : Int32)) hx hb dX6_most9_1 (by decide) ?_
  refine lv_icmp_le (tgt := 11) hx hb dX6_most9_3 (by decide) (fun hc => ?_) (fun hc => ?_)
  · have hw := And.left hw hc
    refine lv_iload_n hx hb dX6_most9_11 rfl (lv_at hl 0 rfl) ?_
    refine lv_bipush (v := (-9 : Int32)) hx hb dX6_most9_12 (by decide) ?_
    refine lv_icmp_ge (tgt := 22) hx hb dX6_most9_14 (by decide) (fun hc => ?_) (fun hc => ?_)
    · have hw := And.left hw hc
      refine lv_iload_n hx hb dX6_most9_22 rfl (lv_at hl 0 rfl) ?_
      exact hret _ _ _ hw dX6_most9_23
    · have hw := And.right hw hc
      refine lv_bipush (v := (-9 : Int32)) hx hb dX6_most9_17 (by decide) ?_
      refine lv_goto (tgt := 23) hx hb dX6_most9_19 (by decide) ?_
      exact hret _ _ _ hw dX6_most9_23
  · have hw := And.right hw hc
    refine lv_bipush (v := (9 : Int32)) hx hb dX6_most9_6 (by decide) ?_
    refine lv_goto (tgt := 23) hx hb dX6_most9_8 (by decide) ?_
    exact hret _ _ _ hw dX6_most9_23
def wpX6_wane (x0 : Int32) (post : Int32 → Prop) : Prop := ((x0 ≤ 0 → ((0 ≤ x0 → (post (0 : Int32))) ∧ (¬ 0 ≤ x0 → (post (x0 + (1 : Int32)))))) ∧ (¬ x0 ≤ 0 → (post (x0 - (1 : Int32)))))
set_option maxHeartbeats 4000000 in
set_option maxRecDepth 100000 in
theorem cX6_wane_c {l : Launch} {G : wG} {x0 : Int32} {post : Int32 → Prop}  (hw : wpX6_wane x0 post) : Met l yX6_wane (.code yX6_wane cX6_wane 1 (some .int) :: BIG) { frames := 0, cells := 0, slots := 0, locals := 0 } (xPr G [.int x0] ([] : va_W)) (vp_Si post) 0 0 (fun _ => False) := by
  refine xm_ri (by decide) (Nat.le_of_ble_eq_true rfl) (fun p e s m args below meth c ls R Q hC hK hP hl hF hL hret => ?_)
  have hx := hC.1
  have hb := hC.2.1
  have hl : lv_has ls 1 [(0, .int x0)] := hl
  unfold wpX6_wane at hw
  refine lv_iload_n hx hb dX6_wane_0 rfl (lv_at hl 0 rfl) ?_
  refine lv_if_le (tgt := 10) hx hb dX6_wane_1 (by decide) (fun hc => ?_) (fun hc => ?_)
  · have hw := And.left hw hc
    refine lv_iload_n hx hb dX6_wane_10 rfl (lv_at hl 0 rfl) ?_
    refine lv_if_ge (tgt := 20) hx hb dX6_wane_11 (by decide) (fun hc => ?_) (fun hc => ?_)
    · have hw := And.left hw hc
      refine lv_iconst (v := (0 : Int32)) hx hb dX6_wane_20 (by decide) ?_
      exact hret _ _ _ hw dX6_wane_21
    · have hw := And.right hw hc
      refine lv_iload_n hx hb dX6_wane_14 rfl (lv_at hl 0 rfl) ?_
      refine lv_iconst (v := (1 : Int32)) hx hb dX6_wane_15 (by decide) ?_
      refine lv_iadd hx hb dX6_wane_16 ?_
      refine lv_goto (tgt := 21) hx hb dX6_wane_17 (by decide) ?_
      exact hret _ _ _ hw dX6_wane_21
  · have hw := And.right hw hc
    refine lv_iload_n hx hb dX6_wane_4 rfl (lv_at hl 0 rfl) ?_
    refine lv_iconst (v := (1 : Int32)) hx hb dX6_wane_5 (by decide) ?_
    refine lv_isub hx hb dX6_wane_6 ?_
    refine lv_goto (tgt := 21) hx hb dX6_wane_7 (by decide) ?_
    exact hret _ _ _ hw dX6_wane_21
def wpX6_feltBy (x1 : Int32) (z0 : wSt) (post : Int32 → Prop) : Prop := (vp_in x1 6 ∧ ((¬ ((w_a z0 0) x1.toNatClampNeg) = (3 : Int32) → (vp_in x1 6 ∧ (post ((w_a z0 1) x1.toNatClampNeg)))) ∧ (((w_a z0 0) x1.toNatClampNeg) = (3 : Int32) → (vp_in x1 6 ∧ (post (-((w_a z0 1) x1.toNatClampNeg)))))))
set_option maxHeartbeats 4000000 in
set_option maxRecDepth 100000 in
theorem cX6_feltBy_c {l : Launch} {G : wG} {h : Nat → Nat} {x1 : Int32} {post : Int32 → Prop} {z0 : wSt}  (hw : wpX6_feltBy x1 z0 post) : Met l yX6_feltBy (.code yX6_feltBy cX6_feltBy 2 (some .int) :: BIG) { frames := 0, cells := 0, slots := 0, locals := 0 } (xPr G [.ref (h 0), .int x1] (wsM G h z0)) (vp_Si post) 0 0 (fun _ => False) := by
  refine xm_ri (by decide) (Nat.le_of_ble_eq_true rfl) (fun p e s m args below meth c ls R Q hC hK hP hl hF hL hret => ?_)
  have hx := hC.1
  have hb := hC.2.1
  have hl : lv_has ls 2 [(0, .ref (h 0)), (1, .int x1)] := hl
  unfold wpX6_feltBy at hw
  refine lv_aload_n hx hb dX6_feltBy_0 rfl (lv_at hl 0 rfl) ?_
  refine rg_M_X6_0_0 hC hK hP dX6_feltBy_1 ?_
  refine lv_iload_n hx hb dX6_feltBy_4 rfl (lv_at hl 1 rfl) ?_
  refine rl_M_1 hC hK hP (And.left hw) dX6_feltBy_5 ?_
  have hw := And.right hw
  refine lv_iconst (v := (3 : Int32)) hx hb dX6_feltBy_6 (by decide) ?_
  refine lv_icmp_ne (tgt := 20) hx hb dX6_feltBy_7 (by decide) (fun hc => ?_) (fun hc => ?_)
  · have hw := And.left hw hc
    refine lv_aload_n hx hb dX6_feltBy_20 rfl (lv_at hl 0 rfl) ?_
    refine rg_M_X6_0_1 hC hK hP dX6_feltBy_21 ?_
    refine lv_iload_n hx hb dX6_feltBy_24 rfl (lv_at hl 1 rfl) ?_
    refine rl_M_2 hC hK hP (And.left hw) dX6_feltBy_25 ?_
    have hw := And.right hw
    exact hret _ _ _ hw dX6_feltBy_26
  · have hw := And.right hw hc
    refine lv_aload_n hx hb dX6_feltBy_10 rfl (lv_at hl 0 rfl) ?_
    refine rg_M_X6_0_1 hC hK hP dX6_feltBy_11 ?_
    refine lv_iload_n hx hb dX6_feltBy_14 rfl (lv_at hl 1 rfl) ?_
    refine rl_M_2 hC hK hP (And.left hw) dX6_feltBy_15 ?_
    have hw := And.right hw
    refine lv_ineg hx hb dX6_feltBy_16 ?_
    refine lv_goto (tgt := 26) hx hb dX6_feltBy_17 (by decide) ?_
    exact hret _ _ _ hw dX6_feltBy_26
def wpX6_begin_34 (k34 : Int32 → (wSt) → Prop) (post : (wSt) → Prop) (x1 : Int32) (z0 : wSt) : Prop := (((6 : Int32) ≤ x1 → (post z0)) ∧ (¬ (6 : Int32) ≤ x1 → (vp_in x1 6 ∧ (vp_in x1 6 ∧ ∀ z1 : wSt, z1 = (w_sa z0 27 (upd (w_a z0 27) x1.toNatClampNeg ((w_a z0 4) x1.toNatClampNeg))) → (k34 (x1 + (1 : Int32)) z1)))))
def wpX6_begin_L34  (post : (wSt) → Prop) : Nat → Int32 → (wSt) → Prop
  | 0 => fun _ _ => False
  | n + 1 => fun x1 z0 => wpX6_begin_34  (wpX6_begin_L34  post n) post x1 z0
def wpX6_begin (z0 : wSt) (post : (wSt) → Prop) : Prop := (∀ z1 : wSt, z1 = (w_si z0 21 (w_i z0 6)) → (∀ z2 : wSt, z2 = (w_si z1 22 (w_i z1 7)) → (∀ z3 : wSt, z3 = (w_si z2 23 (w_i z2 11)) → (∀ z4 : wSt, z4 = (w_si z3 24 (w_i z3 12)) → (∃ n, wpX6_begin_L34  post n (0 : Int32) z4)))))
set_option maxHeartbeats 4000000 in
set_option maxRecDepth 100000 in
theorem cX6_begin_c {l : Launch} {G : wG} {h : Nat → Nat} {sz : Nat}  {post : (wSt) → Prop} {z0 : wSt}  (hw : wpX6_begin z0 post) : Met l yX6_begin (.code yX6_begin cX6_begin 2 none :: BIG) { frames := 0, cells := 0, slots := 0, locals := 0 } (xPw G [.ref (h 0)] (wsM G h z0) sz) (xQv G post (fun q => (wsM G h q)) (va_A (wsM G h z0) sz)) 0 0 (va_A (wsM G h z0) sz) := by
  refine xm_wv (by decide) (Nat.le_of_ble_eq_true rfl) (fun p e s m args below meth c A ls R Q hC hK hA hP hD hS hl hF hL hret => ?_)
  have hx := hC.1
  have hb := hC.2.1
  have hl : lv_has ls 2 [(0, .ref (h 0))] := hl
  have B34 : ∀ n34 : Nat, ∀ (x1 : Int32) (z0 : wSt) (H : Heap) (locs : List Loc) (ls : Array Slot), wpX6_begin_L34  post n34 x1 z0 → va_P G.1 vwCl (wsM G h z0) H → va_D A (wsM G h z0) → va_S A s.heap H locs → lv_has ls 2 [(0, .ref (h 0)), (1, .int x1)] → W p l e R s m args below meth c H locs 0 0 Q (F0 m 34 ls []) := by
    intro n34
    induction n34 with
    | zero => intro x1 z0 H locs ls hw hP hD hS hl; exact False.elim hw
    | succ n34 I34 =>
      intro x1 z0 H locs ls hw hP hD hS hl
      have hw : wpX6_begin_34  (wpX6_begin_L34  post n34) post x1 z0 := hw
      unfold wpX6_begin_34 at hw
      refine lv_iload_n hx hb dX6_begin_34 rfl (lv_at hl 1 rfl) ?_
      refine lv_bipush (v := (6 : Int32)) hx hb dX6_begin_35 (by decide) ?_
      refine lv_icmp_ge (tgt := 58) hx hb dX6_begin_37 (by decide) (fun hc => ?_) (fun hc => ?_)
      · have hw := And.left hw hc
        exact hret _ _ _ _ _ hw hP hD hS dX6_begin_58
      · have hw := And.right hw hc
        refine lv_aload_n hx hb dX6_begin_40 rfl (lv_at hl 0 rfl) ?_
        refine rg_M_X6_0_27 hC hK hP dX6_begin_41 ?_
        refine lv_iload_n hx hb dX6_begin_44 rfl (lv_at hl 1 rfl) ?_
        refine lv_aload_n hx hb dX6_begin_45 rfl (lv_at hl 0 rfl) ?_
        refine rg_M_X6_0_4 hC hK hP dX6_begin_46 ?_
        refine lv_iload_n hx hb dX6_begin_49 rfl (lv_at hl 1 rfl) ?_
        refine rl_M_5 hC hK hP (And.left hw) dX6_begin_50 ?_
        have hw := And.right hw
        refine rs_M_9 hC hK hP hD hS (And.left hw) dX6_begin_51 (fun z1 H locs hz1 hP hD hS => ?_)
        have hw := And.right hw z1 hz1
        refine lv_iinc (v := (x1 + (1 : Int32))) (lv' := [(1, .int (x1 + (1 : Int32))), (0, .ref (h 0))]) hx hb dX6_begin_52 hl (k := 1) rfl rfl (by decide) rfl (fun ls hl => ?_)
        refine lv_goto (tgt := 34) hx hb dX6_begin_55 (by decide) ?_
        exact I34 (x1 + (1 : Int32)) z1 _ _ _ hw hP hD hS (lv_sub hl [1, 0] rfl)
  unfold wpX6_begin at hw
  refine lv_aload_n hx hb dX6_begin_0 rfl (lv_at hl 0 rfl) ?_
  refine lv_aload_n hx hb dX6_begin_1 rfl (lv_at hl 0 rfl) ?_
  refine rg_M_X6_0_6 hC hK hP dX6_begin_2 ?_
  refine rp_M_X6_0_21 hC hK hP hD hS dX6_begin_5 (fun z1 H locs hz1 hP hD hS => ?_)
  have hw := hw z1 hz1
  refine lv_aload_n hx hb dX6_begin_8 rfl (lv_at hl 0 rfl) ?_
  refine lv_aload_n hx hb dX6_begin_9 rfl (lv_at hl 0 rfl) ?_
  refine rg_M_X6_0_7 hC hK hP dX6_begin_10 ?_
  refine rp_M_X6_0_22 hC hK hP hD hS dX6_begin_13 (fun z2 H locs hz1 hP hD hS => ?_)
  have hw := hw z2 hz1
  refine lv_aload_n hx hb dX6_begin_16 rfl (lv_at hl 0 rfl) ?_
  refine lv_aload_n hx hb dX6_begin_17 rfl (lv_at hl 0 rfl) ?_
  refine rg_M_X6_0_11 hC hK hP dX6_begin_18 ?_
  refine rp_M_X6_0_23 hC hK hP hD hS dX6_begin_21 (fun z3 H locs hz1 hP hD hS => ?_)
  have hw := hw z3 hz1
  refine lv_aload_n hx hb dX6_begin_24 rfl (lv_at hl 0 rfl) ?_
  refine lv_aload_n hx hb dX6_begin_25 rfl (lv_at hl 0 rfl) ?_
  refine rg_M_X6_0_12 hC hK hP dX6_begin_26 ?_
  refine rp_M_X6_0_24 hC hK hP hD hS dX6_begin_29 (fun z4 H locs hz1 hP hD hS => ?_)
  have hw := hw z4 hz1
  refine lv_iconst (v := (0 : Int32)) hx hb dX6_begin_32 (by decide) ?_
  refine lv_istore_n (lv' := [(1, .int (0 : Int32)), (0, .ref (h 0))]) hx hb dX6_begin_33 rfl hl (by decide) rfl (fun ls hl => ?_)
  obtain ⟨j34, hw⟩ := hw
  exact B34 j34 (0 : Int32) z4 _ _ _ hw hP hD hS (lv_sub hl [1, 0] rfl)
