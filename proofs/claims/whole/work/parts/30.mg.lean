def wpX6_film_42 (k42 : Int32 → Int32 → Int32 → Int32 → (wSt) → Prop) (post : Int32 → (wSt) → Prop) (x1 : Int32) (x2 : Int32) (x4 : Int32) (x6 : Int32) (z0 : wSt) : Prop := (((9 : Int32) < x6 → (post (19 : Int32) z0)) ∧ (¬ (9 : Int32) < x6 → (wpX6_givesOf x1 x6 z0 (fun r1 => (vp_in (((((24 : Int32) * x2) + x4) + x6) + (9 : Int32)) 96 ∧ ∀ z1 : wSt, z1 = (w_sl z0 34 (vp_updL (w_l z0 34) (((((24 : Int32) * x2) + x4) + x6) + (9 : Int32)).toNatClampNeg (r1.toInt64))) → (k42 x1 x2 x4 (x6 + (1 : Int32)) z1))))))
def wpX6_film_L42  (post : Int32 → (wSt) → Prop) : Nat → Int32 → Int32 → Int32 → Int32 → (wSt) → Prop
  | 0 => fun _ _ _ _ _ => False
  | n + 1 => fun x1 x2 x4 x6 z0 => wpX6_film_42  (wpX6_film_L42  post n) post x1 x2 x4 x6 z0
def wpX6_film (x1 : Int32) (x2 : Int32) (x3 : Int32) (x4 : Int32) (z0 : wSt) (post : Int32 → (wSt) → Prop) : Prop := (wpX6_isOne x1 z0 (fun r1 => ((r1 = 0 → (post (-1 : Int32) z0)) ∧ (¬ r1 = 0 → (wpX6_isSheet x2 x3 (fun r2 => ((¬ r2 = 0 → (wpX6_lacksRow x2 x3 x4 (19 : Int32) z0 (fun r3 => ((0 ≤ r3 → (∃ n, wpX6_film_L42  post n x1 x2 x4 (-9 : Int32) z0)) ∧ (¬ 0 ≤ r3 → (post r3 z0)))))) ∧ (r2 = 0 → (post (-1 : Int32) z0)))))))))
set_option maxHeartbeats 4000000 in
set_option maxRecDepth 100000 in
theorem cX6_film_c {l : Launch} {G : wG} {h : Nat → Nat} {sz : Nat} {x1 : Int32} {x2 : Int32} {x3 : Int32} {x4 : Int32} {post : Int32 → (wSt) → Prop} {z0 : wSt}  (hw : wpX6_film x1 x2 x3 x4 z0 post) : Met l yX6_film (.code yX6_film cX6_film 7 (some .int) :: BIG) { frames := 2, cells := 0, slots := 0, locals := 49 } (xPw G [.ref (h 0), .int x1, .int x2, .int x3, .int x4] (wsM G h z0) sz) (xQi G post (fun q => (wsM G h q)) (va_A (wsM G h z0) sz)) 0 0 (va_A (wsM G h z0) sz) := by
  refine xm_wi (by decide) (Nat.le_of_ble_eq_true rfl) (fun p e s m args below meth c A ls R Q hC hK hA hP hD hS hl hF hL hret => ?_)
  have hx := hC.1
  have hb := hC.2.1
  have hl : lv_has ls 7 [(0, .ref (h 0)), (1, .int x1), (2, .int x2), (3, .int x3), (4, .int x4)] := hl
  have B42 : ∀ n42 : Nat, ∀ (x1 : Int32) (x2 : Int32) (x4 : Int32) (x6 : Int32) (z0 : wSt) (H : Heap) (locs : List Loc) (ls : Array Slot), wpX6_film_L42  post n42 x1 x2 x4 x6 z0 → va_P G.1 vwCl (wsM G h z0) H → va_D A (wsM G h z0) → va_S A s.heap H locs → lv_has ls 7 [(0, .ref (h 0)), (1, .int x1), (2, .int x2), (4, .int x4), (6, .int x6)] → W p l e R s m args below meth c H locs 0 0 Q (F0 m 42 ls []) := by
    intro n42
    induction n42 with
    | zero => intro x1 x2 x4 x6 z0 H locs ls hw hP hD hS hl; exact False.elim hw
    | succ n42 I42 =>
      intro x1 x2 x4 x6 z0 H locs ls hw hP hD hS hl
      have hw : wpX6_film_42  (wpX6_film_L42  post n42) post x1 x2 x4 x6 z0 := hw
      unfold wpX6_film_42 at hw
      refine lv_iload hx hb dX6_film_42 (lv_at hl 4 rfl) ?_
      refine lv_bipush (v := (9 : Int32)) hx hb dX6_film_44 (by decide) ?_
      refine lv_icmp_gt (tgt := 81) hx hb dX6_film_46 (by decide) (fun hc => ?_) (fun hc => ?_)
      · have hw := And.left hw hc
        refine lv_bipush (v := (19 : Int32)) hx hb dX6_film_81 (by decide) ?_
        exact hret _ _ _ _ _ _ hw hP hD hS dX6_film_83
      · have hw := And.right hw hc
        refine lv_aload_n hx hb dX6_film_49 rfl (lv_at hl 0 rfl) ?_
        refine rg_M_X6_0_34 hC hK hP dX6_film_50 ?_
        refine lv_bipush (v := (24 : Int32)) hx hb dX6_film_53 (by decide) ?_
        refine lv_iload_n hx hb dX6_film_55 rfl (lv_at hl 2 rfl) ?_
        refine lv_imul hx hb dX6_film_56 ?_
        refine lv_iload hx hb dX6_film_57 (lv_at hl 3 rfl) ?_
        refine lv_iadd hx hb dX6_film_59 ?_
        refine lv_iload hx hb dX6_film_60 (lv_at hl 4 rfl) ?_
        refine lv_iadd hx hb dX6_film_62 ?_
        refine lv_bipush (v := (9 : Int32)) hx hb dX6_film_63 (by decide) ?_
        refine lv_iadd hx hb dX6_film_65 ?_
        refine lv_aload_n hx hb dX6_film_66 rfl (lv_at hl 0 rfl) ?_
        refine lv_iload_n hx hb dX6_film_67 rfl (lv_at hl 1 rfl) ?_
        refine lv_iload hx hb dX6_film_68 (lv_at hl 4 rfl) ?_
        refine vp_callSi (xro (xr_V hC (cX6_givesOf_c (h := h) hw) ⟨rfl, rfl⟩ bw_863 calX6_givesOf ⟨Nat.le_trans (Nat.le_of_ble_eq_true rfl) hF, Nat.le_trans (Nat.le_of_ble_eq_true rfl) hL⟩ (rest := [.int (((((24 : Int32) * x2) + x4) + x6) + (9 : Int32)), .ref (h 15)]) (xpR hK hP rfl rfl) rfl hl rfl (Nat.le_of_ble_eq_true rfl) dX6_film_70 ⟨Nat.zero_le _, Nat.zero_le _⟩)) (fun r1 hw => ?_)
        refine lv_i2l (v := (r1.toInt64)) hx hb dX6_film_73 rfl ?_
        refine rs_M_15 hC hK hP hD hS (And.left hw) dX6_film_74 (fun z1 H locs hz1 hP hD hS => ?_)
        have hw := And.right hw z1 hz1
        refine lv_iinc (v := (x6 + (1 : Int32))) (lv' := [(6, .int (x6 + (1 : Int32))), (0, .ref (h 0)), (1, .int x1), (2, .int x2), (4, .int x4)]) hx hb dX6_film_75 hl (k := 4) rfl rfl (by decide) rfl (fun ls hl => ?_)
        refine lv_goto (tgt := 42) hx hb dX6_film_78 (by decide) ?_
        exact I42 x1 x2 x4 (x6 + (1 : Int32)) z1 _ _ _ hw hP hD hS (lv_sub hl [1, 2, 3, 4, 0] rfl)
  unfold wpX6_film at hw
  refine lv_aload_n hx hb dX6_film_0 rfl (lv_at hl 0 rfl) ?_
  refine lv_iload_n hx hb dX6_film_1 rfl (lv_at hl 1 rfl) ?_
  refine vp_callSi (xro (xr_V hC (cX6_isOne_c (h := h) hw) ⟨rfl, rfl⟩ bw_713 calX6_isOne ⟨Nat.le_trans (Nat.le_of_ble_eq_true rfl) hF, Nat.le_trans (Nat.le_of_ble_eq_true rfl) hL⟩ (rest := []) (xpR hK hP rfl rfl) rfl hl rfl (Nat.le_of_ble_eq_true rfl) dX6_film_2 ⟨Nat.zero_le _, Nat.zero_le _⟩)) (fun r1 hw => ?_)
  refine lv_if_eq (tgt := 16) hx hb dX6_film_5 (by decide) (fun hc => ?_) (fun hc => ?_)
  · have hw := And.left hw hc
    refine lv_iconst (v := (-1 : Int32)) hx hb dX6_film_16 (by decide) ?_
    exact hret _ _ _ _ _ _ hw hP hD hS dX6_film_17
  · have hw := And.right hw hc
    refine lv_iload_n hx hb dX6_film_8 rfl (lv_at hl 2 rfl) ?_
    refine lv_iload_n hx hb dX6_film_9 rfl (lv_at hl 3 rfl) ?_
    refine vp_callSi (xro (xr_S hC (cX6_isSheet_c hw) ⟨rfl, rfl⟩ bw_903 calX6_isSheet ⟨Nat.le_trans (Nat.le_of_ble_eq_true rfl) hF, Nat.le_trans (Nat.le_of_ble_eq_true rfl) hL⟩ (rest := []) (xpS hK) rfl hl rfl (Nat.le_of_ble_eq_true rfl) dX6_film_10 ⟨Nat.zero_le _, Nat.zero_le _⟩)) (fun r2 hw => ?_)
    refine lv_if_ne (tgt := 18) hx hb dX6_film_13 (by decide) (fun hc => ?_) (fun hc => ?_)
    · have hw := And.left hw hc
      refine lv_aload_n hx hb dX6_film_18 rfl (lv_at hl 0 rfl) ?_
      refine lv_iload_n hx hb dX6_film_19 rfl (lv_at hl 2 rfl) ?_
      refine lv_iload_n hx hb dX6_film_20 rfl (lv_at hl 3 rfl) ?_
      refine lv_iload hx hb dX6_film_21 (lv_at hl 4 rfl) ?_
      refine lv_bipush (v := (19 : Int32)) hx hb dX6_film_23 (by decide) ?_
      refine vp_callSi (xro (xr_V hC (cX6_lacksRow_c (h := h) hw) ⟨rfl, rfl⟩ bw_914 calX6_lacksRow ⟨Nat.le_trans (Nat.le_of_ble_eq_true rfl) hF, Nat.le_trans (Nat.le_of_ble_eq_true rfl) hL⟩ (rest := []) (xpR hK hP rfl rfl) rfl hl rfl (Nat.le_of_ble_eq_true rfl) dX6_film_25 ⟨Nat.zero_le _, Nat.zero_le _⟩)) (fun r3 hw => ?_)
      refine lv_istore (lv' := [(5, .int r3), (0, .ref (h 0)), (1, .int x1), (2, .int x2), (3, .int x3), (4, .int x4)]) hx hb dX6_film_28 hl (by decide) rfl (fun ls hl => ?_)
      refine lv_iload hx hb dX6_film_30 (lv_at hl 0 rfl) ?_
      refine lv_if_ge (tgt := 38) hx hb dX6_film_32 (by decide) (fun hc => ?_) (fun hc => ?_)
      · have hw := And.left hw hc
        refine lv_bipush (v := (-9 : Int32)) hx hb dX6_film_38 (by decide) ?_
        refine lv_istore (lv' := [(6, .int (-9 : Int32)), (5, .int r3), (0, .ref (h 0)), (1, .int x1), (2, .int x2), (3, .int x3), (4, .int x4)]) hx hb dX6_film_40 hl (by decide) rfl (fun ls hl => ?_)
        obtain ⟨j42, hw⟩ := hw
        exact B42 j42 x1 x2 x4 (-9 : Int32) z0 _ _ _ hw hP hD hS (lv_sub hl [2, 3, 4, 6, 0] rfl)
      · have hw := And.right hw hc
        refine lv_iload hx hb dX6_film_35 (lv_at hl 0 rfl) ?_
        exact hret _ _ _ _ _ _ hw hP hD hS dX6_film_37
    · have hw := And.right hw hc
      refine lv_iconst (v := (-1 : Int32)) hx hb dX6_film_16 (by decide) ?_
      exact hret _ _ _ _ _ _ hw hP hD hS dX6_film_17
def wpX6_copy_154 (k154 : Int32 → Int32 → Int32 → Int32 → (wSt) → Prop) (post : Int32 → (wSt) → Prop) (x3 : Int32) (x4 : Int32) (x5 : Int32) (x6 : Int32) (z0 : wSt) : Prop := ((x5 ≤ x6 → (post x5 z0)) ∧ (¬ x5 ≤ x6 → (vp_in x6 24 ∧ (vp_in ((((24 : Int32) * x3) + x4) + x6) 96 ∧ ∀ z1 : wSt, z1 = (w_sl z0 34 (vp_updL (w_l z0 34) ((((24 : Int32) * x3) + x4) + x6).toNatClampNeg ((w_l z0 35) x6.toNatClampNeg))) → (k154 x3 x4 x5 (x6 + (1 : Int32)) z1)))))
def wpX6_copy_L154  (post : Int32 → (wSt) → Prop) : Nat → Int32 → Int32 → Int32 → Int32 → (wSt) → Prop
  | 0 => fun _ _ _ _ _ => False
  | n + 1 => fun x3 x4 x5 x6 z0 => wpX6_copy_154  (wpX6_copy_L154  post n) post x3 x4 x5 x6 z0
def wpX6_copy_117 (k117 : Int32 → Int32 → Int32 → Int32 → Int32 → Int32 → (wSt) → Prop) (post : Int32 → (wSt) → Prop) (x1 : Int32) (x2 : Int32) (x3 : Int32) (x4 : Int32) (x5 : Int32) (x6 : Int32) (z0 : wSt) : Prop := ((x5 ≤ x6 → (∃ n, wpX6_copy_L154  post n x3 x4 x5 (0 : Int32) z0)) ∧ (¬ x5 ≤ x6 → (vp_in ((((24 : Int32) * x1) + x2) + x6) 96 ∧ (vp_in x6 24 ∧ ∀ z1 : wSt, z1 = (w_sl z0 35 (vp_updL (w_l z0 35) x6.toNatClampNeg ((w_l z0 34) ((((24 : Int32) * x1) + x2) + x6).toNatClampNeg))) → (k117 x1 x2 x3 x4 x5 (x6 + (1 : Int32)) z1)))))
def wpX6_copy_L117  (post : Int32 → (wSt) → Prop) : Nat → Int32 → Int32 → Int32 → Int32 → Int32 → Int32 → (wSt) → Prop
  | 0 => fun _ _ _ _ _ _ _ => False
  | n + 1 => fun x1 x2 x3 x4 x5 x6 z0 => wpX6_copy_117  (wpX6_copy_L117  post n) post x1 x2 x3 x4 x5 x6 z0
def wpX6_copy (x1 : Int32) (x2 : Int32) (x3 : Int32) (x4 : Int32) (x5 : Int32) (z0 : wSt) (post : Int32 → (wSt) → Prop) : Prop := (wpX6_in (x1.toInt64) (0 : Int64) (3 : Int64) (fun r1 => ((r1 = 0 → (post (-1 : Int32) z0)) ∧ (¬ r1 = 0 → (wpX6_in (x3.toInt64) (0 : Int64) (3 : Int64) (fun r2 => ((¬ r2 = 0 → (vp_in x1 4 ∧ ((((w_a z0 32) x1.toNatClampNeg) < 0 → (post (-11 : Int32) z0)) ∧ (¬ ((w_a z0 32) x1.toNatClampNeg) < 0 → (vp_in x3 4 ∧ ((0 ≤ ((w_a z0 32) x3.toNatClampNeg) → (vp_in x1 4 ∧ (vp_in x3 4 ∧ ((((w_a z0 32) x1.toNatClampNeg) = ((w_a z0 32) x3.toNatClampNeg) → ((x5 < 0 → (post (-13 : Int32) z0)) ∧ (¬ x5 < 0 → (vp_in x1 4 ∧ (wpX6_in (x2.toInt64) (0 : Int64) ((((w_a z0 33) x1.toNatClampNeg).toInt64) - (x5.toInt64)) (fun r3 => ((r3 = 0 → (post (-13 : Int32) z0)) ∧ (¬ r3 = 0 → (vp_in x3 4 ∧ (wpX6_in (x4.toInt64) (0 : Int64) ((((w_a z0 33) x3.toNatClampNeg).toInt64) - (x5.toInt64)) (fun r4 => ((¬ r4 = 0 → (∃ n, wpX6_copy_L117  post n x1 x2 x3 x4 x5 (0 : Int32) z0)) ∧ (r4 = 0 → (post (-13 : Int32) z0)))))))))))))) ∧ (¬ ((w_a z0 32) x1.toNatClampNeg) = ((w_a z0 32) x3.toNatClampNeg) → (post (-12 : Int32) z0)))))) ∧ (¬ 0 ≤ ((w_a z0 32) x3.toNatClampNeg) → (post (-11 : Int32) z0)))))))) ∧ (r2 = 0 → (post (-1 : Int32) z0)))))))))
set_option maxHeartbeats 4000000 in
set_option maxRecDepth 100000 in
theorem cX6_copy_c {l : Launch} {G : wG} {h : Nat → Nat} {sz : Nat} {x1 : Int32} {x2 : Int32} {x3 : Int32} {x4 : Int32} {x5 : Int32} {post : Int32 → (wSt) → Prop} {z0 : wSt}  (hw : wpX6_copy x1 x2 x3 x4 x5 z0 post) : Met l yX6_copy (.code yX6_copy cX6_copy 7 (some .int) :: BIG) { frames := 1, cells := 0, slots := 0, locals := 25 } (xPw G [.ref (h 0), .int x1, .int x2, .int x3, .int x4, .int x5] (wsM G h z0) sz) (xQi G post (fun q => (wsM G h q)) (va_A (wsM G h z0) sz)) 0 0 (va_A (wsM G h z0) sz) := by
  refine xm_wi (by decide) (Nat.le_of_ble_eq_true rfl) (fun p e s m args below meth c A ls R Q hC hK hA hP hD hS hl hF hL hret => ?_)
  have hx := hC.1
  have hb := hC.2.1
  have hl : lv_has ls 7 [(0, .ref (h 0)), (1, .int x1), (2, .int x2), (3, .int x3), (4, .int x4), (5, .int x5)] := hl
  have B154 : ∀ n154 : Nat, ∀ (x3 : Int32) (x4 : Int32) (x5 : Int32) (x6 : Int32) (z0 : wSt) (H : Heap) (locs : List Loc) (ls : Array Slot), wpX6_copy_L154  post n154 x3 x4 x5 x6 z0 → va_P G.1 vwCl (wsM G h z0) H → va_D A (wsM G h z0) → va_S A s.heap H locs → lv_has ls 7 [(0, .ref (h 0)), (3, .int x3), (4, .int x4), (5, .int x5), (6, .int x6)] → W p l e R s m args below meth c H locs 0 0 Q (F0 m 154 ls []) := by
    intro n154
    induction n154 with
    | zero => intro x3 x4 x5 x6 z0 H locs ls hw hP hD hS hl; exact False.elim hw
    | succ n154 I154 =>
      intro x3 x4 x5 x6 z0 H locs ls hw hP hD hS hl
      have hw : wpX6_copy_154  (wpX6_copy_L154  post n154) post x3 x4 x5 x6 z0 := hw
      unfold wpX6_copy_154 at hw
      refine lv_iload hx hb dX6_copy_154 (lv_at hl 4 rfl) ?_
      refine lv_iload hx hb dX6_copy_156 (lv_at hl 3 rfl) ?_
      refine lv_icmp_ge (tgt := 189) hx hb dX6_copy_158 (by decide) (fun hc => ?_) (fun hc => ?_)
      · have hw := And.left hw hc
        refine lv_iload hx hb dX6_copy_189 (lv_at hl 3 rfl) ?_
        exact hret _ _ _ _ _ _ hw hP hD hS dX6_copy_191
      · have hw := And.right hw hc
        refine lv_aload_n hx hb dX6_copy_161 rfl (lv_at hl 0 rfl) ?_
        refine rg_M_X6_0_34 hC hK hP dX6_copy_162 ?_
        refine lv_bipush (v := (24 : Int32)) hx hb dX6_copy_165 (by decide) ?_
        refine lv_iload_n hx hb dX6_copy_167 rfl (lv_at hl 1 rfl) ?_
        refine lv_imul hx hb dX6_copy_168 ?_
        refine lv_iload hx hb dX6_copy_169 (lv_at hl 2 rfl) ?_
        refine lv_iadd hx hb dX6_copy_171 ?_
        refine lv_iload hx hb dX6_copy_172 (lv_at hl 4 rfl) ?_
        refine lv_iadd hx hb dX6_copy_174 ?_
        refine lv_aload_n hx hb dX6_copy_175 rfl (lv_at hl 0 rfl) ?_
        refine rg_M_X6_0_35 hC hK hP dX6_copy_176 ?_
        refine lv_iload hx hb dX6_copy_179 (lv_at hl 4 rfl) ?_
        refine rl_M_16 hC hK hP (And.left hw) dX6_copy_181 ?_
        have hw := And.right hw
        refine rs_M_15 hC hK hP hD hS (And.left hw) dX6_copy_182 (fun z1 H locs hz1 hP hD hS => ?_)
        have hw := And.right hw z1 hz1
        refine lv_iinc (v := (x6 + (1 : Int32))) (lv' := [(6, .int (x6 + (1 : Int32))), (0, .ref (h 0)), (3, .int x3), (4, .int x4), (5, .int x5)]) hx hb dX6_copy_183 hl (k := 4) rfl rfl (by decide) rfl (fun ls hl => ?_)
        refine lv_goto (tgt := 154) hx hb dX6_copy_186 (by decide) ?_
        exact I154 x3 x4 x5 (x6 + (1 : Int32)) z1 _ _ _ hw hP hD hS (lv_sub hl [1, 2, 3, 4, 0] rfl)
  have B117 : ∀ n117 : Nat, ∀ (x1 : Int32) (x2 : Int32) (x3 : Int32) (x4 : Int32) (x5 : Int32) (x6 : Int32) (z0 : wSt) (H : Heap) (locs : List Loc) (ls : Array Slot), wpX6_copy_L117  post n117 x1 x2 x3 x4 x5 x6 z0 → va_P G.1 vwCl (wsM G h z0) H → va_D A (wsM G h z0) → va_S A s.heap H locs → lv_has ls 7 [(0, .ref (h 0)), (1, .int x1), (2, .int x2), (3, .int x3), (4, .int x4), (5, .int x5), (6, .int x6)] → W p l e R s m args below meth c H locs 0 0 Q (F0 m 117 ls []) := by
    intro n117
    induction n117 with
    | zero => intro x1 x2 x3 x4 x5 x6 z0 H locs ls hw hP hD hS hl; exact False.elim hw
    | succ n117 I117 =>
      intro x1 x2 x3 x4 x5 x6 z0 H locs ls hw hP hD hS hl
      have hw : wpX6_copy_117  (wpX6_copy_L117  post n117) post x1 x2 x3 x4 x5 x6 z0 := hw
      unfold wpX6_copy_117 at hw
      refine lv_iload hx hb dX6_copy_117 (lv_at hl 6 rfl) ?_
      refine lv_iload hx hb dX6_copy_119 (lv_at hl 5 rfl) ?_
      refine lv_icmp_ge (tgt := 151) hx hb dX6_copy_121 (by decide) (fun hc => ?_) (fun hc => ?_)
      · have hw := And.left hw hc
        refine lv_iconst (v := (0 : Int32)) hx hb dX6_copy_151 (by decide) ?_
        refine lv_istore (lv' := [(6, .int (0 : Int32)), (0, .ref (h 0)), (1, .int x1), (2, .int x2), (3, .int x3), (4, .int x4), (5, .int x5)]) hx hb dX6_copy_152 hl (by decide) rfl (fun ls hl => ?_)
        obtain ⟨j154, hw⟩ := hw
        exact B154 j154 x3 x4 x5 (0 : Int32) z0 _ _ _ hw hP hD hS (lv_sub hl [1, 4, 5, 6, 0] rfl)
      · have hw := And.right hw hc
        refine lv_aload_n hx hb dX6_copy_124 rfl (lv_at hl 0 rfl) ?_
        refine rg_M_X6_0_35 hC hK hP dX6_copy_125 ?_
        refine lv_iload hx hb dX6_copy_128 (lv_at hl 6 rfl) ?_
        refine lv_aload_n hx hb dX6_copy_130 rfl (lv_at hl 0 rfl) ?_
        refine rg_M_X6_0_34 hC hK hP dX6_copy_131 ?_
        refine lv_bipush (v := (24 : Int32)) hx hb dX6_copy_134 (by decide) ?_
        refine lv_iload_n hx hb dX6_copy_136 rfl (lv_at hl 1 rfl) ?_
        refine lv_imul hx hb dX6_copy_137 ?_
        refine lv_iload_n hx hb dX6_copy_138 rfl (lv_at hl 2 rfl) ?_
        refine lv_iadd hx hb dX6_copy_139 ?_
        refine lv_iload hx hb dX6_copy_140 (lv_at hl 6 rfl) ?_
        refine lv_iadd hx hb dX6_copy_142 ?_
        refine rl_M_15 hC hK hP (And.left hw) dX6_copy_143 ?_
        have hw := And.right hw
        refine rs_M_16 hC hK hP hD hS (And.left hw) dX6_copy_144 (fun z1 H locs hz1 hP hD hS => ?_)
        have hw := And.right hw z1 hz1
        refine lv_iinc (v := (x6 + (1 : Int32))) (lv' := [(6, .int (x6 + (1 : Int32))), (0, .ref (h 0)), (1, .int x1), (2, .int x2), (3, .int x3), (4, .int x4), (5, .int x5)]) hx hb dX6_copy_145 hl (k := 6) rfl rfl (by decide) rfl (fun ls hl => ?_)
        refine lv_goto (tgt := 117) hx hb dX6_copy_148 (by decide) ?_
        exact I117 x1 x2 x3 x4 x5 (x6 + (1 : Int32)) z1 _ _ _ hw hP hD hS (lv_sub hl [1, 2, 3, 4, 5, 6, 0] rfl)
  unfold wpX6_copy at hw
  refine lv_iload_n hx hb dX6_copy_0 rfl (lv_at hl 1 rfl) ?_
  refine lv_i2l (v := (x1.toInt64)) hx hb dX6_copy_1 rfl ?_
  refine lv_lconst (v := (0 : Int64)) hx hb dX6_copy_2 (by decide) ?_
  refine lv_ldc2 (v := (3 : Int64)) hx hb hC.2.2.2.1 (hC.2.2.2.2 _ bw_699) dX6_copy_3 ?_
  refine vp_callSi (xro (xr_S hC (cX6_in_c hw) ⟨rfl, rfl⟩ bw_700 calX6_in ⟨Nat.le_trans (Nat.le_of_ble_eq_true rfl) hF, Nat.le_trans (Nat.le_of_ble_eq_true rfl) hL⟩ (rest := []) (xpS hK) rfl hl rfl (Nat.le_of_ble_eq_true rfl) dX6_copy_6 ⟨Nat.zero_le _, Nat.zero_le _⟩)) (fun r1 hw => ?_)
  refine lv_if_eq (tgt := 24) hx hb dX6_copy_9 (by decide) (fun hc => ?_) (fun hc => ?_)
  · have hw := And.left hw hc
    refine lv_iconst (v := (-1 : Int32)) hx hb dX6_copy_24 (by decide) ?_
    exact hret _ _ _ _ _ _ hw hP hD hS dX6_copy_25
  · have hw := And.right hw hc
    refine lv_iload_n hx hb dX6_copy_12 rfl (lv_at hl 3 rfl) ?_
    refine lv_i2l (v := (x3.toInt64)) hx hb dX6_copy_13 rfl ?_
    refine lv_lconst (v := (0 : Int64)) hx hb dX6_copy_14 (by decide) ?_
    refine lv_ldc2 (v := (3 : Int64)) hx hb hC.2.2.2.1 (hC.2.2.2.2 _ bw_699) dX6_copy_15 ?_
    refine vp_callSi (xro (xr_S hC (cX6_in_c hw) ⟨rfl, rfl⟩ bw_700 calX6_in ⟨Nat.le_trans (Nat.le_of_ble_eq_true rfl) hF, Nat.le_trans (Nat.le_of_ble_eq_true rfl) hL⟩ (rest := []) (xpS hK) rfl hl rfl (Nat.le_of_ble_eq_true rfl) dX6_copy_18 ⟨Nat.zero_le _, Nat.zero_le _⟩)) (fun r2 hw => ?_)
    refine lv_if_ne (tgt := 26) hx hb dX6_copy_21 (by decide) (fun hc => ?_) (fun hc => ?_)
    · have hw := And.left hw hc
      refine lv_aload_n hx hb dX6_copy_26 rfl (lv_at hl 0 rfl) ?_
      refine rg_M_X6_0_32 hC hK hP dX6_copy_27 ?_
      refine lv_iload_n hx hb dX6_copy_30 rfl (lv_at hl 1 rfl) ?_
      refine rl_M_13 hC hK hP (And.left hw) dX6_copy_31 ?_
      have hw := And.right hw
      refine lv_if_lt (tgt := 44) hx hb dX6_copy_32 (by decide) (fun hc => ?_) (fun hc => ?_)
      · have hw := And.left hw hc
        refine lv_bipush (v := (-11 : Int32)) hx hb dX6_copy_44 (by decide) ?_
        exact hret _ _ _ _ _ _ hw hP hD hS dX6_copy_46
      · have hw := And.right hw hc
        refine lv_aload_n hx hb dX6_copy_35 rfl (lv_at hl 0 rfl) ?_
        refine rg_M_X6_0_32 hC hK hP dX6_copy_36 ?_
        refine lv_iload_n hx hb dX6_copy_39 rfl (lv_at hl 3 rfl) ?_
        refine rl_M_13 hC hK hP (And.left hw) dX6_copy_40 ?_
        have hw := And.right hw
        refine lv_if_ge (tgt := 47) hx hb dX6_copy_41 (by decide) (fun hc => ?_) (fun hc => ?_)
        · have hw := And.left hw hc
          refine lv_aload_n hx hb dX6_copy_47 rfl (lv_at hl 0 rfl) ?_
          refine rg_M_X6_0_32 hC hK hP dX6_copy_48 ?_
          refine lv_iload_n hx hb dX6_copy_51 rfl (lv_at hl 1 rfl) ?_
          refine rl_M_13 hC hK hP (And.left hw) dX6_copy_52 ?_
          have hw := And.right hw
          refine lv_aload_n hx hb dX6_copy_53 rfl (lv_at hl 0 rfl) ?_
          refine rg_M_X6_0_32 hC hK hP dX6_copy_54 ?_
          refine lv_iload_n hx hb dX6_copy_57 rfl (lv_at hl 3 rfl) ?_
          refine rl_M_13 hC hK hP (And.left hw) dX6_copy_58 ?_
          have hw := And.right hw
          refine lv_icmp_eq (tgt := 65) hx hb dX6_copy_59 (by decide) (fun hc => ?_) (fun hc => ?_)
          · have hw := And.left hw hc
            refine lv_iload hx hb dX6_copy_65 (lv_at hl 5 rfl) ?_
            refine lv_if_lt (tgt := 111) hx hb dX6_copy_67 (by decide) (fun hc => ?_) (fun hc => ?_)
            · have hw := And.left hw hc
              refine lv_bipush (v := (-13 : Int32)) hx hb dX6_copy_111 (by decide) ?_
              exact hret _ _ _ _ _ _ hw hP hD hS dX6_copy_113
            · have hw := And.right hw hc
              refine lv_iload_n hx hb dX6_copy_70 rfl (lv_at hl 2 rfl) ?_
              refine lv_i2l (v := (x2.toInt64)) hx hb dX6_copy_71 rfl ?_
              refine lv_lconst (v := (0 : Int64)) hx hb dX6_copy_72 (by decide) ?_
              refine lv_aload_n hx hb dX6_copy_73 rfl (lv_at hl 0 rfl) ?_
              refine rg_M_X6_0_33 hC hK hP dX6_copy_74 ?_
              refine lv_iload_n hx hb dX6_copy_77 rfl (lv_at hl 1 rfl) ?_
              refine rl_M_14 hC hK hP (And.left hw) dX6_copy_78 ?_
              have hw := And.right hw
              refine lv_i2l (v := (((w_a z0 33) x1.toNatClampNeg).toInt64)) hx hb dX6_copy_79 rfl ?_
              refine lv_iload hx hb dX6_copy_80 (lv_at hl 5 rfl) ?_
              refine lv_i2l (v := (x5.toInt64)) hx hb dX6_copy_82 rfl ?_
              refine lv_lsub hx hb dX6_copy_83 ?_
              refine vp_callSi (xro (xr_S hC (cX6_in_c hw) ⟨rfl, rfl⟩ bw_700 calX6_in ⟨Nat.le_trans (Nat.le_of_ble_eq_true rfl) hF, Nat.le_trans (Nat.le_of_ble_eq_true rfl) hL⟩ (rest := []) (xpS hK) rfl hl rfl (Nat.le_of_ble_eq_true rfl) dX6_copy_84 ⟨Nat.zero_le _, Nat.zero_le _⟩)) (fun r3 hw => ?_)
              refine lv_if_eq (tgt := 111) hx hb dX6_copy_87 (by decide) (fun hc => ?_) (fun hc => ?_)
              · have hw := And.left hw hc
                refine lv_bipush (v := (-13 : Int32)) hx hb dX6_copy_111 (by decide) ?_
                exact hret _ _ _ _ _ _ hw hP hD hS dX6_copy_113
              · have hw := And.right hw hc
                refine lv_iload hx hb dX6_copy_90 (lv_at hl 4 rfl) ?_
                refine lv_i2l (v := (x4.toInt64)) hx hb dX6_copy_92 rfl ?_
                refine lv_lconst (v := (0 : Int64)) hx hb dX6_copy_93 (by decide) ?_
                refine lv_aload_n hx hb dX6_copy_94 rfl (lv_at hl 0 rfl) ?_
                refine rg_M_X6_0_33 hC hK hP dX6_copy_95 ?_
                refine lv_iload_n hx hb dX6_copy_98 rfl (lv_at hl 3 rfl) ?_
                refine rl_M_14 hC hK hP (And.left hw) dX6_copy_99 ?_
                have hw := And.right hw
                refine lv_i2l (v := (((w_a z0 33) x3.toNatClampNeg).toInt64)) hx hb dX6_copy_100 rfl ?_
                refine lv_iload hx hb dX6_copy_101 (lv_at hl 5 rfl) ?_
                refine lv_i2l (v := (x5.toInt64)) hx hb dX6_copy_103 rfl ?_
                refine lv_lsub hx hb dX6_copy_104 ?_
                refine vp_callSi (xro (xr_S hC (cX6_in_c hw) ⟨rfl, rfl⟩ bw_700 calX6_in ⟨Nat.le_trans (Nat.le_of_ble_eq_true rfl) hF, Nat.le_trans (Nat.le_of_ble_eq_true rfl) hL⟩ (rest := []) (xpS hK) rfl hl rfl (Nat.le_of_ble_eq_true rfl) dX6_copy_105 ⟨Nat.zero_le _, Nat.zero_le _⟩)) (fun r4 hw => ?_)
                refine lv_if_ne (tgt := 114) hx hb dX6_copy_108 (by decide) (fun hc => ?_) (fun hc => ?_)
                · have hw := And.left hw hc
                  refine lv_iconst (v := (0 : Int32)) hx hb dX6_copy_114 (by decide) ?_
                  refine lv_istore (lv' := [(6, .int (0 : Int32)), (0, .ref (h 0)), (1, .int x1), (2, .int x2), (3, .int x3), (4, .int x4), (5, .int x5)]) hx hb dX6_copy_115 hl (by decide) rfl (fun ls hl => ?_)
                  obtain ⟨j117, hw⟩ := hw
                  exact B117 j117 x1 x2 x3 x4 x5 (0 : Int32) z0 _ _ _ hw hP hD hS (lv_sub hl [1, 2, 3, 4, 5, 6, 0] rfl)
                · have hw := And.right hw hc
                  refine lv_bipush (v := (-13 : Int32)) hx hb dX6_copy_111 (by decide) ?_
                  exact hret _ _ _ _ _ _ hw hP hD hS dX6_copy_113
          · have hw := And.right hw hc
            refine lv_bipush (v := (-12 : Int32)) hx hb dX6_copy_62 (by decide) ?_
            exact hret _ _ _ _ _ _ hw hP hD hS dX6_copy_64
        · have hw := And.right hw hc
          refine lv_bipush (v := (-11 : Int32)) hx hb dX6_copy_44 (by decide) ?_
          exact hret _ _ _ _ _ _ hw hP hD hS dX6_copy_46
    · have hw := And.right hw hc
      refine lv_iconst (v := (-1 : Int32)) hx hb dX6_copy_24 (by decide) ?_
      exact hret _ _ _ _ _ _ hw hP hD hS dX6_copy_25
