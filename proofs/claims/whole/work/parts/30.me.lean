def wpX6_stranger_77 (k36 : Int32 → Int32 → Int32 → Int32 → Int32 → Prop) (z0 : wSt) (post : Int32 → Prop) (x1 : Int32) (x2 : Int32) (x3 : Int32) (x5 : Int32) (t0 : Int32) (t1 : Int32) : Prop := (k36 x1 x2 x3 (t1 ||| t0) (x5 + (1 : Int32)))
def wpX6_stranger_36 (k36 : Int32 → Int32 → Int32 → Int32 → Int32 → Prop) (z0 : wSt) (post : Int32 → Prop) (x1 : Int32) (x2 : Int32) (x3 : Int32) (x4 : Int32) (x5 : Int32) : Prop := (((4 : Int32) ≤ x5 → (post x4)) ∧ (¬ (4 : Int32) ≤ x5 → (vp_in x2 6 ∧ (wpX6_most9 (x1 + x5) (fun r1 => (wpX6_wane r1 (fun r2 => (wpX6_pailsOf ((w_a z0 0) x2.toNatClampNeg) r2 (fun r3 => ((¬ r3 = x3 → (wpX6_stranger_77 k36 z0 post x1 x2 x3 x5 (0 : Int32) x4)) ∧ (r3 = x3 → (wpX6_stranger_77 k36 z0 post x1 x2 x3 x5 ((1 : Int32) <<< ((x5 + (3 : Int32)) &&& 31)) x4))))))))))))
def wpX6_stranger_L36  (z0 : wSt) (post : Int32 → Prop) : Nat → Int32 → Int32 → Int32 → Int32 → Int32 → Prop
  | 0 => fun _ _ _ _ _ => False
  | n + 1 => fun x1 x2 x3 x4 x5 => wpX6_stranger_36  (wpX6_stranger_L36  z0 post n) z0 post x1 x2 x3 x4 x5
def wpX6_stranger (x1 : Int32) (x2 : Int32) (x3 : Int32) (z0 : wSt) (post : Int32 → Prop) : Prop := (wpX6_isMood x1 (fun r1 => ((r1 = 0 → (post (-1 : Int32))) ∧ (¬ r1 = 0 → (wpX6_isOne x2 z0 (fun r2 => ((r2 = 0 → (post (-1 : Int32))) ∧ (¬ r2 = 0 → (wpX6_in (x3.toInt64) (0 : Int64) (9 : Int64) (fun r3 => ((¬ r3 = 0 → (∃ n, wpX6_stranger_L36  z0 post n x1 x2 x3 (0 : Int32) (-3 : Int32))) ∧ (r3 = 0 → (post (-1 : Int32))))))))))))))
set_option maxHeartbeats 4000000 in
set_option maxRecDepth 100000 in
theorem cX6_stranger_c {l : Launch} {G : wG} {h : Nat → Nat} {x1 : Int32} {x2 : Int32} {x3 : Int32} {post : Int32 → Prop} {z0 : wSt}  (hw : wpX6_stranger x1 x2 x3 z0 post) : Met l yX6_stranger (.code yX6_stranger cX6_stranger 6 (some .int) :: BIG) { frames := 2, cells := 0, slots := 0, locals := 46 } (xPr G [.ref (h 0), .int x1, .int x2, .int x3] (wsM G h z0)) (vp_Si post) 0 0 (fun _ => False) := by
  refine xm_ri (by decide) (Nat.le_of_ble_eq_true rfl) (fun p e s m args below meth c ls R Q hC hK hP hl hF hL hret => ?_)
  have hx := hC.1
  have hb := hC.2.1
  have hl : lv_has ls 6 [(0, .ref (h 0)), (1, .int x1), (2, .int x2), (3, .int x3)] := hl
  have B36 : ∀ n36 : Nat, ∀ (x1 : Int32) (x2 : Int32) (x3 : Int32) (x4 : Int32) (x5 : Int32) (ls : Array Slot), wpX6_stranger_L36  z0 post n36 x1 x2 x3 x4 x5 → lv_has ls 6 [(0, .ref (h 0)), (1, .int x1), (2, .int x2), (3, .int x3), (4, .int x4), (5, .int x5)] → W p l e R s m args below meth c s.heap [] 0 0 Q (F0 m 36 ls []) := by
    intro n36
    induction n36 with
    | zero => intro x1 x2 x3 x4 x5 ls hw hl; exact False.elim hw
    | succ n36 I36 =>
      have B77 : ∀ (x1 : Int32) (x2 : Int32) (x3 : Int32) (x5 : Int32) (t0 : Int32) (t1 : Int32) (ls : Array Slot), wpX6_stranger_77 (wpX6_stranger_L36  z0 post n36) z0 post x1 x2 x3 x5 t0 t1 → lv_has ls 6 [(0, .ref (h 0)), (1, .int x1), (2, .int x2), (3, .int x3), (5, .int x5)] → W p l e R s m args below meth c s.heap [] 0 0 Q (F0 m 77 ls [.int t0, .int t1]) := by
        intro x1 x2 x3 x5 t0 t1 ls hw hl
        unfold wpX6_stranger_77 at hw
        refine lv_ior hx hb dX6_stranger_77 ?_
        refine lv_istore (lv' := [(4, .int (t1 ||| t0)), (0, .ref (h 0)), (1, .int x1), (2, .int x2), (3, .int x3), (5, .int x5)]) hx hb dX6_stranger_78 hl (by decide) rfl (fun ls hl => ?_)
        refine lv_iinc (v := (x5 + (1 : Int32))) (lv' := [(5, .int (x5 + (1 : Int32))), (4, .int (t1 ||| t0)), (0, .ref (h 0)), (1, .int x1), (2, .int x2), (3, .int x3)]) hx hb dX6_stranger_80 hl (k := 5) rfl rfl (by decide) rfl (fun ls hl => ?_)
        refine lv_goto (tgt := 36) hx hb dX6_stranger_83 (by decide) ?_
        exact I36 x1 x2 x3 (t1 ||| t0) (x5 + (1 : Int32)) _ hw (lv_sub hl [2, 3, 4, 5, 1, 0] rfl)
      intro x1 x2 x3 x4 x5 ls hw hl
      have hw : wpX6_stranger_36  (wpX6_stranger_L36  z0 post n36) z0 post x1 x2 x3 x4 x5 := hw
      unfold wpX6_stranger_36 at hw
      refine lv_iload hx hb dX6_stranger_36 (lv_at hl 5 rfl) ?_
      refine lv_iconst (v := (4 : Int32)) hx hb dX6_stranger_38 (by decide) ?_
      refine lv_icmp_ge (tgt := 86) hx hb dX6_stranger_39 (by decide) (fun hc => ?_) (fun hc => ?_)
      · have hw := And.left hw hc
        refine lv_iload hx hb dX6_stranger_86 (lv_at hl 4 rfl) ?_
        exact hret _ _ _ hw dX6_stranger_88
      · have hw := And.right hw hc
        refine lv_iload hx hb dX6_stranger_42 (lv_at hl 4 rfl) ?_
        refine lv_aload_n hx hb dX6_stranger_44 rfl (lv_at hl 0 rfl) ?_
        refine rg_M_X6_0_0 hC hK hP dX6_stranger_45 ?_
        refine lv_iload_n hx hb dX6_stranger_48 rfl (lv_at hl 2 rfl) ?_
        refine rl_M_1 hC hK hP (And.left hw) dX6_stranger_49 ?_
        have hw := And.right hw
        refine lv_iload_n hx hb dX6_stranger_50 rfl (lv_at hl 1 rfl) ?_
        refine lv_iload hx hb dX6_stranger_51 (lv_at hl 5 rfl) ?_
        refine lv_iadd hx hb dX6_stranger_53 ?_
        refine vp_callSi (xro (xr_S hC (cX6_most9_c hw) ⟨rfl, rfl⟩ bw_810 calX6_most9 ⟨Nat.le_trans (Nat.le_of_ble_eq_true rfl) hF, Nat.le_trans (Nat.le_of_ble_eq_true rfl) hL⟩ (rest := [.int ((w_a z0 0) x2.toNatClampNeg), .int x4]) (xpS hK) rfl hl rfl (Nat.le_of_ble_eq_true rfl) dX6_stranger_54 ⟨Nat.zero_le _, Nat.zero_le _⟩)) (fun r1 hw => ?_)
        refine vp_callSi (xro (xr_S hC (cX6_wane_c hw) ⟨rfl, rfl⟩ bw_813 calX6_wane ⟨Nat.le_trans (Nat.le_of_ble_eq_true rfl) hF, Nat.le_trans (Nat.le_of_ble_eq_true rfl) hL⟩ (rest := [.int ((w_a z0 0) x2.toNatClampNeg), .int x4]) (xpS hK) rfl hl rfl (Nat.le_of_ble_eq_true rfl) dX6_stranger_57 ⟨Nat.zero_le _, Nat.zero_le _⟩)) (fun r2 hw => ?_)
        refine vp_callSi (xro (xr_S hC (cX6_pailsOf_c hw) ⟨rfl, rfl⟩ bw_800 calX6_pailsOf ⟨Nat.le_trans (Nat.le_of_ble_eq_true rfl) hF, Nat.le_trans (Nat.le_of_ble_eq_true rfl) hL⟩ (rest := [.int x4]) (xpS hK) rfl hl rfl (Nat.le_of_ble_eq_true rfl) dX6_stranger_60 ⟨Nat.zero_le _, Nat.zero_le _⟩)) (fun r3 hw => ?_)
        refine lv_iload_n hx hb dX6_stranger_63 rfl (lv_at hl 3 rfl) ?_
        refine lv_icmp_ne (tgt := 76) hx hb dX6_stranger_64 (by decide) (fun hc => ?_) (fun hc => ?_)
        · have hw := And.left hw hc
          refine lv_iconst (v := (0 : Int32)) hx hb dX6_stranger_76 (by decide) ?_
          exact B77 x1 x2 x3 x5 (0 : Int32) x4 _ hw (lv_sub hl [0, 1, 2, 3, 5] rfl)
        · have hw := And.right hw hc
          refine lv_iconst (v := (1 : Int32)) hx hb dX6_stranger_67 (by decide) ?_
          refine lv_iload hx hb dX6_stranger_68 (lv_at hl 5 rfl) ?_
          refine lv_iconst (v := (3 : Int32)) hx hb dX6_stranger_70 (by decide) ?_
          refine lv_iadd hx hb dX6_stranger_71 ?_
          refine lv_ishl hx hb dX6_stranger_72 ?_
          refine lv_goto (tgt := 77) hx hb dX6_stranger_73 (by decide) ?_
          exact B77 x1 x2 x3 x5 ((1 : Int32) <<< ((x5 + (3 : Int32)) &&& 31)) x4 _ hw (lv_sub hl [0, 1, 2, 3, 5] rfl)
  unfold wpX6_stranger at hw
  refine lv_iload_n hx hb dX6_stranger_0 rfl (lv_at hl 1 rfl) ?_
  refine vp_callSi (xro (xr_S hC (cX6_isMood_c hw) ⟨rfl, rfl⟩ bw_732 calX6_isMood ⟨Nat.le_trans (Nat.le_of_ble_eq_true rfl) hF, Nat.le_trans (Nat.le_of_ble_eq_true rfl) hL⟩ (rest := []) (xpS hK) rfl hl rfl (Nat.le_of_ble_eq_true rfl) dX6_stranger_1 ⟨Nat.zero_le _, Nat.zero_le _⟩)) (fun r1 hw => ?_)
  refine lv_if_eq (tgt := 27) hx hb dX6_stranger_4 (by decide) (fun hc => ?_) (fun hc => ?_)
  · have hw := And.left hw hc
    refine lv_iconst (v := (-1 : Int32)) hx hb dX6_stranger_27 (by decide) ?_
    exact hret _ _ _ hw dX6_stranger_28
  · have hw := And.right hw hc
    refine lv_aload_n hx hb dX6_stranger_7 rfl (lv_at hl 0 rfl) ?_
    refine lv_iload_n hx hb dX6_stranger_8 rfl (lv_at hl 2 rfl) ?_
    refine vp_callSi (xro (xr_V hC (cX6_isOne_c (h := h) hw) ⟨rfl, rfl⟩ bw_713 calX6_isOne ⟨Nat.le_trans (Nat.le_of_ble_eq_true rfl) hF, Nat.le_trans (Nat.le_of_ble_eq_true rfl) hL⟩ (rest := []) (xpR hK hP rfl rfl) rfl hl rfl (Nat.le_of_ble_eq_true rfl) dX6_stranger_9 ⟨Nat.zero_le _, Nat.zero_le _⟩)) (fun r2 hw => ?_)
    refine lv_if_eq (tgt := 27) hx hb dX6_stranger_12 (by decide) (fun hc => ?_) (fun hc => ?_)
    · have hw := And.left hw hc
      refine lv_iconst (v := (-1 : Int32)) hx hb dX6_stranger_27 (by decide) ?_
      exact hret _ _ _ hw dX6_stranger_28
    · have hw := And.right hw hc
      refine lv_iload_n hx hb dX6_stranger_15 rfl (lv_at hl 3 rfl) ?_
      refine lv_i2l (v := (x3.toInt64)) hx hb dX6_stranger_16 rfl ?_
      refine lv_lconst (v := (0 : Int64)) hx hb dX6_stranger_17 (by decide) ?_
      refine lv_ldc2 (v := (9 : Int64)) hx hb hC.2.2.2.1 (hC.2.2.2.2 _ bw_704) dX6_stranger_18 ?_
      refine vp_callSi (xro (xr_S hC (cX6_in_c hw) ⟨rfl, rfl⟩ bw_700 calX6_in ⟨Nat.le_trans (Nat.le_of_ble_eq_true rfl) hF, Nat.le_trans (Nat.le_of_ble_eq_true rfl) hL⟩ (rest := []) (xpS hK) rfl hl rfl (Nat.le_of_ble_eq_true rfl) dX6_stranger_21 ⟨Nat.zero_le _, Nat.zero_le _⟩)) (fun r3 hw => ?_)
      refine lv_if_ne (tgt := 29) hx hb dX6_stranger_24 (by decide) (fun hc => ?_) (fun hc => ?_)
      · have hw := And.left hw hc
        refine lv_iconst (v := (0 : Int32)) hx hb dX6_stranger_29 (by decide) ?_
        refine lv_istore (lv' := [(4, .int (0 : Int32)), (0, .ref (h 0)), (1, .int x1), (2, .int x2), (3, .int x3)]) hx hb dX6_stranger_30 hl (by decide) rfl (fun ls hl => ?_)
        refine lv_bipush (v := (-3 : Int32)) hx hb dX6_stranger_32 (by decide) ?_
        refine lv_istore (lv' := [(5, .int (-3 : Int32)), (4, .int (0 : Int32)), (0, .ref (h 0)), (1, .int x1), (2, .int x2), (3, .int x3)]) hx hb dX6_stranger_34 hl (by decide) rfl (fun ls hl => ?_)
        obtain ⟨j36, hw⟩ := hw
        exact B36 j36 x1 x2 x3 (0 : Int32) (-3 : Int32) _ hw (lv_sub hl [2, 3, 4, 5, 1, 0] rfl)
      · have hw := And.right hw hc
        refine lv_iconst (v := (-1 : Int32)) hx hb dX6_stranger_27 (by decide) ?_
        exact hret _ _ _ hw dX6_stranger_28
def wpX6_liar_106  (z0 : wSt) (post : Int32 → Prop) (t0 : Int32) (t1 : Int32) : Prop := (post (t1 + t0))
def wpX6_liar_84  (z0 : wSt) (post : Int32 → Prop) (x4 : Int32) (x5 : Int32) (x6 : Int32) (t0 : Int32) : Prop := (vp_in x4 6 ∧ (wpX6_pailsOf ((w_a z0 0) x4.toNatClampNeg) x5 (fun r1 => ((¬ r1 = x6 → (wpX6_liar_106  z0 post (2 : Int32) t0)) ∧ (r1 = x6 → (wpX6_liar_106  z0 post (0 : Int32) t0))))))
def wpX6_liar (x1 : Int32) (x2 : Int32) (x3 : Int32) (x4 : Int32) (x5 : Int32) (x6 : Int32) (z0 : wSt) (post : Int32 → Prop) : Prop := (wpX6_isOne x1 z0 (fun r1 => ((r1 = 0 → (post (-1 : Int32))) ∧ (¬ r1 = 0 → (wpX6_isMood x2 (fun r2 => ((r2 = 0 → (post (-1 : Int32))) ∧ (¬ r2 = 0 → (wpX6_in (x3.toInt64) (0 : Int64) (9 : Int64) (fun r3 => ((r3 = 0 → (post (-1 : Int32))) ∧ (¬ r3 = 0 → (wpX6_isOne x4 z0 (fun r4 => ((r4 = 0 → (post (-1 : Int32))) ∧ (¬ r4 = 0 → (wpX6_isMood x5 (fun r5 => ((r5 = 0 → (post (-1 : Int32))) ∧ (¬ r5 = 0 → (wpX6_in (x6.toInt64) (0 : Int64) (9 : Int64) (fun r6 => ((r6 = 0 → (post (-1 : Int32))) ∧ (¬ r6 = 0 → ((¬ x1 = x4 → (vp_in x1 6 ∧ (wpX6_pailsOf ((w_a z0 0) x1.toNatClampNeg) x2 (fun r7 => ((¬ r7 = x3 → (wpX6_liar_84  z0 post x4 x5 x6 (1 : Int32))) ∧ (r7 = x3 → (wpX6_liar_84  z0 post x4 x5 x6 (0 : Int32)))))))) ∧ (x1 = x4 → (post (-1 : Int32))))))))))))))))))))))))))))
set_option maxHeartbeats 4000000 in
set_option maxRecDepth 100000 in
theorem cX6_liar_c {l : Launch} {G : wG} {h : Nat → Nat} {x1 : Int32} {x2 : Int32} {x3 : Int32} {x4 : Int32} {x5 : Int32} {x6 : Int32} {post : Int32 → Prop} {z0 : wSt}  (hw : wpX6_liar x1 x2 x3 x4 x5 x6 z0 post) : Met l yX6_liar (.code yX6_liar cX6_liar 7 (some .int) :: BIG) { frames := 2, cells := 0, slots := 0, locals := 46 } (xPr G [.ref (h 0), .int x1, .int x2, .int x3, .int x4, .int x5, .int x6] (wsM G h z0)) (vp_Si post) 0 0 (fun _ => False) := by
  refine xm_ri (by decide) (Nat.le_of_ble_eq_true rfl) (fun p e s m args below meth c ls R Q hC hK hP hl hF hL hret => ?_)
  have hx := hC.1
  have hb := hC.2.1
  have hl : lv_has ls 7 [(0, .ref (h 0)), (1, .int x1), (2, .int x2), (3, .int x3), (4, .int x4), (5, .int x5), (6, .int x6)] := hl
  have B106 : ∀ (t0 : Int32) (t1 : Int32) (ls : Array Slot), wpX6_liar_106  z0 post t0 t1 → lv_has ls 7 [] → W p l e R s m args below meth c s.heap [] 0 0 Q (F0 m 106 ls [.int t0, .int t1]) := by
    intro t0 t1 ls hw hl
    unfold wpX6_liar_106 at hw
    refine lv_iadd hx hb dX6_liar_106 ?_
    exact hret _ _ _ hw dX6_liar_107
  have B84 : ∀ (x4 : Int32) (x5 : Int32) (x6 : Int32) (t0 : Int32) (ls : Array Slot), wpX6_liar_84  z0 post x4 x5 x6 t0 → lv_has ls 7 [(0, .ref (h 0)), (4, .int x4), (5, .int x5), (6, .int x6)] → W p l e R s m args below meth c s.heap [] 0 0 Q (F0 m 84 ls [.int t0]) := by
    intro x4 x5 x6 t0 ls hw hl
    unfold wpX6_liar_84 at hw
    refine lv_aload_n hx hb dX6_liar_84 rfl (lv_at hl 0 rfl) ?_
    refine rg_M_X6_0_0 hC hK hP dX6_liar_85 ?_
    refine lv_iload hx hb dX6_liar_88 (lv_at hl 1 rfl) ?_
    refine rl_M_1 hC hK hP (And.left hw) dX6_liar_90 ?_
    have hw := And.right hw
    refine lv_iload hx hb dX6_liar_91 (lv_at hl 2 rfl) ?_
    refine vp_callSi (xro (xr_S hC (cX6_pailsOf_c hw) ⟨rfl, rfl⟩ bw_800 calX6_pailsOf ⟨Nat.le_trans (Nat.le_of_ble_eq_true rfl) hF, Nat.le_trans (Nat.le_of_ble_eq_true rfl) hL⟩ (rest := [.int t0]) (xpS hK) rfl hl rfl (Nat.le_of_ble_eq_true rfl) dX6_liar_93 ⟨Nat.zero_le _, Nat.zero_le _⟩)) (fun r1 hw => ?_)
    refine lv_iload hx hb dX6_liar_96 (lv_at hl 3 rfl) ?_
    refine lv_icmp_ne (tgt := 105) hx hb dX6_liar_98 (by decide) (fun hc => ?_) (fun hc => ?_)
    · have hw := And.left hw hc
      refine lv_iconst (v := (2 : Int32)) hx hb dX6_liar_105 (by decide) ?_
      exact B106 (2 : Int32) t0 _ hw (lv_sub hl [] rfl)
    · have hw := And.right hw hc
      refine lv_iconst (v := (0 : Int32)) hx hb dX6_liar_101 (by decide) ?_
      refine lv_goto (tgt := 106) hx hb dX6_liar_102 (by decide) ?_
      exact B106 (0 : Int32) t0 _ hw (lv_sub hl [] rfl)
  unfold wpX6_liar at hw
  refine lv_aload_n hx hb dX6_liar_0 rfl (lv_at hl 0 rfl) ?_
  refine lv_iload_n hx hb dX6_liar_1 rfl (lv_at hl 1 rfl) ?_
  refine vp_callSi (xro (xr_V hC (cX6_isOne_c (h := h) hw) ⟨rfl, rfl⟩ bw_713 calX6_isOne ⟨Nat.le_trans (Nat.le_of_ble_eq_true rfl) hF, Nat.le_trans (Nat.le_of_ble_eq_true rfl) hL⟩ (rest := []) (xpR hK hP rfl rfl) rfl hl rfl (Nat.le_of_ble_eq_true rfl) dX6_liar_2 ⟨Nat.zero_le _, Nat.zero_le _⟩)) (fun r1 hw => ?_)
  refine lv_if_eq (tgt := 63) hx hb dX6_liar_5 (by decide) (fun hc => ?_) (fun hc => ?_)
  · have hw := And.left hw hc
    refine lv_iconst (v := (-1 : Int32)) hx hb dX6_liar_63 (by decide) ?_
    exact hret _ _ _ hw dX6_liar_64
  · have hw := And.right hw hc
    refine lv_iload_n hx hb dX6_liar_8 rfl (lv_at hl 2 rfl) ?_
    refine vp_callSi (xro (xr_S hC (cX6_isMood_c hw) ⟨rfl, rfl⟩ bw_732 calX6_isMood ⟨Nat.le_trans (Nat.le_of_ble_eq_true rfl) hF, Nat.le_trans (Nat.le_of_ble_eq_true rfl) hL⟩ (rest := []) (xpS hK) rfl hl rfl (Nat.le_of_ble_eq_true rfl) dX6_liar_9 ⟨Nat.zero_le _, Nat.zero_le _⟩)) (fun r2 hw => ?_)
    refine lv_if_eq (tgt := 63) hx hb dX6_liar_12 (by decide) (fun hc => ?_) (fun hc => ?_)
    · have hw := And.left hw hc
      refine lv_iconst (v := (-1 : Int32)) hx hb dX6_liar_63 (by decide) ?_
      exact hret _ _ _ hw dX6_liar_64
    · have hw := And.right hw hc
      refine lv_iload_n hx hb dX6_liar_15 rfl (lv_at hl 3 rfl) ?_
      refine lv_i2l (v := (x3.toInt64)) hx hb dX6_liar_16 rfl ?_
      refine lv_lconst (v := (0 : Int64)) hx hb dX6_liar_17 (by decide) ?_
      refine lv_ldc2 (v := (9 : Int64)) hx hb hC.2.2.2.1 (hC.2.2.2.2 _ bw_704) dX6_liar_18 ?_
      refine vp_callSi (xro (xr_S hC (cX6_in_c hw) ⟨rfl, rfl⟩ bw_700 calX6_in ⟨Nat.le_trans (Nat.le_of_ble_eq_true rfl) hF, Nat.le_trans (Nat.le_of_ble_eq_true rfl) hL⟩ (rest := []) (xpS hK) rfl hl rfl (Nat.le_of_ble_eq_true rfl) dX6_liar_21 ⟨Nat.zero_le _, Nat.zero_le _⟩)) (fun r3 hw => ?_)
      refine lv_if_eq (tgt := 63) hx hb dX6_liar_24 (by decide) (fun hc => ?_) (fun hc => ?_)
      · have hw := And.left hw hc
        refine lv_iconst (v := (-1 : Int32)) hx hb dX6_liar_63 (by decide) ?_
        exact hret _ _ _ hw dX6_liar_64
      · have hw := And.right hw hc
        refine lv_aload_n hx hb dX6_liar_27 rfl (lv_at hl 0 rfl) ?_
        refine lv_iload hx hb dX6_liar_28 (lv_at hl 4 rfl) ?_
        refine vp_callSi (xro (xr_V hC (cX6_isOne_c (h := h) hw) ⟨rfl, rfl⟩ bw_713 calX6_isOne ⟨Nat.le_trans (Nat.le_of_ble_eq_true rfl) hF, Nat.le_trans (Nat.le_of_ble_eq_true rfl) hL⟩ (rest := []) (xpR hK hP rfl rfl) rfl hl rfl (Nat.le_of_ble_eq_true rfl) dX6_liar_30 ⟨Nat.zero_le _, Nat.zero_le _⟩)) (fun r4 hw => ?_)
        refine lv_if_eq (tgt := 63) hx hb dX6_liar_33 (by decide) (fun hc => ?_) (fun hc => ?_)
        · have hw := And.left hw hc
          refine lv_iconst (v := (-1 : Int32)) hx hb dX6_liar_63 (by decide) ?_
          exact hret _ _ _ hw dX6_liar_64
        · have hw := And.right hw hc
          refine lv_iload hx hb dX6_liar_36 (lv_at hl 5 rfl) ?_
          refine vp_callSi (xro (xr_S hC (cX6_isMood_c hw) ⟨rfl, rfl⟩ bw_732 calX6_isMood ⟨Nat.le_trans (Nat.le_of_ble_eq_true rfl) hF, Nat.le_trans (Nat.le_of_ble_eq_true rfl) hL⟩ (rest := []) (xpS hK) rfl hl rfl (Nat.le_of_ble_eq_true rfl) dX6_liar_38 ⟨Nat.zero_le _, Nat.zero_le _⟩)) (fun r5 hw => ?_)
          refine lv_if_eq (tgt := 63) hx hb dX6_liar_41 (by decide) (fun hc => ?_) (fun hc => ?_)
          · have hw := And.left hw hc
            refine lv_iconst (v := (-1 : Int32)) hx hb dX6_liar_63 (by decide) ?_
            exact hret _ _ _ hw dX6_liar_64
          · have hw := And.right hw hc
            refine lv_iload hx hb dX6_liar_44 (lv_at hl 6 rfl) ?_
            refine lv_i2l (v := (x6.toInt64)) hx hb dX6_liar_46 rfl ?_
            refine lv_lconst (v := (0 : Int64)) hx hb dX6_liar_47 (by decide) ?_
            refine lv_ldc2 (v := (9 : Int64)) hx hb hC.2.2.2.1 (hC.2.2.2.2 _ bw_704) dX6_liar_48 ?_
            refine vp_callSi (xro (xr_S hC (cX6_in_c hw) ⟨rfl, rfl⟩ bw_700 calX6_in ⟨Nat.le_trans (Nat.le_of_ble_eq_true rfl) hF, Nat.le_trans (Nat.le_of_ble_eq_true rfl) hL⟩ (rest := []) (xpS hK) rfl hl rfl (Nat.le_of_ble_eq_true rfl) dX6_liar_51 ⟨Nat.zero_le _, Nat.zero_le _⟩)) (fun r6 hw => ?_)
            refine lv_if_eq (tgt := 63) hx hb dX6_liar_54 (by decide) (fun hc => ?_) (fun hc => ?_)
            · have hw := And.left hw hc
              refine lv_iconst (v := (-1 : Int32)) hx hb dX6_liar_63 (by decide) ?_
              exact hret _ _ _ hw dX6_liar_64
            · have hw := And.right hw hc
              refine lv_iload_n hx hb dX6_liar_57 rfl (lv_at hl 1 rfl) ?_
              refine lv_iload hx hb dX6_liar_58 (lv_at hl 4 rfl) ?_
              refine lv_icmp_ne (tgt := 65) hx hb dX6_liar_60 (by decide) (fun hc => ?_) (fun hc => ?_)
              · have hw := And.left hw hc
                refine lv_aload_n hx hb dX6_liar_65 rfl (lv_at hl 0 rfl) ?_
                refine rg_M_X6_0_0 hC hK hP dX6_liar_66 ?_
                refine lv_iload_n hx hb dX6_liar_69 rfl (lv_at hl 1 rfl) ?_
                refine rl_M_1 hC hK hP (And.left hw) dX6_liar_70 ?_
                have hw := And.right hw
                refine lv_iload_n hx hb dX6_liar_71 rfl (lv_at hl 2 rfl) ?_
                refine vp_callSi (xro (xr_S hC (cX6_pailsOf_c hw) ⟨rfl, rfl⟩ bw_800 calX6_pailsOf ⟨Nat.le_trans (Nat.le_of_ble_eq_true rfl) hF, Nat.le_trans (Nat.le_of_ble_eq_true rfl) hL⟩ (rest := []) (xpS hK) rfl hl rfl (Nat.le_of_ble_eq_true rfl) dX6_liar_72 ⟨Nat.zero_le _, Nat.zero_le _⟩)) (fun r7 hw => ?_)
                refine lv_iload_n hx hb dX6_liar_75 rfl (lv_at hl 3 rfl) ?_
                refine lv_icmp_ne (tgt := 83) hx hb dX6_liar_76 (by decide) (fun hc => ?_) (fun hc => ?_)
                · have hw := And.left hw hc
                  refine lv_iconst (v := (1 : Int32)) hx hb dX6_liar_83 (by decide) ?_
                  exact B84 x4 x5 x6 (1 : Int32) _ hw (lv_sub hl [0, 4, 5, 6] rfl)
                · have hw := And.right hw hc
                  refine lv_iconst (v := (0 : Int32)) hx hb dX6_liar_79 (by decide) ?_
                  refine lv_goto (tgt := 84) hx hb dX6_liar_80 (by decide) ?_
                  exact B84 x4 x5 x6 (0 : Int32) _ hw (lv_sub hl [0, 4, 5, 6] rfl)
              · have hw := And.right hw hc
                refine lv_iconst (v := (-1 : Int32)) hx hb dX6_liar_63 (by decide) ?_
                exact hret _ _ _ hw dX6_liar_64
def wpX6_drawn_108 (k33 : Int32 → Int32 → Int32 → (wSt) → Prop) (post : Int32 → (wSt) → Prop) (x1 : Int32) (x3 : Int32) (t0 : Int32) (t2 : Int32) (z0 : wSt) : Prop := (wpX6_goOn t0 z0 (fun r1 u => ∀ z1 : wSt, z1 = u → (k33 x1 (t2 + r1) (x3 + (1 : Int32)) z1)))
def wpX6_drawn_106 (k33 : Int32 → Int32 → Int32 → (wSt) → Prop) (post : Int32 → (wSt) → Prop) (x1 : Int32) (x3 : Int32) (t1 : Int32) (z0 : wSt) : Prop := (wpX6_drawn_108 k33 post x1 x3 (9 : Int32) t1 z0)
def wpX6_drawn_33 (k33 : Int32 → Int32 → Int32 → (wSt) → Prop) (post : Int32 → (wSt) → Prop) (x1 : Int32) (x2 : Int32) (x3 : Int32) (z0 : wSt) : Prop := ((x1 ≤ x3 → (post x2 z0)) ∧ (¬ x1 ≤ x3 → (∀ z1 : wSt, z1 = (w_si z0 15 ((((((w_i z0 15).toInt64) * (1103515245 : Int64)) + (12345 : Int64)) &&& (2147483647 : Int64)).toInt32)) → (¬ (65536 : Int32) = 0 ∧ (¬ ((w_i z1 5) + (1 : Int32)) = 0 ∧ (((w_i z1 5) ≤ (((w_i z1 15) / (65536 : Int32)) - ((w_i z1 15) / (65536 : Int32)) / ((w_i z1 5) + (1 : Int32)) * ((w_i z1 5) + (1 : Int32))) → (wpX6_drawn_106 k33 post x1 x3 x2 z1)) ∧ (¬ (w_i z1 5) ≤ (((w_i z1 15) / (65536 : Int32)) - ((w_i z1 15) / (65536 : Int32)) / ((w_i z1 5) + (1 : Int32)) * ((w_i z1 5) + (1 : Int32))) → (vp_in (((w_i z1 15) / (65536 : Int32)) - ((w_i z1 15) / (65536 : Int32)) / ((w_i z1 5) + (1 : Int32)) * ((w_i z1 5) + (1 : Int32))) 6 ∧ (((w_i z1 11) < ((w_a z1 4) (((w_i z1 15) / (65536 : Int32)) - ((w_i z1 15) / (65536 : Int32)) / ((w_i z1 5) + (1 : Int32)) * ((w_i z1 5) + (1 : Int32))).toNatClampNeg) → (wpX6_drawn_106 k33 post x1 x3 x2 z1)) ∧ (¬ (w_i z1 11) < ((w_a z1 4) (((w_i z1 15) / (65536 : Int32)) - ((w_i z1 15) / (65536 : Int32)) / ((w_i z1 5) + (1 : Int32)) * ((w_i z1 5) + (1 : Int32))).toNatClampNeg) → (wpX6_drawn_108 k33 post x1 x3 (((w_i z1 15) / (65536 : Int32)) - ((w_i z1 15) / (65536 : Int32)) / ((w_i z1 5) + (1 : Int32)) * ((w_i z1 5) + (1 : Int32))) x2 z1)))))))))))
def wpX6_drawn_L33  (post : Int32 → (wSt) → Prop) : Nat → Int32 → Int32 → Int32 → (wSt) → Prop
  | 0 => fun _ _ _ _ => False
  | n + 1 => fun x1 x2 x3 z0 => wpX6_drawn_33  (wpX6_drawn_L33  post n) post x1 x2 x3 z0
def wpX6_drawn (x1 : Int32) (z0 : wSt) (post : Int32 → (wSt) → Prop) : Prop := (wpX6_in (x1.toInt64) (1 : Int64) (60 : Int64) (fun r1 => ((¬ r1 = 0 → ((((w_i z0 11) + x1) ≤ (9999 : Int32) → (∃ n, wpX6_drawn_L33  post n x1 (0 : Int32) (0 : Int32) z0)) ∧ (¬ ((w_i z0 11) + x1) ≤ (9999 : Int32) → (post (-3 : Int32) z0)))) ∧ (r1 = 0 → (post (-1 : Int32) z0)))))
set_option maxHeartbeats 4000000 in
set_option maxRecDepth 100000 in
theorem cX6_drawn_c {l : Launch} {G : wG} {h : Nat → Nat} {sz : Nat} {x1 : Int32} {post : Int32 → (wSt) → Prop} {z0 : wSt}  (hw : wpX6_drawn x1 z0 post) : Met l yX6_drawn (.code yX6_drawn cX6_drawn 5 (some .int) :: BIG) { frames := 3, cells := 0, slots := 0, locals := 66 } (xPw G [.ref (h 0), .int x1] (wsM G h z0) sz) (xQi G post (fun q => (wsM G h q)) (va_A (wsM G h z0) sz)) 0 0 (va_A (wsM G h z0) sz) := by
  refine xm_wi (by decide) (Nat.le_of_ble_eq_true rfl) (fun p e s m args below meth c A ls R Q hC hK hA hP hD hS hl hF hL hret => ?_)
  have hx := hC.1
  have hb := hC.2.1
  have hl : lv_has ls 5 [(0, .ref (h 0)), (1, .int x1)] := hl
  have B33 : ∀ n33 : Nat, ∀ (x1 : Int32) (x2 : Int32) (x3 : Int32) (z0 : wSt) (H : Heap) (locs : List Loc) (ls : Array Slot), wpX6_drawn_L33  post n33 x1 x2 x3 z0 → va_P G.1 vwCl (wsM G h z0) H → va_D A (wsM G h z0) → va_S A s.heap H locs → lv_has ls 5 [(0, .ref (h 0)), (1, .int x1), (2, .int x2), (3, .int x3)] → W p l e R s m args below meth c H locs 0 0 Q (F0 m 33 ls []) := by
    intro n33
    induction n33 with
    | zero => intro x1 x2 x3 z0 H locs ls hw hP hD hS hl; exact False.elim hw
    | succ n33 I33 =>
      have B108 : ∀ (x1 : Int32) (x3 : Int32) (t0 : Int32) (t2 : Int32) (z0 : wSt) (H : Heap) (locs : List Loc) (ls : Array Slot), wpX6_drawn_108 (wpX6_drawn_L33  post n33) post x1 x3 t0 t2 z0 → va_P G.1 vwCl (wsM G h z0) H → va_D A (wsM G h z0) → va_S A s.heap H locs → lv_has ls 5 [(0, .ref (h 0)), (1, .int x1), (3, .int x3)] → W p l e R s m args below meth c H locs 0 0 Q (F0 m 108 ls [.int t0, .ref (h 0), .int t2]) := by
        intro x1 x3 t0 t2 z0 H locs ls hw hP hD hS hl
        unfold wpX6_drawn_108 at hw
        refine xc_wi (S := wSt) (wsz := fun q => (wsM G h q)) (f := fun u => u) (xr_V hC (cX6_goOn_c (h := h) hw) ⟨rfl, rfl⟩ bw_785 calX6_goOn ⟨Nat.le_trans (Nat.le_of_ble_eq_true rfl) hF, Nat.le_trans (Nat.le_of_ble_eq_true rfl) hL⟩ (rest := [.int t2]) (xpV hK (cut_all_M) hP hD rfl rfl) rfl hl rfl (Nat.le_of_ble_eq_true rfl) dX6_drawn_108 ⟨Nat.zero_le _, Nat.zero_le _⟩) (cut_all_M) hP hD hS hA (fun r1 u z1 H locs hz1 hw hP hD hS => ?_)
        have hw := hw z1 hz1
        refine lv_iadd hx hb dX6_drawn_111 ?_
        refine lv_istore_n (lv' := [(2, .int (t2 + r1)), (0, .ref (h 0)), (1, .int x1), (3, .int x3)]) hx hb dX6_drawn_112 rfl hl (by decide) rfl (fun ls hl => ?_)
        refine lv_iinc (v := (x3 + (1 : Int32))) (lv' := [(3, .int (x3 + (1 : Int32))), (2, .int (t2 + r1)), (0, .ref (h 0)), (1, .int x1)]) hx hb dX6_drawn_113 hl (k := 3) rfl rfl (by decide) rfl (fun ls hl => ?_)
        refine lv_goto (tgt := 33) hx hb dX6_drawn_116 (by decide) ?_
        exact I33 x1 (t2 + r1) (x3 + (1 : Int32)) z1 _ _ _ hw hP hD hS (lv_sub hl [2, 3, 1, 0] rfl)
      have B106 : ∀ (x1 : Int32) (x3 : Int32) (t1 : Int32) (z0 : wSt) (H : Heap) (locs : List Loc) (ls : Array Slot), wpX6_drawn_106 (wpX6_drawn_L33  post n33) post x1 x3 t1 z0 → va_P G.1 vwCl (wsM G h z0) H → va_D A (wsM G h z0) → va_S A s.heap H locs → lv_has ls 5 [(0, .ref (h 0)), (1, .int x1), (3, .int x3)] → W p l e R s m args below meth c H locs 0 0 Q (F0 m 106 ls [.ref (h 0), .int t1]) := by
        intro x1 x3 t1 z0 H locs ls hw hP hD hS hl
        unfold wpX6_drawn_106 at hw
        refine lv_bipush (v := (9 : Int32)) hx hb dX6_drawn_106 (by decide) ?_
        exact B108 x1 x3 (9 : Int32) t1 z0 _ _ _ hw hP hD hS (lv_sub hl [0, 1, 2] rfl)
      intro x1 x2 x3 z0 H locs ls hw hP hD hS hl
      have hw : wpX6_drawn_33  (wpX6_drawn_L33  post n33) post x1 x2 x3 z0 := hw
      unfold wpX6_drawn_33 at hw
      refine lv_iload_n hx hb dX6_drawn_33 rfl (lv_at hl 3 rfl) ?_
      refine lv_iload_n hx hb dX6_drawn_34 rfl (lv_at hl 1 rfl) ?_
      refine lv_icmp_ge (tgt := 119) hx hb dX6_drawn_35 (by decide) (fun hc => ?_) (fun hc => ?_)
      · have hw := And.left hw hc
        refine lv_iload_n hx hb dX6_drawn_119 rfl (lv_at hl 2 rfl) ?_
        exact hret _ _ _ _ _ _ hw hP hD hS dX6_drawn_120
      · have hw := And.right hw hc
        refine lv_aload_n hx hb dX6_drawn_38 rfl (lv_at hl 0 rfl) ?_
        refine lv_aload_n hx hb dX6_drawn_39 rfl (lv_at hl 0 rfl) ?_
        refine rg_M_X6_0_15 hC hK hP dX6_drawn_40 ?_
        refine lv_i2l (v := ((w_i z0 15).toInt64)) hx hb dX6_drawn_43 rfl ?_
        refine lv_ldc2 (v := (1103515245 : Int64)) hx hb hC.2.2.2.1 (hC.2.2.2.2 _ bw_879) dX6_drawn_44 ?_
        refine lv_lmul hx hb dX6_drawn_47 ?_
        refine lv_ldc2 (v := (12345 : Int64)) hx hb hC.2.2.2.1 (hC.2.2.2.2 _ bw_880) dX6_drawn_48 ?_
        refine lv_ladd hx hb dX6_drawn_51 ?_
        refine lv_ldc2 (v := (2147483647 : Int64)) hx hb hC.2.2.2.1 (hC.2.2.2.2 _ bw_881) dX6_drawn_52 ?_
        refine lv_land hx hb dX6_drawn_55 ?_
        refine lv_l2i (v := ((((((w_i z0 15).toInt64) * (1103515245 : Int64)) + (12345 : Int64)) &&& (2147483647 : Int64)).toInt32)) hx hb dX6_drawn_56 rfl ?_
        refine rp_M_X6_0_15 hC hK hP hD hS dX6_drawn_57 (fun z1 H locs hz1 hP hD hS => ?_)
        have hw := hw z1 hz1
        refine lv_aload_n hx hb dX6_drawn_60 rfl (lv_at hl 0 rfl) ?_
        refine rg_M_X6_0_15 hC hK hP dX6_drawn_61 ?_
        refine lv_ldc (v := (65536 : Int32)) hx hb hC.2.2.2.1 (hC.2.2.2.2 _ bw_882) dX6_drawn_64 ?_
        refine lv_idiv hx hb dX6_drawn_66 (And.left hw) ?_
        have hw := And.right hw
        refine lv_aload_n hx hb dX6_drawn_67 rfl (lv_at hl 0 rfl) ?_
        refine rg_M_X6_0_5 hC hK hP dX6_drawn_68 ?_
        refine lv_iconst (v := (1 : Int32)) hx hb dX6_drawn_71 (by decide) ?_
        refine lv_iadd hx hb dX6_drawn_72 ?_
        refine lv_irem hx hb dX6_drawn_73 (And.left hw) ?_
        have hw := And.right hw
        refine lv_istore (lv' := [(4, .int (((w_i z1 15) / (65536 : Int32)) - ((w_i z1 15) / (65536 : Int32)) / ((w_i z1 5) + (1 : Int32)) * ((w_i z1 5) + (1 : Int32)))), (0, .ref (h 0)), (1, .int x1), (2, .int x2), (3, .int x3)]) hx hb dX6_drawn_74 hl (by decide) rfl (fun ls hl => ?_)
        refine lv_iload_n hx hb dX6_drawn_76 rfl (lv_at hl 3 rfl) ?_
        refine lv_aload_n hx hb dX6_drawn_77 rfl (lv_at hl 1 rfl) ?_
        refine lv_iload hx hb dX6_drawn_78 (lv_at hl 0 rfl) ?_
        refine lv_aload_n hx hb dX6_drawn_80 rfl (lv_at hl 1 rfl) ?_
        refine rg_M_X6_0_5 hC hK hP dX6_drawn_81 ?_
        refine lv_icmp_ge (tgt := 106) hx hb dX6_drawn_84 (by decide) (fun hc => ?_) (fun hc => ?_)
        · have hw := And.left hw hc
          exact B106 x1 x3 x2 z1 _ _ _ hw hP hD hS (lv_sub hl [1, 2, 4] rfl)
        · have hw := And.right hw hc
          refine lv_aload_n hx hb dX6_drawn_87 rfl (lv_at hl 1 rfl) ?_
          refine rg_M_X6_0_4 hC hK hP dX6_drawn_88 ?_
          refine lv_iload hx hb dX6_drawn_91 (lv_at hl 0 rfl) ?_
          refine rl_M_5 hC hK hP (And.left hw) dX6_drawn_93 ?_
          have hw := And.right hw
          refine lv_aload_n hx hb dX6_drawn_94 rfl (lv_at hl 1 rfl) ?_
          refine rg_M_X6_0_11 hC hK hP dX6_drawn_95 ?_
          refine lv_icmp_gt (tgt := 106) hx hb dX6_drawn_98 (by decide) (fun hc => ?_) (fun hc => ?_)
          · have hw := And.left hw hc
            exact B106 x1 x3 x2 z1 _ _ _ hw hP hD hS (lv_sub hl [1, 2, 4] rfl)
          · have hw := And.right hw hc
            refine lv_iload hx hb dX6_drawn_101 (lv_at hl 0 rfl) ?_
            refine lv_goto (tgt := 108) hx hb dX6_drawn_103 (by decide) ?_
            exact B108 x1 x3 (((w_i z1 15) / (65536 : Int32)) - ((w_i z1 15) / (65536 : Int32)) / ((w_i z1 5) + (1 : Int32)) * ((w_i z1 5) + (1 : Int32))) x2 z1 _ _ _ hw hP hD hS (lv_sub hl [1, 2, 4] rfl)
  unfold wpX6_drawn at hw
  refine lv_iload_n hx hb dX6_drawn_0 rfl (lv_at hl 1 rfl) ?_
  refine lv_i2l (v := (x1.toInt64)) hx hb dX6_drawn_1 rfl ?_
  refine lv_lconst (v := (1 : Int64)) hx hb dX6_drawn_2 (by decide) ?_
  refine lv_ldc2 (v := (60 : Int64)) hx hb hC.2.2.2.1 (hC.2.2.2.2 _ bw_824) dX6_drawn_3 ?_
  refine vp_callSi (xro (xr_S hC (cX6_in_c hw) ⟨rfl, rfl⟩ bw_700 calX6_in ⟨Nat.le_trans (Nat.le_of_ble_eq_true rfl) hF, Nat.le_trans (Nat.le_of_ble_eq_true rfl) hL⟩ (rest := []) (xpS hK) rfl hl rfl (Nat.le_of_ble_eq_true rfl) dX6_drawn_6 ⟨Nat.zero_le _, Nat.zero_le _⟩)) (fun r1 hw => ?_)
  refine lv_if_ne (tgt := 14) hx hb dX6_drawn_9 (by decide) (fun hc => ?_) (fun hc => ?_)
  · have hw := And.left hw hc
    refine lv_aload_n hx hb dX6_drawn_14 rfl (lv_at hl 0 rfl) ?_
    refine rg_M_X6_0_11 hC hK hP dX6_drawn_15 ?_
    refine lv_iload_n hx hb dX6_drawn_18 rfl (lv_at hl 1 rfl) ?_
    refine lv_iadd hx hb dX6_drawn_19 ?_
    refine lv_sipush (v := (9999 : Int32)) hx hb dX6_drawn_20 (by decide) ?_
    refine lv_icmp_le (tgt := 29) hx hb dX6_drawn_23 (by decide) (fun hc => ?_) (fun hc => ?_)
    · have hw := And.left hw hc
      refine lv_iconst (v := (0 : Int32)) hx hb dX6_drawn_29 (by decide) ?_
      refine lv_istore_n (lv' := [(2, .int (0 : Int32)), (0, .ref (h 0)), (1, .int x1)]) hx hb dX6_drawn_30 rfl hl (by decide) rfl (fun ls hl => ?_)
      refine lv_iconst (v := (0 : Int32)) hx hb dX6_drawn_31 (by decide) ?_
      refine lv_istore_n (lv' := [(3, .int (0 : Int32)), (2, .int (0 : Int32)), (0, .ref (h 0)), (1, .int x1)]) hx hb dX6_drawn_32 rfl hl (by decide) rfl (fun ls hl => ?_)
      obtain ⟨j33, hw⟩ := hw
      exact B33 j33 x1 (0 : Int32) (0 : Int32) z0 _ _ _ hw hP hD hS (lv_sub hl [2, 3, 1, 0] rfl)
    · have hw := And.right hw hc
      refine lv_bipush (v := (-3 : Int32)) hx hb dX6_drawn_26 (by decide) ?_
      exact hret _ _ _ _ _ _ hw hP hD hS dX6_drawn_28
  · have hw := And.right hw hc
    refine lv_iconst (v := (-1 : Int32)) hx hb dX6_drawn_12 (by decide) ?_
    exact hret _ _ _ _ _ _ hw hP hD hS dX6_drawn_13
def wpX6_seed (x1 : Int32) (z0 : wSt) (post : Int32 → (wSt) → Prop) : Prop := ((0 ≤ x1 → (∀ z1 : wSt, z1 = (w_si z0 15 x1) → (post (w_i z0 15) z1))) ∧ (¬ 0 ≤ x1 → (post (-1 : Int32) z0)))
set_option maxHeartbeats 4000000 in
set_option maxRecDepth 100000 in
theorem cX6_seed_c {l : Launch} {G : wG} {h : Nat → Nat} {sz : Nat} {x1 : Int32} {post : Int32 → (wSt) → Prop} {z0 : wSt}  (hw : wpX6_seed x1 z0 post) : Met l yX6_seed (.code yX6_seed cX6_seed 3 (some .int) :: BIG) { frames := 0, cells := 0, slots := 0, locals := 0 } (xPw G [.ref (h 0), .int x1] (wsM G h z0) sz) (xQi G post (fun q => (wsM G h q)) (va_A (wsM G h z0) sz)) 0 0 (va_A (wsM G h z0) sz) := by
  refine xm_wi (by decide) (Nat.le_of_ble_eq_true rfl) (fun p e s m args below meth c A ls R Q hC hK hA hP hD hS hl hF hL hret => ?_)
  have hx := hC.1
  have hb := hC.2.1
  have hl : lv_has ls 3 [(0, .ref (h 0)), (1, .int x1)] := hl
  unfold wpX6_seed at hw
  refine lv_iload_n hx hb dX6_seed_0 rfl (lv_at hl 1 rfl) ?_
  refine lv_if_ge (tgt := 6) hx hb dX6_seed_1 (by decide) (fun hc => ?_) (fun hc => ?_)
  · have hw := And.left hw hc
    refine lv_aload_n hx hb dX6_seed_6 rfl (lv_at hl 0 rfl) ?_
    refine rg_M_X6_0_15 hC hK hP dX6_seed_7 ?_
    refine lv_istore_n (lv' := [(2, .int (w_i z0 15)), (0, .ref (h 0)), (1, .int x1)]) hx hb dX6_seed_10 rfl hl (by decide) rfl (fun ls hl => ?_)
    refine lv_aload_n hx hb dX6_seed_11 rfl (lv_at hl 1 rfl) ?_
    refine lv_iload_n hx hb dX6_seed_12 rfl (lv_at hl 2 rfl) ?_
    refine rp_M_X6_0_15 hC hK hP hD hS dX6_seed_13 (fun z1 H locs hz1 hP hD hS => ?_)
    have hw := hw z1 hz1
    refine lv_iload_n hx hb dX6_seed_16 rfl (lv_at hl 0 rfl) ?_
    exact hret _ _ _ _ _ _ hw hP hD hS dX6_seed_17
  · have hw := And.right hw hc
    refine lv_iconst (v := (-1 : Int32)) hx hb dX6_seed_4 (by decide) ?_
    exact hret _ _ _ _ _ _ hw hP hD hS dX6_seed_5
def wpX6_carried_156  (post : Int32 → (wSt) → Prop) (x4 : Int32) (x5 : Int32) (t0 : Int32) (t1 : Int32) (z0 : wSt) : Prop := (vp_in t1 6 ∧ ∀ z1 : wSt, z1 = (w_sa z0 4 (upd (w_a z0 4) t1.toNatClampNeg t0)) → ((¬ x5 = 0 → ((¬ x5 = (1 : Int32) → ((¬ x5 = (2 : Int32) → ((¬ x5 = (3 : Int32) → (vp_in x4 6 ∧ (post ((w_a z1 4) x4.toNatClampNeg) z1))) ∧ (x5 = (3 : Int32) → (vp_in x4 6 ∧ (post ((w_a z1 3) x4.toNatClampNeg) z1))))) ∧ (x5 = (2 : Int32) → (vp_in x4 6 ∧ (post ((w_a z1 2) x4.toNatClampNeg) z1))))) ∧ (x5 = (1 : Int32) → (vp_in x4 6 ∧ (post ((w_a z1 1) x4.toNatClampNeg) z1))))) ∧ (x5 = 0 → (vp_in x4 6 ∧ (post ((w_a z1 0) x4.toNatClampNeg) z1)))))
def wpX6_carried_149  (post : Int32 → (wSt) → Prop) (x4 : Int32) (x5 : Int32) (t0 : Int32) (z0 : wSt) : Prop := (vp_in x4 6 ∧ (wpX6_carried_156  post x4 x5 ((w_a z0 4) x4.toNatClampNeg) t0 z0))
def wpX6_carried_128  (post : Int32 → (wSt) → Prop) (x2 : Int32) (x3 : Int32) (x4 : Int32) (x5 : Int32) (t0 : Int32) (t1 : Int32) (z0 : wSt) : Prop := (vp_in t1 6 ∧ ∀ z1 : wSt, z1 = (w_sa z0 3 (upd (w_a z0 3) t1.toNatClampNeg t0)) → ((x3 = 0 → (wpX6_carried_149  post x4 x5 x4 z1)) ∧ (¬ x3 = 0 → ((¬ x5 = (4 : Int32) → (wpX6_carried_149  post x4 x5 x4 z1)) ∧ (x5 = (4 : Int32) → (wpX6_carried_156  post x4 x5 x2 x4 z1))))))
def wpX6_carried_121  (post : Int32 → (wSt) → Prop) (x2 : Int32) (x3 : Int32) (x4 : Int32) (x5 : Int32) (t0 : Int32) (z0 : wSt) : Prop := (vp_in x4 6 ∧ (wpX6_carried_128  post x2 x3 x4 x5 ((w_a z0 3) x4.toNatClampNeg) t0 z0))
def wpX6_carried_100  (post : Int32 → (wSt) → Prop) (x2 : Int32) (x3 : Int32) (x4 : Int32) (x5 : Int32) (t0 : Int32) (t1 : Int32) (z0 : wSt) : Prop := (vp_in t1 6 ∧ ∀ z1 : wSt, z1 = (w_sa z0 2 (upd (w_a z0 2) t1.toNatClampNeg t0)) → ((x3 = 0 → (wpX6_carried_121  post x2 x3 x4 x5 x4 z1)) ∧ (¬ x3 = 0 → ((¬ x5 = (3 : Int32) → (wpX6_carried_121  post x2 x3 x4 x5 x4 z1)) ∧ (x5 = (3 : Int32) → (wpX6_carried_128  post x2 x3 x4 x5 x2 x4 z1))))))
def wpX6_carried_93  (post : Int32 → (wSt) → Prop) (x2 : Int32) (x3 : Int32) (x4 : Int32) (x5 : Int32) (t0 : Int32) (z0 : wSt) : Prop := (vp_in x4 6 ∧ (wpX6_carried_100  post x2 x3 x4 x5 ((w_a z0 2) x4.toNatClampNeg) t0 z0))
def wpX6_carried_72  (post : Int32 → (wSt) → Prop) (x2 : Int32) (x3 : Int32) (x4 : Int32) (x5 : Int32) (t0 : Int32) (t1 : Int32) (z0 : wSt) : Prop := (vp_in t1 6 ∧ ∀ z1 : wSt, z1 = (w_sa z0 1 (upd (w_a z0 1) t1.toNatClampNeg t0)) → ((x3 = 0 → (wpX6_carried_93  post x2 x3 x4 x5 x4 z1)) ∧ (¬ x3 = 0 → ((¬ x5 = (2 : Int32) → (wpX6_carried_93  post x2 x3 x4 x5 x4 z1)) ∧ (x5 = (2 : Int32) → (wpX6_carried_100  post x2 x3 x4 x5 x2 x4 z1))))))
def wpX6_carried_65  (post : Int32 → (wSt) → Prop) (x2 : Int32) (x3 : Int32) (x4 : Int32) (x5 : Int32) (t0 : Int32) (z0 : wSt) : Prop := (vp_in x4 6 ∧ (wpX6_carried_72  post x2 x3 x4 x5 ((w_a z0 1) x4.toNatClampNeg) t0 z0))
def wpX6_carried_44  (post : Int32 → (wSt) → Prop) (x2 : Int32) (x3 : Int32) (x4 : Int32) (x5 : Int32) (t0 : Int32) (t1 : Int32) (z0 : wSt) : Prop := (vp_in t1 6 ∧ ∀ z1 : wSt, z1 = (w_sa z0 0 (upd (w_a z0 0) t1.toNatClampNeg t0)) → ((x3 = 0 → (wpX6_carried_65  post x2 x3 x4 x5 x4 z1)) ∧ (¬ x3 = 0 → ((¬ x5 = (1 : Int32) → (wpX6_carried_65  post x2 x3 x4 x5 x4 z1)) ∧ (x5 = (1 : Int32) → (wpX6_carried_72  post x2 x3 x4 x5 x2 x4 z1))))))
def wpX6_carried_37  (post : Int32 → (wSt) → Prop) (x2 : Int32) (x3 : Int32) (x4 : Int32) (x5 : Int32) (t0 : Int32) (z0 : wSt) : Prop := (vp_in x4 6 ∧ (wpX6_carried_44  post x2 x3 x4 x5 ((w_a z0 0) x4.toNatClampNeg) t0 z0))
def wpX6_carried_253  (post : Int32 → (wSt) → Prop) (x1 : Int32) (t0 : Int32) (t1 : Int32) (z0 : wSt) : Prop := (vp_in t1 24 ∧ ∀ z1 : wSt, z1 = (w_sa z0 13 (upd (w_a z0 13) t1.toNatClampNeg t0)) → (vp_in (x1 - (30 : Int32)) 24 ∧ (post ((w_a z1 13) (x1 - (30 : Int32)).toNatClampNeg) z1)))
def wpX6_carried (x1 : Int32) (x2 : Int32) (x3 : Int32) (z0 : wSt) (post : Int32 → (wSt) → Prop) : Prop := (((30 : Int32) ≤ x1 → ((x3 = 0 → (vp_in (x1 - (30 : Int32)) 24 ∧ (wpX6_carried_253  post x1 ((w_a z0 13) (x1 - (30 : Int32)).toNatClampNeg) (x1 - (30 : Int32)) z0))) ∧ (¬ x3 = 0 → (wpX6_carried_253  post x1 x2 (x1 - (30 : Int32)) z0)))) ∧ (¬ (30 : Int32) ≤ x1 → (¬ (6 : Int32) = 0 ∧ (¬ (6 : Int32) = 0 ∧ ((x3 = 0 → (wpX6_carried_37  post x2 x3 (x1 - x1 / (6 : Int32) * (6 : Int32)) (x1 / (6 : Int32)) (x1 - x1 / (6 : Int32) * (6 : Int32)) z0)) ∧ (¬ x3 = 0 → ((¬ (x1 / (6 : Int32)) = 0 → (wpX6_carried_37  post x2 x3 (x1 - x1 / (6 : Int32) * (6 : Int32)) (x1 / (6 : Int32)) (x1 - x1 / (6 : Int32) * (6 : Int32)) z0)) ∧ ((x1 / (6 : Int32)) = 0 → (wpX6_carried_44  post x2 x3 (x1 - x1 / (6 : Int32) * (6 : Int32)) (x1 / (6 : Int32)) x2 (x1 - x1 / (6 : Int32) * (6 : Int32)) z0)))))))))
set_option maxHeartbeats 4000000 in
set_option maxRecDepth 100000 in
theorem cX6_carried_c {l : Launch} {G : wG} {h : Nat → Nat} {sz : Nat} {x1 : Int32} {x2 : Int32} {x3 : Int32} {post : Int32 → (wSt) → Prop} {z0 : wSt}  (hw : wpX6_carried x1 x2 x3 z0 post) : Met l yX6_carried (.code yX6_carried cX6_carried 6 (some .int) :: BIG) { frames := 0, cells := 0, slots := 0, locals := 0 } (xPw G [.ref (h 0), .int x1, .int x2, .int x3] (wsM G h z0) sz) (xQi G post (fun q => (wsM G h q)) (va_A (wsM G h z0) sz)) 0 0 (va_A (wsM G h z0) sz) := by
  refine xm_wi (by decide) (Nat.le_of_ble_eq_true rfl) (fun p e s m args below meth c A ls R Q hC hK hA hP hD hS hl hF hL hret => ?_)
  have hx := hC.1
  have hb := hC.2.1
  have hl : lv_has ls 6 [(0, .ref (h 0)), (1, .int x1), (2, .int x2), (3, .int x3)] := hl
  have B156 : ∀ (x4 : Int32) (x5 : Int32) (t0 : Int32) (t1 : Int32) (z0 : wSt) (H : Heap) (locs : List Loc) (ls : Array Slot), wpX6_carried_156  post x4 x5 t0 t1 z0 → va_P G.1 vwCl (wsM G h z0) H → va_D A (wsM G h z0) → va_S A s.heap H locs → lv_has ls 6 [(0, .ref (h 0)), (4, .int x4), (5, .int x5)] → W p l e R s m args below meth c H locs 0 0 Q (F0 m 156 ls [.int t0, .int t1, .ref (h 5)]) := by
    intro x4 x5 t0 t1 z0 H locs ls hw hP hD hS hl
    unfold wpX6_carried_156 at hw
    refine rs_M_5 hC hK hP hD hS (And.left hw) dX6_carried_156 (fun z1 H locs hz1 hP hD hS => ?_)
    have hw := And.right hw z1 hz1
    refine lv_iload hx hb dX6_carried_157 (lv_at hl 2 rfl) ?_
    refine lv_if_ne (tgt := 172) hx hb dX6_carried_159 (by decide) (fun hc => ?_) (fun hc => ?_)
    · have hw := And.left hw hc
      refine lv_iload hx hb dX6_carried_172 (lv_at hl 2 rfl) ?_
      refine lv_iconst (v := (1 : Int32)) hx hb dX6_carried_174 (by decide) ?_
      refine lv_icmp_ne (tgt := 188) hx hb dX6_carried_175 (by decide) (fun hc => ?_) (fun hc => ?_)
      · have hw := And.left hw hc
        refine lv_iload hx hb dX6_carried_188 (lv_at hl 2 rfl) ?_
        refine lv_iconst (v := (2 : Int32)) hx hb dX6_carried_190 (by decide) ?_
        refine lv_icmp_ne (tgt := 204) hx hb dX6_carried_191 (by decide) (fun hc => ?_) (fun hc => ?_)
        · have hw := And.left hw hc
          refine lv_iload hx hb dX6_carried_204 (lv_at hl 2 rfl) ?_
          refine lv_iconst (v := (3 : Int32)) hx hb dX6_carried_206 (by decide) ?_
          refine lv_icmp_ne (tgt := 220) hx hb dX6_carried_207 (by decide) (fun hc => ?_) (fun hc => ?_)
          · have hw := And.left hw hc
            refine lv_aload_n hx hb dX6_carried_220 rfl (lv_at hl 0 rfl) ?_
            refine rg_M_X6_0_4 hC hK hP dX6_carried_221 ?_
            refine lv_iload hx hb dX6_carried_224 (lv_at hl 1 rfl) ?_
            refine rl_M_5 hC hK hP (And.left hw) dX6_carried_226 ?_
            have hw := And.right hw
            exact hret _ _ _ _ _ _ hw hP hD hS dX6_carried_227
          · have hw := And.right hw hc
            refine lv_aload_n hx hb dX6_carried_210 rfl (lv_at hl 0 rfl) ?_
            refine rg_M_X6_0_3 hC hK hP dX6_carried_211 ?_
            refine lv_iload hx hb dX6_carried_214 (lv_at hl 1 rfl) ?_
            refine rl_M_4 hC hK hP (And.left hw) dX6_carried_216 ?_
            have hw := And.right hw
            refine lv_goto (tgt := 227) hx hb dX6_carried_217 (by decide) ?_
            exact hret _ _ _ _ _ _ hw hP hD hS dX6_carried_227
        · have hw := And.right hw hc
          refine lv_aload_n hx hb dX6_carried_194 rfl (lv_at hl 0 rfl) ?_
          refine rg_M_X6_0_2 hC hK hP dX6_carried_195 ?_
          refine lv_iload hx hb dX6_carried_198 (lv_at hl 1 rfl) ?_
          refine rl_M_3 hC hK hP (And.left hw) dX6_carried_200 ?_
          have hw := And.right hw
          refine lv_goto (tgt := 227) hx hb dX6_carried_201 (by decide) ?_
          exact hret _ _ _ _ _ _ hw hP hD hS dX6_carried_227
      · have hw := And.right hw hc
        refine lv_aload_n hx hb dX6_carried_178 rfl (lv_at hl 0 rfl) ?_
        refine rg_M_X6_0_1 hC hK hP dX6_carried_179 ?_
        refine lv_iload hx hb dX6_carried_182 (lv_at hl 1 rfl) ?_
        refine rl_M_2 hC hK hP (And.left hw) dX6_carried_184 ?_
        have hw := And.right hw
        refine lv_goto (tgt := 227) hx hb dX6_carried_185 (by decide) ?_
        exact hret _ _ _ _ _ _ hw hP hD hS dX6_carried_227
    · have hw := And.right hw hc
      refine lv_aload_n hx hb dX6_carried_162 rfl (lv_at hl 0 rfl) ?_
      refine rg_M_X6_0_0 hC hK hP dX6_carried_163 ?_
      refine lv_iload hx hb dX6_carried_166 (lv_at hl 1 rfl) ?_
      refine rl_M_1 hC hK hP (And.left hw) dX6_carried_168 ?_
      have hw := And.right hw
      refine lv_goto (tgt := 227) hx hb dX6_carried_169 (by decide) ?_
      exact hret _ _ _ _ _ _ hw hP hD hS dX6_carried_227
  have B149 : ∀ (x4 : Int32) (x5 : Int32) (t0 : Int32) (z0 : wSt) (H : Heap) (locs : List Loc) (ls : Array Slot), wpX6_carried_149  post x4 x5 t0 z0 → va_P G.1 vwCl (wsM G h z0) H → va_D A (wsM G h z0) → va_S A s.heap H locs → lv_has ls 6 [(0, .ref (h 0)), (4, .int x4), (5, .int x5)] → W p l e R s m args below meth c H locs 0 0 Q (F0 m 149 ls [.int t0, .ref (h 5)]) := by
    intro x4 x5 t0 z0 H locs ls hw hP hD hS hl
    unfold wpX6_carried_149 at hw
    refine lv_aload_n hx hb dX6_carried_149 rfl (lv_at hl 0 rfl) ?_
    refine rg_M_X6_0_4 hC hK hP dX6_carried_150 ?_
    refine lv_iload hx hb dX6_carried_153 (lv_at hl 1 rfl) ?_
    refine rl_M_5 hC hK hP (And.left hw) dX6_carried_155 ?_
    have hw := And.right hw
    exact B156 x4 x5 ((w_a z0 4) x4.toNatClampNeg) t0 z0 _ _ _ hw hP hD hS (lv_sub hl [0, 1, 2] rfl)
  have B128 : ∀ (x2 : Int32) (x3 : Int32) (x4 : Int32) (x5 : Int32) (t0 : Int32) (t1 : Int32) (z0 : wSt) (H : Heap) (locs : List Loc) (ls : Array Slot), wpX6_carried_128  post x2 x3 x4 x5 t0 t1 z0 → va_P G.1 vwCl (wsM G h z0) H → va_D A (wsM G h z0) → va_S A s.heap H locs → lv_has ls 6 [(0, .ref (h 0)), (2, .int x2), (3, .int x3), (4, .int x4), (5, .int x5)] → W p l e R s m args below meth c H locs 0 0 Q (F0 m 128 ls [.int t0, .int t1, .ref (h 4)]) := by
    intro x2 x3 x4 x5 t0 t1 z0 H locs ls hw hP hD hS hl
    unfold wpX6_carried_128 at hw
    refine rs_M_4 hC hK hP hD hS (And.left hw) dX6_carried_128 (fun z1 H locs hz1 hP hD hS => ?_)
    have hw := And.right hw z1 hz1
    refine lv_aload_n hx hb dX6_carried_129 rfl (lv_at hl 0 rfl) ?_
    refine rg_M_X6_0_4 hC hK hP dX6_carried_130 ?_
    refine lv_iload hx hb dX6_carried_133 (lv_at hl 3 rfl) ?_
    refine lv_iload_n hx hb dX6_carried_135 rfl (lv_at hl 2 rfl) ?_
    refine lv_if_eq (tgt := 149) hx hb dX6_carried_136 (by decide) (fun hc => ?_) (fun hc => ?_)
    · have hw := And.left hw hc
      exact B149 x4 x5 x4 z1 _ _ _ hw hP hD hS (lv_sub hl [0, 3, 4] rfl)
    · have hw := And.right hw hc
      refine lv_iload hx hb dX6_carried_139 (lv_at hl 4 rfl) ?_
      refine lv_iconst (v := (4 : Int32)) hx hb dX6_carried_141 (by decide) ?_
      refine lv_icmp_ne (tgt := 149) hx hb dX6_carried_142 (by decide) (fun hc => ?_) (fun hc => ?_)
      · have hw := And.left hw hc
        exact B149 x4 x5 x4 z1 _ _ _ hw hP hD hS (lv_sub hl [0, 3, 4] rfl)
      · have hw := And.right hw hc
        refine lv_iload_n hx hb dX6_carried_145 rfl (lv_at hl 1 rfl) ?_
        refine lv_goto (tgt := 156) hx hb dX6_carried_146 (by decide) ?_
        exact B156 x4 x5 x2 x4 z1 _ _ _ hw hP hD hS (lv_sub hl [0, 3, 4] rfl)
  have B121 : ∀ (x2 : Int32) (x3 : Int32) (x4 : Int32) (x5 : Int32) (t0 : Int32) (z0 : wSt) (H : Heap) (locs : List Loc) (ls : Array Slot), wpX6_carried_121  post x2 x3 x4 x5 t0 z0 → va_P G.1 vwCl (wsM G h z0) H → va_D A (wsM G h z0) → va_S A s.heap H locs → lv_has ls 6 [(0, .ref (h 0)), (2, .int x2), (3, .int x3), (4, .int x4), (5, .int x5)] → W p l e R s m args below meth c H locs 0 0 Q (F0 m 121 ls [.int t0, .ref (h 4)]) := by
    intro x2 x3 x4 x5 t0 z0 H locs ls hw hP hD hS hl
    unfold wpX6_carried_121 at hw
    refine lv_aload_n hx hb dX6_carried_121 rfl (lv_at hl 0 rfl) ?_
    refine rg_M_X6_0_3 hC hK hP dX6_carried_122 ?_
    refine lv_iload hx hb dX6_carried_125 (lv_at hl 3 rfl) ?_
    refine rl_M_4 hC hK hP (And.left hw) dX6_carried_127 ?_
    have hw := And.right hw
    exact B128 x2 x3 x4 x5 ((w_a z0 3) x4.toNatClampNeg) t0 z0 _ _ _ hw hP hD hS (lv_sub hl [0, 1, 2, 3, 4] rfl)
  have B100 : ∀ (x2 : Int32) (x3 : Int32) (x4 : Int32) (x5 : Int32) (t0 : Int32) (t1 : Int32) (z0 : wSt) (H : Heap) (locs : List Loc) (ls : Array Slot), wpX6_carried_100  post x2 x3 x4 x5 t0 t1 z0 → va_P G.1 vwCl (wsM G h z0) H → va_D A (wsM G h z0) → va_S A s.heap H locs → lv_has ls 6 [(0, .ref (h 0)), (2, .int x2), (3, .int x3), (4, .int x4), (5, .int x5)] → W p l e R s m args below meth c H locs 0 0 Q (F0 m 100 ls [.int t0, .int t1, .ref (h 3)]) := by
    intro x2 x3 x4 x5 t0 t1 z0 H locs ls hw hP hD hS hl
    unfold wpX6_carried_100 at hw
    refine rs_M_3 hC hK hP hD hS (And.left hw) dX6_carried_100 (fun z1 H locs hz1 hP hD hS => ?_)
    have hw := And.right hw z1 hz1
    refine lv_aload_n hx hb dX6_carried_101 rfl (lv_at hl 0 rfl) ?_
    refine rg_M_X6_0_3 hC hK hP dX6_carried_102 ?_
    refine lv_iload hx hb dX6_carried_105 (lv_at hl 3 rfl) ?_
    refine lv_iload_n hx hb dX6_carried_107 rfl (lv_at hl 2 rfl) ?_
    refine lv_if_eq (tgt := 121) hx hb dX6_carried_108 (by decide) (fun hc => ?_) (fun hc => ?_)
    · have hw := And.left hw hc
      exact B121 x2 x3 x4 x5 x4 z1 _ _ _ hw hP hD hS (lv_sub hl [0, 1, 2, 3, 4] rfl)
    · have hw := And.right hw hc
      refine lv_iload hx hb dX6_carried_111 (lv_at hl 4 rfl) ?_
      refine lv_iconst (v := (3 : Int32)) hx hb dX6_carried_113 (by decide) ?_
      refine lv_icmp_ne (tgt := 121) hx hb dX6_carried_114 (by decide) (fun hc => ?_) (fun hc => ?_)
      · have hw := And.left hw hc
        exact B121 x2 x3 x4 x5 x4 z1 _ _ _ hw hP hD hS (lv_sub hl [0, 1, 2, 3, 4] rfl)
      · have hw := And.right hw hc
        refine lv_iload_n hx hb dX6_carried_117 rfl (lv_at hl 1 rfl) ?_
        refine lv_goto (tgt := 128) hx hb dX6_carried_118 (by decide) ?_
        exact B128 x2 x3 x4 x5 x2 x4 z1 _ _ _ hw hP hD hS (lv_sub hl [0, 1, 2, 3, 4] rfl)
  have B93 : ∀ (x2 : Int32) (x3 : Int32) (x4 : Int32) (x5 : Int32) (t0 : Int32) (z0 : wSt) (H : Heap) (locs : List Loc) (ls : Array Slot), wpX6_carried_93  post x2 x3 x4 x5 t0 z0 → va_P G.1 vwCl (wsM G h z0) H → va_D A (wsM G h z0) → va_S A s.heap H locs → lv_has ls 6 [(0, .ref (h 0)), (2, .int x2), (3, .int x3), (4, .int x4), (5, .int x5)] → W p l e R s m args below meth c H locs 0 0 Q (F0 m 93 ls [.int t0, .ref (h 3)]) := by
    intro x2 x3 x4 x5 t0 z0 H locs ls hw hP hD hS hl
    unfold wpX6_carried_93 at hw
    refine lv_aload_n hx hb dX6_carried_93 rfl (lv_at hl 0 rfl) ?_
    refine rg_M_X6_0_2 hC hK hP dX6_carried_94 ?_
    refine lv_iload hx hb dX6_carried_97 (lv_at hl 3 rfl) ?_
    refine rl_M_3 hC hK hP (And.left hw) dX6_carried_99 ?_
    have hw := And.right hw
    exact B100 x2 x3 x4 x5 ((w_a z0 2) x4.toNatClampNeg) t0 z0 _ _ _ hw hP hD hS (lv_sub hl [0, 1, 2, 3, 4] rfl)
  have B72 : ∀ (x2 : Int32) (x3 : Int32) (x4 : Int32) (x5 : Int32) (t0 : Int32) (t1 : Int32) (z0 : wSt) (H : Heap) (locs : List Loc) (ls : Array Slot), wpX6_carried_72  post x2 x3 x4 x5 t0 t1 z0 → va_P G.1 vwCl (wsM G h z0) H → va_D A (wsM G h z0) → va_S A s.heap H locs → lv_has ls 6 [(0, .ref (h 0)), (2, .int x2), (3, .int x3), (4, .int x4), (5, .int x5)] → W p l e R s m args below meth c H locs 0 0 Q (F0 m 72 ls [.int t0, .int t1, .ref (h 2)]) := by
    intro x2 x3 x4 x5 t0 t1 z0 H locs ls hw hP hD hS hl
    unfold wpX6_carried_72 at hw
    refine rs_M_2 hC hK hP hD hS (And.left hw) dX6_carried_72 (fun z1 H locs hz1 hP hD hS => ?_)
    have hw := And.right hw z1 hz1
    refine lv_aload_n hx hb dX6_carried_73 rfl (lv_at hl 0 rfl) ?_
    refine rg_M_X6_0_2 hC hK hP dX6_carried_74 ?_
    refine lv_iload hx hb dX6_carried_77 (lv_at hl 3 rfl) ?_
    refine lv_iload_n hx hb dX6_carried_79 rfl (lv_at hl 2 rfl) ?_
    refine lv_if_eq (tgt := 93) hx hb dX6_carried_80 (by decide) (fun hc => ?_) (fun hc => ?_)
    · have hw := And.left hw hc
      exact B93 x2 x3 x4 x5 x4 z1 _ _ _ hw hP hD hS (lv_sub hl [0, 1, 2, 3, 4] rfl)
    · have hw := And.right hw hc
      refine lv_iload hx hb dX6_carried_83 (lv_at hl 4 rfl) ?_
      refine lv_iconst (v := (2 : Int32)) hx hb dX6_carried_85 (by decide) ?_
      refine lv_icmp_ne (tgt := 93) hx hb dX6_carried_86 (by decide) (fun hc => ?_) (fun hc => ?_)
      · have hw := And.left hw hc
        exact B93 x2 x3 x4 x5 x4 z1 _ _ _ hw hP hD hS (lv_sub hl [0, 1, 2, 3, 4] rfl)
      · have hw := And.right hw hc
        refine lv_iload_n hx hb dX6_carried_89 rfl (lv_at hl 1 rfl) ?_
        refine lv_goto (tgt := 100) hx hb dX6_carried_90 (by decide) ?_
        exact B100 x2 x3 x4 x5 x2 x4 z1 _ _ _ hw hP hD hS (lv_sub hl [0, 1, 2, 3, 4] rfl)
  have B65 : ∀ (x2 : Int32) (x3 : Int32) (x4 : Int32) (x5 : Int32) (t0 : Int32) (z0 : wSt) (H : Heap) (locs : List Loc) (ls : Array Slot), wpX6_carried_65  post x2 x3 x4 x5 t0 z0 → va_P G.1 vwCl (wsM G h z0) H → va_D A (wsM G h z0) → va_S A s.heap H locs → lv_has ls 6 [(0, .ref (h 0)), (2, .int x2), (3, .int x3), (4, .int x4), (5, .int x5)] → W p l e R s m args below meth c H locs 0 0 Q (F0 m 65 ls [.int t0, .ref (h 2)]) := by
    intro x2 x3 x4 x5 t0 z0 H locs ls hw hP hD hS hl
    unfold wpX6_carried_65 at hw
    refine lv_aload_n hx hb dX6_carried_65 rfl (lv_at hl 0 rfl) ?_
    refine rg_M_X6_0_1 hC hK hP dX6_carried_66 ?_
    refine lv_iload hx hb dX6_carried_69 (lv_at hl 3 rfl) ?_
    refine rl_M_2 hC hK hP (And.left hw) dX6_carried_71 ?_
    have hw := And.right hw
    exact B72 x2 x3 x4 x5 ((w_a z0 1) x4.toNatClampNeg) t0 z0 _ _ _ hw hP hD hS (lv_sub hl [0, 1, 2, 3, 4] rfl)
  have B44 : ∀ (x2 : Int32) (x3 : Int32) (x4 : Int32) (x5 : Int32) (t0 : Int32) (t1 : Int32) (z0 : wSt) (H : Heap) (locs : List Loc) (ls : Array Slot), wpX6_carried_44  post x2 x3 x4 x5 t0 t1 z0 → va_P G.1 vwCl (wsM G h z0) H → va_D A (wsM G h z0) → va_S A s.heap H locs → lv_has ls 6 [(0, .ref (h 0)), (2, .int x2), (3, .int x3), (4, .int x4), (5, .int x5)] → W p l e R s m args below meth c H locs 0 0 Q (F0 m 44 ls [.int t0, .int t1, .ref (h 1)]) := by
    intro x2 x3 x4 x5 t0 t1 z0 H locs ls hw hP hD hS hl
    unfold wpX6_carried_44 at hw
    refine rs_M_1 hC hK hP hD hS (And.left hw) dX6_carried_44 (fun z1 H locs hz1 hP hD hS => ?_)
    have hw := And.right hw z1 hz1
    refine lv_aload_n hx hb dX6_carried_45 rfl (lv_at hl 0 rfl) ?_
    refine rg_M_X6_0_1 hC hK hP dX6_carried_46 ?_
    refine lv_iload hx hb dX6_carried_49 (lv_at hl 3 rfl) ?_
    refine lv_iload_n hx hb dX6_carried_51 rfl (lv_at hl 2 rfl) ?_
    refine lv_if_eq (tgt := 65) hx hb dX6_carried_52 (by decide) (fun hc => ?_) (fun hc => ?_)
    · have hw := And.left hw hc
      exact B65 x2 x3 x4 x5 x4 z1 _ _ _ hw hP hD hS (lv_sub hl [0, 1, 2, 3, 4] rfl)
    · have hw := And.right hw hc
      refine lv_iload hx hb dX6_carried_55 (lv_at hl 4 rfl) ?_
      refine lv_iconst (v := (1 : Int32)) hx hb dX6_carried_57 (by decide) ?_
      refine lv_icmp_ne (tgt := 65) hx hb dX6_carried_58 (by decide) (fun hc => ?_) (fun hc => ?_)
      · have hw := And.left hw hc
        exact B65 x2 x3 x4 x5 x4 z1 _ _ _ hw hP hD hS (lv_sub hl [0, 1, 2, 3, 4] rfl)
      · have hw := And.right hw hc
        refine lv_iload_n hx hb dX6_carried_61 rfl (lv_at hl 1 rfl) ?_
        refine lv_goto (tgt := 72) hx hb dX6_carried_62 (by decide) ?_
        exact B72 x2 x3 x4 x5 x2 x4 z1 _ _ _ hw hP hD hS (lv_sub hl [0, 1, 2, 3, 4] rfl)
  have B37 : ∀ (x2 : Int32) (x3 : Int32) (x4 : Int32) (x5 : Int32) (t0 : Int32) (z0 : wSt) (H : Heap) (locs : List Loc) (ls : Array Slot), wpX6_carried_37  post x2 x3 x4 x5 t0 z0 → va_P G.1 vwCl (wsM G h z0) H → va_D A (wsM G h z0) → va_S A s.heap H locs → lv_has ls 6 [(0, .ref (h 0)), (2, .int x2), (3, .int x3), (4, .int x4), (5, .int x5)] → W p l e R s m args below meth c H locs 0 0 Q (F0 m 37 ls [.int t0, .ref (h 1)]) := by
    intro x2 x3 x4 x5 t0 z0 H locs ls hw hP hD hS hl
    unfold wpX6_carried_37 at hw
    refine lv_aload_n hx hb dX6_carried_37 rfl (lv_at hl 0 rfl) ?_
    refine rg_M_X6_0_0 hC hK hP dX6_carried_38 ?_
    refine lv_iload hx hb dX6_carried_41 (lv_at hl 3 rfl) ?_
    refine rl_M_1 hC hK hP (And.left hw) dX6_carried_43 ?_
    have hw := And.right hw
    exact B44 x2 x3 x4 x5 ((w_a z0 0) x4.toNatClampNeg) t0 z0 _ _ _ hw hP hD hS (lv_sub hl [0, 1, 2, 3, 4] rfl)
  have B253 : ∀ (x1 : Int32) (t0 : Int32) (t1 : Int32) (z0 : wSt) (H : Heap) (locs : List Loc) (ls : Array Slot), wpX6_carried_253  post x1 t0 t1 z0 → va_P G.1 vwCl (wsM G h z0) H → va_D A (wsM G h z0) → va_S A s.heap H locs → lv_has ls 6 [(0, .ref (h 0)), (1, .int x1)] → W p l e R s m args below meth c H locs 0 0 Q (F0 m 253 ls [.int t0, .int t1, .ref (h 6)]) := by
    intro x1 t0 t1 z0 H locs ls hw hP hD hS hl
    unfold wpX6_carried_253 at hw
    refine rs_M_6 hC hK hP hD hS (And.left hw) dX6_carried_253 (fun z1 H locs hz1 hP hD hS => ?_)
    have hw := And.right hw z1 hz1
    refine lv_aload_n hx hb dX6_carried_254 rfl (lv_at hl 0 rfl) ?_
    refine rg_M_X6_0_13 hC hK hP dX6_carried_255 ?_
    refine lv_iload_n hx hb dX6_carried_258 rfl (lv_at hl 1 rfl) ?_
    refine lv_bipush (v := (30 : Int32)) hx hb dX6_carried_259 (by decide) ?_
    refine lv_isub hx hb dX6_carried_261 ?_
    refine rl_M_6 hC hK hP (And.left hw) dX6_carried_262 ?_
    have hw := And.right hw
    exact hret _ _ _ _ _ _ hw hP hD hS dX6_carried_263
  unfold wpX6_carried at hw
  refine lv_iload_n hx hb dX6_carried_0 rfl (lv_at hl 1 rfl) ?_
  refine lv_bipush (v := (30 : Int32)) hx hb dX6_carried_1 (by decide) ?_
  refine lv_icmp_ge (tgt := 228) hx hb dX6_carried_3 (by decide) (fun hc => ?_) (fun hc => ?_)
  · have hw := And.left hw hc
    refine lv_aload_n hx hb dX6_carried_228 rfl (lv_at hl 0 rfl) ?_
    refine rg_M_X6_0_13 hC hK hP dX6_carried_229 ?_
    refine lv_iload_n hx hb dX6_carried_232 rfl (lv_at hl 1 rfl) ?_
    refine lv_bipush (v := (30 : Int32)) hx hb dX6_carried_233 (by decide) ?_
    refine lv_isub hx hb dX6_carried_235 ?_
    refine lv_iload_n hx hb dX6_carried_236 rfl (lv_at hl 3 rfl) ?_
    refine lv_if_eq (tgt := 244) hx hb dX6_carried_237 (by decide) (fun hc => ?_) (fun hc => ?_)
    · have hw := And.left hw hc
      refine lv_aload_n hx hb dX6_carried_244 rfl (lv_at hl 0 rfl) ?_
      refine rg_M_X6_0_13 hC hK hP dX6_carried_245 ?_
      refine lv_iload_n hx hb dX6_carried_248 rfl (lv_at hl 1 rfl) ?_
      refine lv_bipush (v := (30 : Int32)) hx hb dX6_carried_249 (by decide) ?_
      refine lv_isub hx hb dX6_carried_251 ?_
      refine rl_M_6 hC hK hP (And.left hw) dX6_carried_252 ?_
      have hw := And.right hw
      exact B253 x1 ((w_a z0 13) (x1 - (30 : Int32)).toNatClampNeg) (x1 - (30 : Int32)) z0 _ _ _ hw hP hD hS (lv_sub hl [0, 1] rfl)
    · have hw := And.right hw hc
      refine lv_iload_n hx hb dX6_carried_240 rfl (lv_at hl 2 rfl) ?_
      refine lv_goto (tgt := 253) hx hb dX6_carried_241 (by decide) ?_
      exact B253 x1 x2 (x1 - (30 : Int32)) z0 _ _ _ hw hP hD hS (lv_sub hl [0, 1] rfl)
  · have hw := And.right hw hc
    refine lv_iload_n hx hb dX6_carried_6 rfl (lv_at hl 1 rfl) ?_
    refine lv_bipush (v := (6 : Int32)) hx hb dX6_carried_7 (by decide) ?_
    refine lv_irem hx hb dX6_carried_9 (And.left hw) ?_
    have hw := And.right hw
    refine lv_istore (lv' := [(4, .int (x1 - x1 / (6 : Int32) * (6 : Int32))), (0, .ref (h 0)), (1, .int x1), (2, .int x2), (3, .int x3)]) hx hb dX6_carried_10 hl (by decide) rfl (fun ls hl => ?_)
    refine lv_iload_n hx hb dX6_carried_12 rfl (lv_at hl 2 rfl) ?_
    refine lv_bipush (v := (6 : Int32)) hx hb dX6_carried_13 (by decide) ?_
    refine lv_idiv hx hb dX6_carried_15 (And.left hw) ?_
    have hw := And.right hw
    refine lv_istore (lv' := [(5, .int (x1 / (6 : Int32))), (4, .int (x1 - x1 / (6 : Int32) * (6 : Int32))), (0, .ref (h 0)), (1, .int x1), (2, .int x2), (3, .int x3)]) hx hb dX6_carried_16 hl (by decide) rfl (fun ls hl => ?_)
    refine lv_aload_n hx hb dX6_carried_18 rfl (lv_at hl 2 rfl) ?_
    refine rg_M_X6_0_0 hC hK hP dX6_carried_19 ?_
    refine lv_iload hx hb dX6_carried_22 (lv_at hl 1 rfl) ?_
    refine lv_iload_n hx hb dX6_carried_24 rfl (lv_at hl 5 rfl) ?_
    refine lv_if_eq (tgt := 37) hx hb dX6_carried_25 (by decide) (fun hc => ?_) (fun hc => ?_)
    · have hw := And.left hw hc
      exact B37 x2 x3 (x1 - x1 / (6 : Int32) * (6 : Int32)) (x1 / (6 : Int32)) (x1 - x1 / (6 : Int32) * (6 : Int32)) z0 _ _ _ hw hP hD hS (lv_sub hl [2, 4, 5, 1, 0] rfl)
    · have hw := And.right hw hc
      refine lv_iload hx hb dX6_carried_28 (lv_at hl 0 rfl) ?_
      refine lv_if_ne (tgt := 37) hx hb dX6_carried_30 (by decide) (fun hc => ?_) (fun hc => ?_)
      · have hw := And.left hw hc
        exact B37 x2 x3 (x1 - x1 / (6 : Int32) * (6 : Int32)) (x1 / (6 : Int32)) (x1 - x1 / (6 : Int32) * (6 : Int32)) z0 _ _ _ hw hP hD hS (lv_sub hl [2, 4, 5, 1, 0] rfl)
      · have hw := And.right hw hc
        refine lv_iload_n hx hb dX6_carried_33 rfl (lv_at hl 4 rfl) ?_
        refine lv_goto (tgt := 44) hx hb dX6_carried_34 (by decide) ?_
        exact B44 x2 x3 (x1 - x1 / (6 : Int32) * (6 : Int32)) (x1 / (6 : Int32)) x2 (x1 - x1 / (6 : Int32) * (6 : Int32)) z0 _ _ _ hw hP hD hS (lv_sub hl [2, 4, 5, 1, 0] rfl)
