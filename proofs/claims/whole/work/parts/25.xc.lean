def wpX5_refusal (x1 : Int32) (x2 : Int32) (x3 : Int32) (x4 : Int32) (z0 : wXS) (post : Int32 → Prop) : Prop := (wpX5_isSheet x1 (fun r1 => ((r1 = 0 → (post (-1 : Int32))) ∧ (¬ r1 = 0 → (wpX5_isLane x2 (fun r2 => ((¬ r2 = 0 → (vp_in x1 4 ∧ ((¬ (w_i (x_h z0 x1.toNatClampNeg) 1) = 0 → (vp_in x1 4 ∧ (((w_i (x_h z0 x1.toNatClampNeg) 2) = x2 → (vp_in x1 4 ∧ (wpX2_hasSpan x3 x4 (x_h z0 x1.toNatClampNeg) (fun r3 => ((r3 = 0 → (post (-13 : Int32))) ∧ (¬ r3 = 0 → (post (0 : Int32)))))))) ∧ (¬ (w_i (x_h z0 x1.toNatClampNeg) 2) = x2 → (post (-12 : Int32)))))) ∧ ((w_i (x_h z0 x1.toNatClampNeg) 1) = 0 → (post (-11 : Int32)))))) ∧ (r2 = 0 → (post (-1 : Int32))))))))))
set_option maxHeartbeats 4000000 in
set_option maxRecDepth 100000 in
theorem cX5_refusal_c {l : Launch} {G : wG} {h : Nat → Nat} {x1 : Int32} {x2 : Int32} {x3 : Int32} {x4 : Int32} {post : Int32 → Prop} {z0 : wXS}  (hw : wpX5_refusal x1 x2 x3 x4 z0 post) : Met l yX5_refusal (.code yX5_refusal cX5_refusal 5 (some .int) :: BIG) { frames := 2, cells := 0, slots := 0, locals := 42 } (xPr G [.ref (h 0), .int x1, .int x2, .int x3, .int x4] (wsX G h z0)) (vp_Si post) 0 0 (fun _ => False) := by
  refine xm_ri (by decide) (Nat.le_of_ble_eq_true rfl) (fun p e s m args below meth c ls R Q hC hK hP hl hF hL hret => ?_)
  have hx := hC.1
  have hb := hC.2.1
  have hl : lv_has ls 5 [(0, .ref (h 0)), (1, .int x1), (2, .int x2), (3, .int x3), (4, .int x4)] := hl
  unfold wpX5_refusal at hw
  refine lv_iload_n hx hb dX5_refusal_0 rfl (lv_at hl 1 rfl) ?_
  refine vp_callSi (xro (xr_S hC (cX5_isSheet_c hw) ⟨rfl, rfl⟩ bw_532 calX5_isSheet ⟨Nat.le_trans (Nat.le_of_ble_eq_true rfl) hF, Nat.le_trans (Nat.le_of_ble_eq_true rfl) hL⟩ (rest := []) (xpS hK) rfl hl rfl (Nat.le_of_ble_eq_true rfl) dX5_refusal_1 ⟨Nat.zero_le _, Nat.zero_le _⟩)) (fun r1 hw => ?_)
  refine lv_if_eq (tgt := 14) hx hb dX5_refusal_4 (by decide) (fun hc => ?_) (fun hc => ?_)
  · have hw := And.left hw hc
    refine lv_iconst (v := (-1 : Int32)) hx hb dX5_refusal_14 (by decide) ?_
    exact hret _ _ _ hw dX5_refusal_15
  · have hw := And.right hw hc
    refine lv_iload_n hx hb dX5_refusal_7 rfl (lv_at hl 2 rfl) ?_
    refine vp_callSi (xro (xr_S hC (cX5_isLane_c hw) ⟨rfl, rfl⟩ bw_535 calX5_isLane ⟨Nat.le_trans (Nat.le_of_ble_eq_true rfl) hF, Nat.le_trans (Nat.le_of_ble_eq_true rfl) hL⟩ (rest := []) (xpS hK) rfl hl rfl (Nat.le_of_ble_eq_true rfl) dX5_refusal_8 ⟨Nat.zero_le _, Nat.zero_le _⟩)) (fun r2 hw => ?_)
    refine lv_if_ne (tgt := 16) hx hb dX5_refusal_11 (by decide) (fun hc => ?_) (fun hc => ?_)
    · have hw := And.left hw hc
      refine lv_aload_n hx hb dX5_refusal_16 rfl (lv_at hl 0 rfl) ?_
      refine rg_X_X5_0_7 hC hK hP dX5_refusal_17 ?_
      refine lv_iload_n hx hb dX5_refusal_20 rfl (lv_at hl 1 rfl) ?_
      have hn0 := w_n4 (And.left hw)
      refine rx_ald hC hK hP (And.left hw) dX5_refusal_21 ?_
      have hw := And.right hw
      refine rg_X_X5_H_1 (n := x1.toNatClampNeg) hn0 hC hK hP dX5_refusal_22 ?_
      refine lv_if_ne (tgt := 31) hx hb dX5_refusal_25 (by decide) (fun hc => ?_) (fun hc => ?_)
      · have hw := And.left hw hc
        refine lv_aload_n hx hb dX5_refusal_31 rfl (lv_at hl 0 rfl) ?_
        refine rg_X_X5_0_7 hC hK hP dX5_refusal_32 ?_
        refine lv_iload_n hx hb dX5_refusal_35 rfl (lv_at hl 1 rfl) ?_
        have hn0 := w_n4 (And.left hw)
        refine rx_ald hC hK hP (And.left hw) dX5_refusal_36 ?_
        have hw := And.right hw
        refine rg_X_X5_H_2 (n := x1.toNatClampNeg) hn0 hC hK hP dX5_refusal_37 ?_
        refine lv_iload_n hx hb dX5_refusal_40 rfl (lv_at hl 2 rfl) ?_
        refine lv_icmp_eq (tgt := 47) hx hb dX5_refusal_41 (by decide) (fun hc => ?_) (fun hc => ?_)
        · have hw := And.left hw hc
          refine lv_aload_n hx hb dX5_refusal_47 rfl (lv_at hl 0 rfl) ?_
          refine rg_X_X5_0_7 hC hK hP dX5_refusal_48 ?_
          refine lv_iload_n hx hb dX5_refusal_51 rfl (lv_at hl 1 rfl) ?_
          have hn0 := w_n4 (And.left hw)
          refine rx_ald hC hK hP (And.left hw) dX5_refusal_52 ?_
          have hw := And.right hw
          refine lv_iload_n hx hb dX5_refusal_53 rfl (lv_at hl 3 rfl) ?_
          refine lv_iload hx hb dX5_refusal_54 (lv_at hl 4 rfl) ?_
          refine vp_callSi (xro (xr_VN hC hK.2 (cX2_hasSpan_c (h := (sh h (35 + 2 * x1.toNatClampNeg))) hw) ⟨rfl, rfl⟩ bw_538 calX2_hasSpan ⟨Nat.le_trans (Nat.le_of_ble_eq_true rfl) hF, Nat.le_trans (Nat.le_of_ble_eq_true rfl) hL⟩ (rest := []) (xpR hK (xCut.P (cut_X_Hn (n := x1.toNatClampNeg) hn0) hP) rfl rfl) rfl hl rfl (Nat.le_of_ble_eq_true rfl) dX5_refusal_56 ⟨Nat.zero_le _, Nat.zero_le _⟩)) (fun r3 hw => ?_)
          refine lv_if_eq (tgt := 66) hx hb dX5_refusal_59 (by decide) (fun hc => ?_) (fun hc => ?_)
          · have hw := And.left hw hc
            refine lv_bipush (v := (-13 : Int32)) hx hb dX5_refusal_66 (by decide) ?_
            exact hret _ _ _ hw dX5_refusal_68
          · have hw := And.right hw hc
            refine lv_iconst (v := (0 : Int32)) hx hb dX5_refusal_62 (by decide) ?_
            refine lv_goto (tgt := 68) hx hb dX5_refusal_63 (by decide) ?_
            exact hret _ _ _ hw dX5_refusal_68
        · have hw := And.right hw hc
          refine lv_bipush (v := (-12 : Int32)) hx hb dX5_refusal_44 (by decide) ?_
          exact hret _ _ _ hw dX5_refusal_46
      · have hw := And.right hw hc
        refine lv_bipush (v := (-11 : Int32)) hx hb dX5_refusal_28 (by decide) ?_
        exact hret _ _ _ hw dX5_refusal_30
    · have hw := And.right hw hc
      refine lv_iconst (v := (-1 : Int32)) hx hb dX5_refusal_14 (by decide) ?_
      exact hret _ _ _ hw dX5_refusal_15
def wpX5_areDrawings_3 (k3 : Int32 → Int32 → Int32 → Prop) (n0 : Nat) (z0 : wXS) (post : Int32 → Prop) (x2 : Int32) (x3 : Int32) (x4 : Int32) : Prop := ((x3 ≤ x4 → (post (1 : Int32))) ∧ (¬ x3 ≤ x4 → (vp_in (x2 + ((2 : Int32) * x4)) 24 ∧ (((lg_cmp (w_l (x_h z0 n0) 0 (x2 + ((2 : Int32) * x4)).toNatClampNeg) (0 : Int64)) < 0 → (post (0 : Int32))) ∧ (¬ (lg_cmp (w_l (x_h z0 n0) 0 (x2 + ((2 : Int32) * x4)).toNatClampNeg) (0 : Int64)) < 0 → ((0 ≤ (lg_cmp (w_l (x_h z0 n0) 0 (x2 + ((2 : Int32) * x4)).toNatClampNeg) ((w_i (w_f (x_w z0)) 4).toInt64)) → (post (0 : Int32))) ∧ (¬ 0 ≤ (lg_cmp (w_l (x_h z0 n0) 0 (x2 + ((2 : Int32) * x4)).toNatClampNeg) ((w_i (w_f (x_w z0)) 4).toInt64)) → (vp_in ((x2 + ((2 : Int32) * x4)) + (1 : Int32)) 24 ∧ (wpX5_isPails (w_l (x_h z0 n0) 0 ((x2 + ((2 : Int32) * x4)) + (1 : Int32)).toNatClampNeg) (fun r1 => ((¬ r1 = 0 → (k3 x2 x3 (x4 + (1 : Int32)))) ∧ (r1 = 0 → (post (0 : Int32))))))))))))))
def wpX5_areDrawings_L3  (n0 : Nat) (z0 : wXS) (post : Int32 → Prop) : Nat → Int32 → Int32 → Int32 → Prop
  | 0 => fun _ _ _ => False
  | n + 1 => fun x2 x3 x4 => wpX5_areDrawings_3  (wpX5_areDrawings_L3  n0 z0 post n) n0 z0 post x2 x3 x4
def wpX5_areDrawings (n0 : Nat) (x2 : Int32) (x3 : Int32) (z0 : wXS) (post : Int32 → Prop) : Prop := (∃ n, wpX5_areDrawings_L3  n0 z0 post n x2 x3 (0 : Int32))
set_option maxHeartbeats 4000000 in
set_option maxRecDepth 100000 in
theorem cX5_areDrawings_c {l : Launch} {G : wG} {h : Nat → Nat} {n0 : Nat} {x2 : Int32} {x3 : Int32} {post : Int32 → Prop} {z0 : wXS} (hn0 : n0 < 4) (hw : wpX5_areDrawings n0 x2 x3 z0 post) : Met l yX5_areDrawings (.code yX5_areDrawings cX5_areDrawings 7 (some .boolean) :: BIG) { frames := 1, cells := 0, slots := 0, locals := 21 } (xPr G [.ref (h 0), .ref (h (35 + 2 * n0)), .int x2, .int x3] (wsX G h z0)) (vp_Si post) 0 0 (fun _ => False) := by
  refine xm_rz (by decide) (Nat.le_of_ble_eq_true rfl) (fun p e s m args below meth c ls R Q hC hK hP hl hF hL hret => ?_)
  have hx := hC.1
  have hb := hC.2.1
  have hl : lv_has ls 7 [(0, .ref (h 0)), (1, .ref (h (35 + 2 * n0))), (2, .int x2), (3, .int x3)] := hl
  have B3 : ∀ n3 : Nat, ∀ (x2 : Int32) (x3 : Int32) (x4 : Int32) (ls : Array Slot), wpX5_areDrawings_L3  n0 z0 post n3 x2 x3 x4 → lv_has ls 7 [(0, .ref (h 0)), (1, .ref (h (35 + 2 * n0))), (2, .int x2), (3, .int x3), (4, .int x4)] → W p l e R s m args below meth c s.heap [] 0 0 Q (F0 m 3 ls []) := by
    intro n3
    induction n3 with
    | zero => intro x2 x3 x4 ls hw hl; exact False.elim hw
    | succ n3 I3 =>
      intro x2 x3 x4 ls hw hl
      have hw : wpX5_areDrawings_3  (wpX5_areDrawings_L3  n0 z0 post n3) n0 z0 post x2 x3 x4 := hw
      unfold wpX5_areDrawings_3 at hw
      refine lv_iload hx hb dX5_areDrawings_3 (lv_at hl 4 rfl) ?_
      refine lv_iload_n hx hb dX5_areDrawings_5 rfl (lv_at hl 3 rfl) ?_
      refine lv_icmp_ge (tgt := 73) hx hb dX5_areDrawings_6 (by decide) (fun hc => ?_) (fun hc => ?_)
      · have hw := And.left hw hc
        refine lv_iconst (v := (1 : Int32)) hx hb dX5_areDrawings_73 (by decide) ?_
        exact hret _ _ _ rfl hw dX5_areDrawings_74
      · have hw := And.right hw hc
        refine lv_aload_n hx hb dX5_areDrawings_9 rfl (lv_at hl 1 rfl) ?_
        refine rg_X_X5_H_0 (n := n0) hn0 hC hK hP dX5_areDrawings_10 ?_
        refine lv_iload_n hx hb dX5_areDrawings_13 rfl (lv_at hl 2 rfl) ?_
        refine lv_iconst (v := (2 : Int32)) hx hb dX5_areDrawings_14 (by decide) ?_
        refine lv_iload hx hb dX5_areDrawings_15 (lv_at hl 4 rfl) ?_
        refine lv_imul hx hb dX5_areDrawings_17 ?_
        refine lv_iadd hx hb dX5_areDrawings_18 ?_
        refine rl_X_H (n := n0) hn0 hC hK hP (And.left hw) dX5_areDrawings_19 ?_
        have hw := And.right hw
        refine lv_lstore (lv' := [(5, .long (w_l (x_h z0 n0) 0 (x2 + ((2 : Int32) * x4)).toNatClampNeg)), (0, .ref (h 0)), (1, .ref (h (35 + 2 * n0))), (2, .int x2), (3, .int x3), (4, .int x4)]) hx hb dX5_areDrawings_20 hl (by decide) rfl (fun ls hl => ?_)
        refine lv_lload hx hb dX5_areDrawings_22 (lv_at hl 0 rfl) ?_
        refine lv_lconst (v := (0 : Int64)) hx hb dX5_areDrawings_24 (by decide) ?_
        refine W.lcmp hx hb dX5_areDrawings_25 ?_
        refine lv_if_lt (tgt := 65) hx hb dX5_areDrawings_26 (by decide) (fun hc => ?_) (fun hc => ?_)
        · have hw := And.left hw hc
          refine lv_iconst (v := (0 : Int32)) hx hb dX5_areDrawings_65 (by decide) ?_
          exact hret _ _ _ rfl hw dX5_areDrawings_66
        · have hw := And.right hw hc
          refine lv_lload hx hb dX5_areDrawings_29 (lv_at hl 0 rfl) ?_
          refine lv_aload_n hx hb dX5_areDrawings_31 rfl (lv_at hl 1 rfl) ?_
          refine rg_X_X5_0_0 hC hK hP dX5_areDrawings_32 ?_
          refine rg_X_X5_1_0 hC hK hP dX5_areDrawings_35 ?_
          refine rg_X_X5_4_4 hC hK hP dX5_areDrawings_38 ?_
          refine lv_i2l (v := ((w_i (w_f (x_w z0)) 4).toInt64)) hx hb dX5_areDrawings_41 rfl ?_
          refine W.lcmp hx hb dX5_areDrawings_42 ?_
          refine lv_if_ge (tgt := 65) hx hb dX5_areDrawings_43 (by decide) (fun hc => ?_) (fun hc => ?_)
          · have hw := And.left hw hc
            refine lv_iconst (v := (0 : Int32)) hx hb dX5_areDrawings_65 (by decide) ?_
            exact hret _ _ _ rfl hw dX5_areDrawings_66
          · have hw := And.right hw hc
            refine lv_aload_n hx hb dX5_areDrawings_46 rfl (lv_at hl 2 rfl) ?_
            refine rg_X_X5_H_0 (n := n0) hn0 hC hK hP dX5_areDrawings_47 ?_
            refine lv_iload_n hx hb dX5_areDrawings_50 rfl (lv_at hl 3 rfl) ?_
            refine lv_iconst (v := (2 : Int32)) hx hb dX5_areDrawings_51 (by decide) ?_
            refine lv_iload hx hb dX5_areDrawings_52 (lv_at hl 5 rfl) ?_
            refine lv_imul hx hb dX5_areDrawings_54 ?_
            refine lv_iadd hx hb dX5_areDrawings_55 ?_
            refine lv_iconst (v := (1 : Int32)) hx hb dX5_areDrawings_56 (by decide) ?_
            refine lv_iadd hx hb dX5_areDrawings_57 ?_
            refine rl_X_H (n := n0) hn0 hC hK hP (And.left hw) dX5_areDrawings_58 ?_
            have hw := And.right hw
            refine vp_callSi (xro (xr_S hC (cX5_isPails_c hw) ⟨rfl, rfl⟩ bw_477 calX5_isPails ⟨Nat.le_trans (Nat.le_of_ble_eq_true rfl) hF, Nat.le_trans (Nat.le_of_ble_eq_true rfl) hL⟩ (rest := []) (xpS hK) rfl hl rfl (Nat.le_of_ble_eq_true rfl) dX5_areDrawings_59 ⟨Nat.zero_le _, Nat.zero_le _⟩)) (fun r1 hw => ?_)
            refine lv_if_ne (tgt := 67) hx hb dX5_areDrawings_62 (by decide) (fun hc => ?_) (fun hc => ?_)
            · have hw := And.left hw hc
              refine lv_iinc (v := (x4 + (1 : Int32))) (lv' := [(4, .int (x4 + (1 : Int32))), (5, .long (w_l (x_h z0 n0) 0 (x2 + ((2 : Int32) * x4)).toNatClampNeg)), (0, .ref (h 0)), (1, .ref (h (35 + 2 * n0))), (2, .int x2), (3, .int x3)]) hx hb dX5_areDrawings_67 hl (k := 5) rfl rfl (by decide) rfl (fun ls hl => ?_)
              refine lv_goto (tgt := 3) hx hb dX5_areDrawings_70 (by decide) ?_
              exact I3 x2 x3 (x4 + (1 : Int32)) _ hw (lv_sub hl [2, 3, 4, 5, 0] rfl)
            · have hw := And.right hw hc
              refine lv_iconst (v := (0 : Int32)) hx hb dX5_areDrawings_65 (by decide) ?_
              exact hret _ _ _ rfl hw dX5_areDrawings_66
  unfold wpX5_areDrawings at hw
  refine lv_iconst (v := (0 : Int32)) hx hb dX5_areDrawings_0 (by decide) ?_
  refine lv_istore (lv' := [(4, .int (0 : Int32)), (0, .ref (h 0)), (1, .ref (h (35 + 2 * n0))), (2, .int x2), (3, .int x3)]) hx hb dX5_areDrawings_1 hl (by decide) rfl (fun ls hl => ?_)
  obtain ⟨j3, hw⟩ := hw
  exact B3 j3 x2 x3 (0 : Int32) _ hw (lv_sub hl [1, 2, 3, 4, 0] rfl)
def wpX5_fitsFrom_6 (k6 : Int32 → Int32 → Int32 → Int32 → Prop) (n0 : Nat) (z0 : wXS) (post : Int32 → Prop) (x3 : Int32) (x4 : Int32) (x5 : Int32) (x6 : Int32) : Prop := ((x4 ≤ x6 → (post (1 : Int32))) ∧ (¬ x4 ≤ x6 → (vp_in (x3 + ((2 : Int32) * x6)) 24 ∧ (wpX0_pailsAt ((w_l (x_h z0 n0) 0 (x3 + ((2 : Int32) * x6)).toNatClampNeg).toInt32) x5 (w_f (x_w z0)) (fun r1 => (vp_in ((x3 + ((2 : Int32) * x6)) + (1 : Int32)) 24 ∧ (((lg_cmp (r1.toInt64) (w_l (x_h z0 n0) 0 ((x3 + ((2 : Int32) * x6)) + (1 : Int32)).toNatClampNeg)) = 0 → (wpX0_moodBehind ((w_l (x_h z0 n0) 0 (x3 + ((2 : Int32) * x6)).toNatClampNeg).toInt32) x5 (w_f (x_w z0)) (fun r2 => (wpX5_waned r2 (fun r3 => (k6 x3 x4 r3 (x6 + (1 : Int32)))))))) ∧ (¬ (lg_cmp (r1.toInt64) (w_l (x_h z0 n0) 0 ((x3 + ((2 : Int32) * x6)) + (1 : Int32)).toNatClampNeg)) = 0 → (post (0 : Int32))))))))))
def wpX5_fitsFrom_L6  (n0 : Nat) (z0 : wXS) (post : Int32 → Prop) : Nat → Int32 → Int32 → Int32 → Int32 → Prop
  | 0 => fun _ _ _ _ => False
  | n + 1 => fun x3 x4 x5 x6 => wpX5_fitsFrom_6  (wpX5_fitsFrom_L6  n0 z0 post n) n0 z0 post x3 x4 x5 x6
def wpX5_fitsFrom (n0 : Nat) (x1 : Int32) (x3 : Int32) (x4 : Int32) (z0 : wXS) (post : Int32 → Prop) : Prop := (∃ n, wpX5_fitsFrom_L6  n0 z0 post n x3 x4 x1 (0 : Int32))
set_option maxHeartbeats 4000000 in
set_option maxRecDepth 100000 in
theorem cX5_fitsFrom_c {l : Launch} {G : wG} {h : Nat → Nat} {n0 : Nat} {x1 : Int32} {x3 : Int32} {x4 : Int32} {post : Int32 → Prop} {z0 : wXS} (hn0 : n0 < 4) (hw : wpX5_fitsFrom n0 x1 x3 x4 z0 post) : Met l yX5_fitsFrom (.code yX5_fitsFrom cX5_fitsFrom 8 (some .boolean) :: BIG) { frames := 3, cells := 0, slots := 0, locals := 63 } (xPr G [.ref (h 0), .int x1, .ref (h (35 + 2 * n0)), .int x3, .int x4] (wsX G h z0)) (vp_Si post) 0 0 (fun _ => False) := by
  refine xm_rz (by decide) (Nat.le_of_ble_eq_true rfl) (fun p e s m args below meth c ls R Q hC hK hP hl hF hL hret => ?_)
  have hx := hC.1
  have hb := hC.2.1
  have hl : lv_has ls 8 [(0, .ref (h 0)), (1, .int x1), (2, .ref (h (35 + 2 * n0))), (3, .int x3), (4, .int x4)] := hl
  have B6 : ∀ n6 : Nat, ∀ (x3 : Int32) (x4 : Int32) (x5 : Int32) (x6 : Int32) (ls : Array Slot), wpX5_fitsFrom_L6  n0 z0 post n6 x3 x4 x5 x6 → lv_has ls 8 [(0, .ref (h 0)), (2, .ref (h (35 + 2 * n0))), (3, .int x3), (4, .int x4), (5, .int x5), (6, .int x6)] → W p l e R s m args below meth c s.heap [] 0 0 Q (F0 m 6 ls []) := by
    intro n6
    induction n6 with
    | zero => intro x3 x4 x5 x6 ls hw hl; exact False.elim hw
    | succ n6 I6 =>
      intro x3 x4 x5 x6 ls hw hl
      have hw : wpX5_fitsFrom_6  (wpX5_fitsFrom_L6  n0 z0 post n6) n0 z0 post x3 x4 x5 x6 := hw
      unfold wpX5_fitsFrom_6 at hw
      refine lv_iload hx hb dX5_fitsFrom_6 (lv_at hl 5 rfl) ?_
      refine lv_iload hx hb dX5_fitsFrom_8 (lv_at hl 3 rfl) ?_
      refine lv_icmp_ge (tgt := 86) hx hb dX5_fitsFrom_10 (by decide) (fun hc => ?_) (fun hc => ?_)
      · have hw := And.left hw hc
        refine lv_iconst (v := (1 : Int32)) hx hb dX5_fitsFrom_86 (by decide) ?_
        exact hret _ _ _ rfl hw dX5_fitsFrom_87
      · have hw := And.right hw hc
        refine lv_aload_n hx hb dX5_fitsFrom_13 rfl (lv_at hl 1 rfl) ?_
        refine rg_X_X5_H_0 (n := n0) hn0 hC hK hP dX5_fitsFrom_14 ?_
        refine lv_iload_n hx hb dX5_fitsFrom_17 rfl (lv_at hl 2 rfl) ?_
        refine lv_iconst (v := (2 : Int32)) hx hb dX5_fitsFrom_18 (by decide) ?_
        refine lv_iload hx hb dX5_fitsFrom_19 (lv_at hl 5 rfl) ?_
        refine lv_imul hx hb dX5_fitsFrom_21 ?_
        refine lv_iadd hx hb dX5_fitsFrom_22 ?_
        refine rl_X_H (n := n0) hn0 hC hK hP (And.left hw) dX5_fitsFrom_23 ?_
        have hw := And.right hw
        refine lv_l2i (v := ((w_l (x_h z0 n0) 0 (x3 + ((2 : Int32) * x6)).toNatClampNeg).toInt32)) hx hb dX5_fitsFrom_24 rfl ?_
        refine lv_istore (lv' := [(7, .int ((w_l (x_h z0 n0) 0 (x3 + ((2 : Int32) * x6)).toNatClampNeg).toInt32)), (0, .ref (h 0)), (2, .ref (h (35 + 2 * n0))), (3, .int x3), (4, .int x4), (5, .int x5), (6, .int x6)]) hx hb dX5_fitsFrom_25 hl (by decide) rfl (fun ls hl => ?_)
        refine lv_aload_n hx hb dX5_fitsFrom_27 rfl (lv_at hl 1 rfl) ?_
        refine rg_X_X5_0_0 hC hK hP dX5_fitsFrom_28 ?_
        refine rg_X_X5_1_0 hC hK hP dX5_fitsFrom_31 ?_
        refine lv_iload hx hb dX5_fitsFrom_34 (lv_at hl 0 rfl) ?_
        refine lv_iload hx hb dX5_fitsFrom_36 (lv_at hl 5 rfl) ?_
        refine vp_callSi (xro (xr_VN hC hK.2 (cX0_pailsAt_c (h := (sh h 4)) hw) ⟨rfl, rfl⟩ bw_483 calX0_pailsAt ⟨Nat.le_trans (Nat.le_of_ble_eq_true rfl) hF, Nat.le_trans (Nat.le_of_ble_eq_true rfl) hL⟩ (rest := []) (xpR hK (xCut.P (cut_X_F4) hP) rfl rfl) rfl hl rfl (Nat.le_of_ble_eq_true rfl) dX5_fitsFrom_38 ⟨Nat.zero_le _, Nat.zero_le _⟩)) (fun r1 hw => ?_)
        refine lv_i2l (v := (r1.toInt64)) hx hb dX5_fitsFrom_41 rfl ?_
        refine lv_aload_n hx hb dX5_fitsFrom_42 rfl (lv_at hl 2 rfl) ?_
        refine rg_X_X5_H_0 (n := n0) hn0 hC hK hP dX5_fitsFrom_43 ?_
        refine lv_iload_n hx hb dX5_fitsFrom_46 rfl (lv_at hl 3 rfl) ?_
        refine lv_iconst (v := (2 : Int32)) hx hb dX5_fitsFrom_47 (by decide) ?_
        refine lv_iload hx hb dX5_fitsFrom_48 (lv_at hl 6 rfl) ?_
        refine lv_imul hx hb dX5_fitsFrom_50 ?_
        refine lv_iadd hx hb dX5_fitsFrom_51 ?_
        refine lv_iconst (v := (1 : Int32)) hx hb dX5_fitsFrom_52 (by decide) ?_
        refine lv_iadd hx hb dX5_fitsFrom_53 ?_
        refine rl_X_H (n := n0) hn0 hC hK hP (And.left hw) dX5_fitsFrom_54 ?_
        have hw := And.right hw
        refine W.lcmp hx hb dX5_fitsFrom_55 ?_
        refine lv_if_eq (tgt := 61) hx hb dX5_fitsFrom_56 (by decide) (fun hc => ?_) (fun hc => ?_)
        · have hw := And.left hw hc
          refine lv_aload_n hx hb dX5_fitsFrom_61 rfl (lv_at hl 1 rfl) ?_
          refine rg_X_X5_0_0 hC hK hP dX5_fitsFrom_62 ?_
          refine rg_X_X5_1_0 hC hK hP dX5_fitsFrom_65 ?_
          refine lv_iload hx hb dX5_fitsFrom_68 (lv_at hl 0 rfl) ?_
          refine lv_iload hx hb dX5_fitsFrom_70 (lv_at hl 5 rfl) ?_
          refine vp_callSi (xro (xr_VN hC hK.2 (cX0_moodBehind_c (h := (sh h 4)) hw) ⟨rfl, rfl⟩ bw_550 calX0_moodBehind ⟨Nat.le_trans (Nat.le_of_ble_eq_true rfl) hF, Nat.le_trans (Nat.le_of_ble_eq_true rfl) hL⟩ (rest := []) (xpR hK (xCut.P (cut_X_F4) hP) rfl rfl) rfl hl rfl (Nat.le_of_ble_eq_true rfl) dX5_fitsFrom_72 ⟨Nat.zero_le _, Nat.zero_le _⟩)) (fun r2 hw => ?_)
          refine vp_callSi (xro (xr_S hC (cX5_waned_c hw) ⟨rfl, rfl⟩ bw_482 calX5_waned ⟨Nat.le_trans (Nat.le_of_ble_eq_true rfl) hF, Nat.le_trans (Nat.le_of_ble_eq_true rfl) hL⟩ (rest := []) (xpS hK) rfl hl rfl (Nat.le_of_ble_eq_true rfl) dX5_fitsFrom_75 ⟨Nat.zero_le _, Nat.zero_le _⟩)) (fun r3 hw => ?_)
          refine lv_istore (lv' := [(5, .int r3), (7, .int ((w_l (x_h z0 n0) 0 (x3 + ((2 : Int32) * x6)).toNatClampNeg).toInt32)), (0, .ref (h 0)), (2, .ref (h (35 + 2 * n0))), (3, .int x3), (4, .int x4), (6, .int x6)]) hx hb dX5_fitsFrom_78 hl (by decide) rfl (fun ls hl => ?_)
          refine lv_iinc (v := (x6 + (1 : Int32))) (lv' := [(6, .int (x6 + (1 : Int32))), (5, .int r3), (7, .int ((w_l (x_h z0 n0) 0 (x3 + ((2 : Int32) * x6)).toNatClampNeg).toInt32)), (0, .ref (h 0)), (2, .ref (h (35 + 2 * n0))), (3, .int x3), (4, .int x4)]) hx hb dX5_fitsFrom_80 hl (k := 6) rfl rfl (by decide) rfl (fun ls hl => ?_)
          refine lv_goto (tgt := 6) hx hb dX5_fitsFrom_83 (by decide) ?_
          exact I6 x3 x4 r3 (x6 + (1 : Int32)) _ hw (lv_sub hl [3, 4, 5, 6, 1, 0] rfl)
        · have hw := And.right hw hc
          refine lv_iconst (v := (0 : Int32)) hx hb dX5_fitsFrom_59 (by decide) ?_
          exact hret _ _ _ rfl hw dX5_fitsFrom_60
  unfold wpX5_fitsFrom at hw
  refine lv_iload_n hx hb dX5_fitsFrom_0 rfl (lv_at hl 1 rfl) ?_
  refine lv_istore (lv' := [(5, .int x1), (0, .ref (h 0)), (1, .int x1), (2, .ref (h (35 + 2 * n0))), (3, .int x3), (4, .int x4)]) hx hb dX5_fitsFrom_1 hl (by decide) rfl (fun ls hl => ?_)
  refine lv_iconst (v := (0 : Int32)) hx hb dX5_fitsFrom_3 (by decide) ?_
  refine lv_istore (lv' := [(6, .int (0 : Int32)), (5, .int x1), (0, .ref (h 0)), (1, .int x1), (2, .ref (h (35 + 2 * n0))), (3, .int x3), (4, .int x4)]) hx hb dX5_fitsFrom_4 hl (by decide) rfl (fun ls hl => ?_)
  obtain ⟨j6, hw⟩ := hw
  exact B6 j6 x3 x4 x1 (0 : Int32) _ hw (lv_sub hl [2, 4, 5, 6, 1, 0] rfl)
def wpX5_fit_97 (k60 : Int32 → Int32 → Int32 → Int32 → Int32 → Prop) (z0 : wXS) (post : Int32 → Prop) (x1 : Int32) (x3 : Int32) (x4 : Int32) (x6 : Int32) (x7 : Int32) : Prop := (k60 x1 x3 x4 x6 (x7 + (1 : Int32)))
def wpX5_fit_60 (k60 : Int32 → Int32 → Int32 → Int32 → Int32 → Prop) (z0 : wXS) (post : Int32 → Prop) (x1 : Int32) (x3 : Int32) (x4 : Int32) (x6 : Int32) (x7 : Int32) : Prop := (((9 : Int32) < x7 → (post x6)) ∧ (¬ (9 : Int32) < x7 → (vp_in x1 4 ∧ (wpX5_fitsFrom x1.toNatClampNeg x7 x3 x4 z0 (fun r1 => ((r1 = 0 → (wpX5_fit_97 k60 z0 post x1 x3 x4 x6 x7)) ∧ (¬ r1 = 0 → (wpX5_fit_97 k60 z0 post x1 x3 x4 (x6 ||| ((1 : Int32) <<< ((x7 + (9 : Int32)) &&& 31))) x7))))))))
def wpX5_fit_L60  (z0 : wXS) (post : Int32 → Prop) : Nat → Int32 → Int32 → Int32 → Int32 → Int32 → Prop
  | 0 => fun _ _ _ _ _ => False
  | n + 1 => fun x1 x3 x4 x6 x7 => wpX5_fit_60  (wpX5_fit_L60  z0 post n) z0 post x1 x3 x4 x6 x7
def wpX5_fit (x1 : Int32) (x2 : Int32) (x3 : Int32) (x4 : Int32) (z0 : wXS) (post : Int32 → Prop) : Prop := (wpX5_within x4 (1 : Int32) (8 : Int32) (fun r1 => ((¬ r1 = 0 → (wpX5_refusal x1 x2 x3 ((2 : Int32) * x4) z0 (fun r2 => ((r2 = 0 → (vp_in x1 4 ∧ (wpX5_areDrawings x1.toNatClampNeg x3 x4 z0 (fun r3 => ((¬ r3 = 0 → (∃ n, wpX5_fit_L60  z0 post n x1 x3 x4 (0 : Int32) (-9 : Int32))) ∧ (r3 = 0 → (post (-2 : Int32)))))))) ∧ (¬ r2 = 0 → (post r2)))))) ∧ (r1 = 0 → (post (-1 : Int32))))))
set_option maxHeartbeats 4000000 in
set_option maxRecDepth 100000 in
theorem cX5_fit_c {l : Launch} {G : wG} {h : Nat → Nat} {x1 : Int32} {x2 : Int32} {x3 : Int32} {x4 : Int32} {post : Int32 → Prop} {z0 : wXS}  (hw : wpX5_fit x1 x2 x3 x4 z0 post) : Met l yX5_fit (.code yX5_fit cX5_fit 8 (some .int) :: BIG) { frames := 4, cells := 0, slots := 0, locals := 90 } (xPr G [.ref (h 0), .int x1, .int x2, .int x3, .int x4] (wsX G h z0)) (vp_Si post) 0 0 (fun _ => False) := by
  refine xm_ri (by decide) (Nat.le_of_ble_eq_true rfl) (fun p e s m args below meth c ls R Q hC hK hP hl hF hL hret => ?_)
  have hx := hC.1
  have hb := hC.2.1
  have hl : lv_has ls 8 [(0, .ref (h 0)), (1, .int x1), (2, .int x2), (3, .int x3), (4, .int x4)] := hl
  have B60 : ∀ n60 : Nat, ∀ (x1 : Int32) (x3 : Int32) (x4 : Int32) (x6 : Int32) (x7 : Int32) (ls : Array Slot), wpX5_fit_L60  z0 post n60 x1 x3 x4 x6 x7 → lv_has ls 8 [(0, .ref (h 0)), (1, .int x1), (3, .int x3), (4, .int x4), (6, .int x6), (7, .int x7)] → W p l e R s m args below meth c s.heap [] 0 0 Q (F0 m 60 ls []) := by
    intro n60
    induction n60 with
    | zero => intro x1 x3 x4 x6 x7 ls hw hl; exact False.elim hw
    | succ n60 I60 =>
      have B97 : ∀ (x1 : Int32) (x3 : Int32) (x4 : Int32) (x6 : Int32) (x7 : Int32) (ls : Array Slot), wpX5_fit_97 (wpX5_fit_L60  z0 post n60) z0 post x1 x3 x4 x6 x7 → lv_has ls 8 [(0, .ref (h 0)), (1, .int x1), (3, .int x3), (4, .int x4), (6, .int x6), (7, .int x7)] → W p l e R s m args below meth c s.heap [] 0 0 Q (F0 m 97 ls []) := by
        intro x1 x3 x4 x6 x7 ls hw hl
        unfold wpX5_fit_97 at hw
        refine lv_iinc (v := (x7 + (1 : Int32))) (lv' := [(7, .int (x7 + (1 : Int32))), (0, .ref (h 0)), (1, .int x1), (3, .int x3), (4, .int x4), (6, .int x6)]) hx hb dX5_fit_97 hl (k := 5) rfl rfl (by decide) rfl (fun ls hl => ?_)
        refine lv_goto (tgt := 60) hx hb dX5_fit_100 (by decide) ?_
        exact I60 x1 x3 x4 x6 (x7 + (1 : Int32)) _ hw (lv_sub hl [1, 2, 3, 4, 5, 0] rfl)
      intro x1 x3 x4 x6 x7 ls hw hl
      have hw : wpX5_fit_60  (wpX5_fit_L60  z0 post n60) z0 post x1 x3 x4 x6 x7 := hw
      unfold wpX5_fit_60 at hw
      refine lv_iload hx hb dX5_fit_60 (lv_at hl 5 rfl) ?_
      refine lv_bipush (v := (9 : Int32)) hx hb dX5_fit_62 (by decide) ?_
      refine lv_icmp_gt (tgt := 103) hx hb dX5_fit_64 (by decide) (fun hc => ?_) (fun hc => ?_)
      · have hw := And.left hw hc
        refine lv_iload hx hb dX5_fit_103 (lv_at hl 4 rfl) ?_
        exact hret _ _ _ hw dX5_fit_105
      · have hw := And.right hw hc
        refine lv_aload_n hx hb dX5_fit_67 rfl (lv_at hl 0 rfl) ?_
        refine lv_iload hx hb dX5_fit_68 (lv_at hl 5 rfl) ?_
        refine lv_aload_n hx hb dX5_fit_70 rfl (lv_at hl 0 rfl) ?_
        refine rg_X_X5_0_7 hC hK hP dX5_fit_71 ?_
        refine lv_iload_n hx hb dX5_fit_74 rfl (lv_at hl 1 rfl) ?_
        have hn0 := w_n4 (And.left hw)
        refine rx_ald hC hK hP (And.left hw) dX5_fit_75 ?_
        have hw := And.right hw
        refine lv_iload_n hx hb dX5_fit_76 rfl (lv_at hl 2 rfl) ?_
        refine lv_iload hx hb dX5_fit_77 (lv_at hl 3 rfl) ?_
        refine vp_callSi (xro (xr_V hC (cX5_fitsFrom_c (h := h) hn0 hw) ⟨rfl, rfl⟩ bw_546 calX5_fitsFrom ⟨Nat.le_trans (Nat.le_of_ble_eq_true rfl) hF, Nat.le_trans (Nat.le_of_ble_eq_true rfl) hL⟩ (rest := []) (xpR hK hP rfl rfl) rfl hl rfl (Nat.le_of_ble_eq_true rfl) dX5_fit_79 ⟨Nat.zero_le _, Nat.zero_le _⟩)) (fun r1 hw => ?_)
        refine lv_if_eq (tgt := 97) hx hb dX5_fit_82 (by decide) (fun hc => ?_) (fun hc => ?_)
        · have hw := And.left hw hc
          exact B97 x1 x3 x4 x6 x7 _ hw (lv_sub hl [0, 1, 2, 3, 4, 5] rfl)
        · have hw := And.right hw hc
          refine lv_iload hx hb dX5_fit_85 (lv_at hl 4 rfl) ?_
          refine lv_iconst (v := (1 : Int32)) hx hb dX5_fit_87 (by decide) ?_
          refine lv_iload hx hb dX5_fit_88 (lv_at hl 5 rfl) ?_
          refine lv_bipush (v := (9 : Int32)) hx hb dX5_fit_90 (by decide) ?_
          refine lv_iadd hx hb dX5_fit_92 ?_
          refine lv_ishl hx hb dX5_fit_93 ?_
          refine lv_ior hx hb dX5_fit_94 ?_
          refine lv_istore (lv' := [(6, .int (x6 ||| ((1 : Int32) <<< ((x7 + (9 : Int32)) &&& 31)))), (0, .ref (h 0)), (1, .int x1), (3, .int x3), (4, .int x4), (7, .int x7)]) hx hb dX5_fit_95 hl (by decide) rfl (fun ls hl => ?_)
          exact B97 x1 x3 x4 (x6 ||| ((1 : Int32) <<< ((x7 + (9 : Int32)) &&& 31))) x7 _ hw (lv_sub hl [1, 2, 3, 4, 0, 5] rfl)
  unfold wpX5_fit at hw
  refine lv_iload hx hb dX5_fit_0 (lv_at hl 4 rfl) ?_
  refine lv_iconst (v := (1 : Int32)) hx hb dX5_fit_2 (by decide) ?_
  refine lv_bipush (v := (8 : Int32)) hx hb dX5_fit_3 (by decide) ?_
  refine vp_callSi (xro (xr_S hC (cX5_within_c hw) ⟨rfl, rfl⟩ bw_223 calX5_within ⟨Nat.le_trans (Nat.le_of_ble_eq_true rfl) hF, Nat.le_trans (Nat.le_of_ble_eq_true rfl) hL⟩ (rest := []) (xpS hK) rfl hl rfl (Nat.le_of_ble_eq_true rfl) dX5_fit_5 ⟨Nat.zero_le _, Nat.zero_le _⟩)) (fun r1 hw => ?_)
  refine lv_if_ne (tgt := 13) hx hb dX5_fit_8 (by decide) (fun hc => ?_) (fun hc => ?_)
  · have hw := And.left hw hc
    refine lv_aload_n hx hb dX5_fit_13 rfl (lv_at hl 0 rfl) ?_
    refine lv_iload_n hx hb dX5_fit_14 rfl (lv_at hl 1 rfl) ?_
    refine lv_iload_n hx hb dX5_fit_15 rfl (lv_at hl 2 rfl) ?_
    refine lv_iload_n hx hb dX5_fit_16 rfl (lv_at hl 3 rfl) ?_
    refine lv_iconst (v := (2 : Int32)) hx hb dX5_fit_17 (by decide) ?_
    refine lv_iload hx hb dX5_fit_18 (lv_at hl 4 rfl) ?_
    refine lv_imul hx hb dX5_fit_20 ?_
    refine vp_callSi (xro (xr_V hC (cX5_refusal_c (h := h) hw) ⟨rfl, rfl⟩ bw_528 calX5_refusal ⟨Nat.le_trans (Nat.le_of_ble_eq_true rfl) hF, Nat.le_trans (Nat.le_of_ble_eq_true rfl) hL⟩ (rest := []) (xpR hK hP rfl rfl) rfl hl rfl (Nat.le_of_ble_eq_true rfl) dX5_fit_21 ⟨Nat.zero_le _, Nat.zero_le _⟩)) (fun r2 hw => ?_)
    refine lv_istore (lv' := [(5, .int r2), (0, .ref (h 0)), (1, .int x1), (2, .int x2), (3, .int x3), (4, .int x4)]) hx hb dX5_fit_24 hl (by decide) rfl (fun ls hl => ?_)
    refine lv_iload hx hb dX5_fit_26 (lv_at hl 0 rfl) ?_
    refine lv_if_eq (tgt := 34) hx hb dX5_fit_28 (by decide) (fun hc => ?_) (fun hc => ?_)
    · have hw := And.left hw hc
      refine lv_aload_n hx hb dX5_fit_34 rfl (lv_at hl 1 rfl) ?_
      refine lv_aload_n hx hb dX5_fit_35 rfl (lv_at hl 1 rfl) ?_
      refine rg_X_X5_0_7 hC hK hP dX5_fit_36 ?_
      refine lv_iload_n hx hb dX5_fit_39 rfl (lv_at hl 2 rfl) ?_
      have hn0 := w_n4 (And.left hw)
      refine rx_ald hC hK hP (And.left hw) dX5_fit_40 ?_
      have hw := And.right hw
      refine lv_iload_n hx hb dX5_fit_41 rfl (lv_at hl 4 rfl) ?_
      refine lv_iload hx hb dX5_fit_42 (lv_at hl 5 rfl) ?_
      refine vp_callSi (xro (xr_V hC (cX5_areDrawings_c (h := h) hn0 hw) ⟨rfl, rfl⟩ bw_542 calX5_areDrawings ⟨Nat.le_trans (Nat.le_of_ble_eq_true rfl) hF, Nat.le_trans (Nat.le_of_ble_eq_true rfl) hL⟩ (rest := []) (xpR hK hP rfl rfl) rfl hl rfl (Nat.le_of_ble_eq_true rfl) dX5_fit_44 ⟨Nat.zero_le _, Nat.zero_le _⟩)) (fun r3 hw => ?_)
      refine lv_if_ne (tgt := 53) hx hb dX5_fit_47 (by decide) (fun hc => ?_) (fun hc => ?_)
      · have hw := And.left hw hc
        refine lv_iconst (v := (0 : Int32)) hx hb dX5_fit_53 (by decide) ?_
        refine lv_istore (lv' := [(6, .int (0 : Int32)), (5, .int r2), (0, .ref (h 0)), (1, .int x1), (2, .int x2), (3, .int x3), (4, .int x4)]) hx hb dX5_fit_54 hl (by decide) rfl (fun ls hl => ?_)
        refine lv_bipush (v := (-9 : Int32)) hx hb dX5_fit_56 (by decide) ?_
        refine lv_istore (lv' := [(7, .int (-9 : Int32)), (6, .int (0 : Int32)), (5, .int r2), (0, .ref (h 0)), (1, .int x1), (2, .int x2), (3, .int x3), (4, .int x4)]) hx hb dX5_fit_58 hl (by decide) rfl (fun ls hl => ?_)
        obtain ⟨j60, hw⟩ := hw
        exact B60 j60 x1 x3 x4 (0 : Int32) (-9 : Int32) _ hw (lv_sub hl [3, 4, 6, 7, 1, 0] rfl)
      · have hw := And.right hw hc
        refine lv_bipush (v := (-2 : Int32)) hx hb dX5_fit_50 (by decide) ?_
        exact hret _ _ _ hw dX5_fit_52
    · have hw := And.right hw hc
      refine lv_iload hx hb dX5_fit_31 (lv_at hl 0 rfl) ?_
      exact hret _ _ _ hw dX5_fit_33
  · have hw := And.right hw hc
    refine lv_iconst (v := (-1 : Int32)) hx hb dX5_fit_11 (by decide) ?_
    exact hret _ _ _ hw dX5_fit_12
def wpX5_film_39 (k39 : Int32 → Int32 → Int32 → Int32 → (wXS) → Prop) (post : Int32 → (wXS) → Prop) (x1 : Int32) (x2 : Int32) (x4 : Int32) (x6 : Int32) (z0 : wXS) : Prop := (((19 : Int32) ≤ x6 → (post (19 : Int32) z0)) ∧ (¬ (19 : Int32) ≤ x6 → (vp_in x2 4 ∧ (wpX4_givesAt x1 (x6 - (9 : Int32)) (x_w z0) (fun r1 => (wpX2_put (x4 + x6) (r1.toInt64) (x_h z0 x2.toNatClampNeg) (fun u => ∀ z1 : wXS, z1 = (x_sh z0 x2.toNatClampNeg u) → (k39 x1 x2 x4 (x6 + (1 : Int32)) z1))))))))
def wpX5_film_L39  (post : Int32 → (wXS) → Prop) : Nat → Int32 → Int32 → Int32 → Int32 → (wXS) → Prop
  | 0 => fun _ _ _ _ _ => False
  | n + 1 => fun x1 x2 x4 x6 z0 => wpX5_film_39  (wpX5_film_L39  post n) post x1 x2 x4 x6 z0
def wpX5_film (x1 : Int32) (x2 : Int32) (x3 : Int32) (x4 : Int32) (z0 : wXS) (post : Int32 → (wXS) → Prop) : Prop := (wpX0_has x1 (w_f (x_w z0)) (fun r1 => ((¬ r1 = 0 → (wpX5_refusal x2 x3 x4 (19 : Int32) z0 (fun r2 => ((r2 = 0 → (∃ n, wpX5_film_L39  post n x1 x2 x4 (0 : Int32) z0)) ∧ (¬ r2 = 0 → (post r2 z0)))))) ∧ (r1 = 0 → (post (-1 : Int32) z0)))))
set_option maxHeartbeats 4000000 in
set_option maxRecDepth 100000 in
theorem cX5_film_c {l : Launch} {G : wG} {h : Nat → Nat} {sz : Nat} {x1 : Int32} {x2 : Int32} {x3 : Int32} {x4 : Int32} {post : Int32 → (wXS) → Prop} {z0 : wXS}  (hw : wpX5_film x1 x2 x3 x4 z0 post) : Met l yX5_film (.code yX5_film cX5_film 7 (some .int) :: BIG) { frames := 3, cells := 0, slots := 0, locals := 67 } (xPw G [.ref (h 0), .int x1, .int x2, .int x3, .int x4] (wsX G h z0) sz) (xQi G post (fun q => (wsX G h q)) (va_A (wsX G h z0) sz)) 0 0 (va_A (wsX G h z0) sz) := by
  refine xm_wi (by decide) (Nat.le_of_ble_eq_true rfl) (fun p e s m args below meth c A ls R Q hC hK hA hP hD hS hl hF hL hret => ?_)
  have hx := hC.1
  have hb := hC.2.1
  have hl : lv_has ls 7 [(0, .ref (h 0)), (1, .int x1), (2, .int x2), (3, .int x3), (4, .int x4)] := hl
  have B39 : ∀ n39 : Nat, ∀ (x1 : Int32) (x2 : Int32) (x4 : Int32) (x6 : Int32) (z0 : wXS) (H : Heap) (locs : List Loc) (ls : Array Slot), wpX5_film_L39  post n39 x1 x2 x4 x6 z0 → va_P G.1 vwCl (wsX G h z0) H → va_D A (wsX G h z0) → va_S A s.heap H locs → lv_has ls 7 [(0, .ref (h 0)), (1, .int x1), (2, .int x2), (4, .int x4), (6, .int x6)] → W p l e R s m args below meth c H locs 0 0 Q (F0 m 39 ls []) := by
    intro n39
    induction n39 with
    | zero => intro x1 x2 x4 x6 z0 H locs ls hw hP hD hS hl; exact False.elim hw
    | succ n39 I39 =>
      intro x1 x2 x4 x6 z0 H locs ls hw hP hD hS hl
      have hw : wpX5_film_39  (wpX5_film_L39  post n39) post x1 x2 x4 x6 z0 := hw
      unfold wpX5_film_39 at hw
      refine lv_iload hx hb dX5_film_39 (lv_at hl 4 rfl) ?_
      refine lv_bipush (v := (19 : Int32)) hx hb dX5_film_41 (by decide) ?_
      refine lv_icmp_ge (tgt := 80) hx hb dX5_film_43 (by decide) (fun hc => ?_) (fun hc => ?_)
      · have hw := And.left hw hc
        refine lv_bipush (v := (19 : Int32)) hx hb dX5_film_80 (by decide) ?_
        exact hret _ _ _ _ _ _ hw hP hD hS dX5_film_82
      · have hw := And.right hw hc
        refine lv_aload_n hx hb dX5_film_46 rfl (lv_at hl 0 rfl) ?_
        refine rg_X_X5_0_7 hC hK hP dX5_film_47 ?_
        refine lv_iload_n hx hb dX5_film_50 rfl (lv_at hl 2 rfl) ?_
        have hn0 := w_n4 (And.left hw)
        refine rx_ald hC hK hP (And.left hw) dX5_film_51 ?_
        have hw := And.right hw
        refine lv_iload hx hb dX5_film_52 (lv_at hl 3 rfl) ?_
        refine lv_iload hx hb dX5_film_54 (lv_at hl 4 rfl) ?_
        refine lv_iadd hx hb dX5_film_56 ?_
        refine lv_aload_n hx hb dX5_film_57 rfl (lv_at hl 0 rfl) ?_
        refine rg_X_X5_0_0 hC hK hP dX5_film_58 ?_
        refine lv_iload_n hx hb dX5_film_61 rfl (lv_at hl 1 rfl) ?_
        refine lv_iload hx hb dX5_film_62 (lv_at hl 4 rfl) ?_
        refine lv_bipush (v := (9 : Int32)) hx hb dX5_film_64 (by decide) ?_
        refine lv_isub hx hb dX5_film_66 ?_
        refine vp_callSi (xro (xr_VN hC hK.2 (cX4_givesAt_c (h := (sh h 1)) hw) ⟨rfl, rfl⟩ bw_468 calX4_givesAt ⟨Nat.le_trans (Nat.le_of_ble_eq_true rfl) hF, Nat.le_trans (Nat.le_of_ble_eq_true rfl) hL⟩ (rest := [.int (x4 + x6), .ref (h (35 + 2 * x2.toNatClampNeg))]) (xpR hK (xCut.P (cut_X_W1) hP) rfl rfl) rfl hl rfl (Nat.le_of_ble_eq_true rfl) dX5_film_67 ⟨Nat.zero_le _, Nat.zero_le _⟩)) (fun r1 hw => ?_)
        refine lv_i2l (v := (r1.toInt64)) hx hb dX5_film_70 rfl ?_
        refine xc_wv (S := wSt) (wsz := fun q => (wsX G h q)) (f := fun u => (x_sh z0 x2.toNatClampNeg u)) (xr_VN hC hK.2 (cX2_put_c (h := (sh h (35 + 2 * x2.toNatClampNeg))) hw) ⟨rfl, rfl⟩ bw_555 calX2_put ⟨Nat.le_trans (Nat.le_of_ble_eq_true rfl) hF, Nat.le_trans (Nat.le_of_ble_eq_true rfl) hL⟩ (rest := []) (xpV hK (cut_X_Hn (n := x2.toNatClampNeg) hn0) hP hD rfl rfl) rfl hl rfl (Nat.le_of_ble_eq_true rfl) dX5_film_71 ⟨Nat.zero_le _, Nat.zero_le _⟩) (cut_X_Hn (n := x2.toNatClampNeg) hn0) hP hD hS hA (fun u z1 H locs hz1 hw hP hD hS => ?_)
        have hw := hw z1 hz1
        refine lv_iinc (v := (x6 + (1 : Int32))) (lv' := [(6, .int (x6 + (1 : Int32))), (0, .ref (h 0)), (1, .int x1), (2, .int x2), (4, .int x4)]) hx hb dX5_film_74 hl (k := 4) rfl rfl (by decide) rfl (fun ls hl => ?_)
        refine lv_goto (tgt := 39) hx hb dX5_film_77 (by decide) ?_
        exact I39 x1 x2 x4 (x6 + (1 : Int32)) z1 _ _ _ hw hP hD hS (lv_sub hl [1, 2, 3, 4, 0] rfl)
  unfold wpX5_film at hw
  refine lv_aload_n hx hb dX5_film_0 rfl (lv_at hl 0 rfl) ?_
  refine rg_X_X5_0_0 hC hK hP dX5_film_1 ?_
  refine rg_X_X5_1_0 hC hK hP dX5_film_4 ?_
  refine lv_iload_n hx hb dX5_film_7 rfl (lv_at hl 1 rfl) ?_
  refine vp_callSi (xro (xr_VN hC hK.2 (cX0_has_c (h := (sh h 4)) hw) ⟨rfl, rfl⟩ bw_234 calX0_has ⟨Nat.le_trans (Nat.le_of_ble_eq_true rfl) hF, Nat.le_trans (Nat.le_of_ble_eq_true rfl) hL⟩ (rest := []) (xpR hK (xCut.P (cut_X_F4) hP) rfl rfl) rfl hl rfl (Nat.le_of_ble_eq_true rfl) dX5_film_8 ⟨Nat.zero_le _, Nat.zero_le _⟩)) (fun r1 hw => ?_)
  refine lv_if_ne (tgt := 16) hx hb dX5_film_11 (by decide) (fun hc => ?_) (fun hc => ?_)
  · have hw := And.left hw hc
    refine lv_aload_n hx hb dX5_film_16 rfl (lv_at hl 0 rfl) ?_
    refine lv_iload_n hx hb dX5_film_17 rfl (lv_at hl 2 rfl) ?_
    refine lv_iload_n hx hb dX5_film_18 rfl (lv_at hl 3 rfl) ?_
    refine lv_iload hx hb dX5_film_19 (lv_at hl 4 rfl) ?_
    refine lv_bipush (v := (19 : Int32)) hx hb dX5_film_21 (by decide) ?_
    refine vp_callSi (xro (xr_V hC (cX5_refusal_c (h := h) hw) ⟨rfl, rfl⟩ bw_528 calX5_refusal ⟨Nat.le_trans (Nat.le_of_ble_eq_true rfl) hF, Nat.le_trans (Nat.le_of_ble_eq_true rfl) hL⟩ (rest := []) (xpR hK hP rfl rfl) rfl hl rfl (Nat.le_of_ble_eq_true rfl) dX5_film_23 ⟨Nat.zero_le _, Nat.zero_le _⟩)) (fun r2 hw => ?_)
    refine lv_istore (lv' := [(5, .int r2), (0, .ref (h 0)), (1, .int x1), (2, .int x2), (3, .int x3), (4, .int x4)]) hx hb dX5_film_26 hl (by decide) rfl (fun ls hl => ?_)
    refine lv_iload hx hb dX5_film_28 (lv_at hl 0 rfl) ?_
    refine lv_if_eq (tgt := 36) hx hb dX5_film_30 (by decide) (fun hc => ?_) (fun hc => ?_)
    · have hw := And.left hw hc
      refine lv_iconst (v := (0 : Int32)) hx hb dX5_film_36 (by decide) ?_
      refine lv_istore (lv' := [(6, .int (0 : Int32)), (5, .int r2), (0, .ref (h 0)), (1, .int x1), (2, .int x2), (3, .int x3), (4, .int x4)]) hx hb dX5_film_37 hl (by decide) rfl (fun ls hl => ?_)
      obtain ⟨j39, hw⟩ := hw
      exact B39 j39 x1 x2 x4 (0 : Int32) z0 _ _ _ hw hP hD hS (lv_sub hl [2, 3, 4, 6, 0] rfl)
    · have hw := And.right hw hc
      refine lv_iload hx hb dX5_film_33 (lv_at hl 0 rfl) ?_
      exact hret _ _ _ _ _ _ hw hP hD hS dX5_film_35
  · have hw := And.right hw hc
    refine lv_iconst (v := (-1 : Int32)) hx hb dX5_film_14 (by decide) ?_
    exact hret _ _ _ _ _ _ hw hP hD hS dX5_film_15
def wpX5_sheet (x1 : Int32) (x2 : Int32) (x3 : Int32) (z0 : wXS) (post : Int32 → (wXS) → Prop) : Prop := (wpX5_isSheet x1 (fun r1 => ((r1 = 0 → (post (-1 : Int32) z0)) ∧ (¬ r1 = 0 → (wpX5_isLane x2 (fun r2 => ((r2 = 0 → (post (-1 : Int32) z0)) ∧ (¬ r2 = 0 → ((x3 ≤ (24 : Int32) → ((0 ≤ x3 → (vp_in x1 4 ∧ (wpX2_begin x2 x3 (x_h z0 x1.toNatClampNeg) (fun u => ∀ z1 : wXS, z1 = (x_sh z0 x1.toNatClampNeg u) → (post x3 z1))))) ∧ (¬ 0 ≤ x3 → (post (-14 : Int32) z0)))) ∧ (¬ x3 ≤ (24 : Int32) → (post (-1 : Int32) z0)))))))))))
set_option maxHeartbeats 4000000 in
set_option maxRecDepth 100000 in
theorem cX5_sheet_c {l : Launch} {G : wG} {h : Nat → Nat} {sz : Nat} {x1 : Int32} {x2 : Int32} {x3 : Int32} {post : Int32 → (wXS) → Prop} {z0 : wXS}  (hw : wpX5_sheet x1 x2 x3 z0 post) : Met l yX5_sheet (.code yX5_sheet cX5_sheet 4 (some .int) :: BIG) { frames := 2, cells := 0, slots := 0, locals := 42 } (xPw G [.ref (h 0), .int x1, .int x2, .int x3] (wsX G h z0) sz) (xQi G post (fun q => (wsX G h q)) (va_A (wsX G h z0) sz)) 0 0 (va_A (wsX G h z0) sz) := by
  refine xm_wi (by decide) (Nat.le_of_ble_eq_true rfl) (fun p e s m args below meth c A ls R Q hC hK hA hP hD hS hl hF hL hret => ?_)
  have hx := hC.1
  have hb := hC.2.1
  have hl : lv_has ls 4 [(0, .ref (h 0)), (1, .int x1), (2, .int x2), (3, .int x3)] := hl
  unfold wpX5_sheet at hw
  refine lv_iload_n hx hb dX5_sheet_0 rfl (lv_at hl 1 rfl) ?_
  refine vp_callSi (xro (xr_S hC (cX5_isSheet_c hw) ⟨rfl, rfl⟩ bw_532 calX5_isSheet ⟨Nat.le_trans (Nat.le_of_ble_eq_true rfl) hF, Nat.le_trans (Nat.le_of_ble_eq_true rfl) hL⟩ (rest := []) (xpS hK) rfl hl rfl (Nat.le_of_ble_eq_true rfl) dX5_sheet_1 ⟨Nat.zero_le _, Nat.zero_le _⟩)) (fun r1 hw => ?_)
  refine lv_if_eq (tgt := 20) hx hb dX5_sheet_4 (by decide) (fun hc => ?_) (fun hc => ?_)
  · have hw := And.left hw hc
    refine lv_iconst (v := (-1 : Int32)) hx hb dX5_sheet_20 (by decide) ?_
    exact hret _ _ _ _ _ _ hw hP hD hS dX5_sheet_21
  · have hw := And.right hw hc
    refine lv_iload_n hx hb dX5_sheet_7 rfl (lv_at hl 2 rfl) ?_
    refine vp_callSi (xro (xr_S hC (cX5_isLane_c hw) ⟨rfl, rfl⟩ bw_535 calX5_isLane ⟨Nat.le_trans (Nat.le_of_ble_eq_true rfl) hF, Nat.le_trans (Nat.le_of_ble_eq_true rfl) hL⟩ (rest := []) (xpS hK) rfl hl rfl (Nat.le_of_ble_eq_true rfl) dX5_sheet_8 ⟨Nat.zero_le _, Nat.zero_le _⟩)) (fun r2 hw => ?_)
    refine lv_if_eq (tgt := 20) hx hb dX5_sheet_11 (by decide) (fun hc => ?_) (fun hc => ?_)
    · have hw := And.left hw hc
      refine lv_iconst (v := (-1 : Int32)) hx hb dX5_sheet_20 (by decide) ?_
      exact hret _ _ _ _ _ _ hw hP hD hS dX5_sheet_21
    · have hw := And.right hw hc
      refine lv_iload_n hx hb dX5_sheet_14 rfl (lv_at hl 3 rfl) ?_
      refine lv_bipush (v := (24 : Int32)) hx hb dX5_sheet_15 (by decide) ?_
      refine lv_icmp_le (tgt := 22) hx hb dX5_sheet_17 (by decide) (fun hc => ?_) (fun hc => ?_)
      · have hw := And.left hw hc
        refine lv_iload_n hx hb dX5_sheet_22 rfl (lv_at hl 3 rfl) ?_
        refine lv_if_ge (tgt := 29) hx hb dX5_sheet_23 (by decide) (fun hc => ?_) (fun hc => ?_)
        · have hw := And.left hw hc
          refine lv_aload_n hx hb dX5_sheet_29 rfl (lv_at hl 0 rfl) ?_
          refine rg_X_X5_0_7 hC hK hP dX5_sheet_30 ?_
          refine lv_iload_n hx hb dX5_sheet_33 rfl (lv_at hl 1 rfl) ?_
          have hn0 := w_n4 (And.left hw)
          refine rx_ald hC hK hP (And.left hw) dX5_sheet_34 ?_
          have hw := And.right hw
          refine lv_iload_n hx hb dX5_sheet_35 rfl (lv_at hl 2 rfl) ?_
          refine lv_iload_n hx hb dX5_sheet_36 rfl (lv_at hl 3 rfl) ?_
          refine xc_wv (S := wSt) (wsz := fun q => (wsX G h q)) (f := fun u => (x_sh z0 x1.toNatClampNeg u)) (xr_VN hC hK.2 (cX2_begin_c (h := (sh h (35 + 2 * x1.toNatClampNeg))) hw) ⟨rfl, rfl⟩ bw_563 calX2_begin ⟨Nat.le_trans (Nat.le_of_ble_eq_true rfl) hF, Nat.le_trans (Nat.le_of_ble_eq_true rfl) hL⟩ (rest := []) (xpV hK (cut_X_Hn (n := x1.toNatClampNeg) hn0) hP hD rfl rfl) rfl hl rfl (Nat.le_of_ble_eq_true rfl) dX5_sheet_37 ⟨Nat.zero_le _, Nat.zero_le _⟩) (cut_X_Hn (n := x1.toNatClampNeg) hn0) hP hD hS hA (fun u z1 H locs hz1 hw hP hD hS => ?_)
          have hw := hw z1 hz1
          refine lv_iload_n hx hb dX5_sheet_40 rfl (lv_at hl 3 rfl) ?_
          exact hret _ _ _ _ _ _ hw hP hD hS dX5_sheet_41
        · have hw := And.right hw hc
          refine lv_bipush (v := (-14 : Int32)) hx hb dX5_sheet_26 (by decide) ?_
          exact hret _ _ _ _ _ _ hw hP hD hS dX5_sheet_28
      · have hw := And.right hw hc
        refine lv_iconst (v := (-1 : Int32)) hx hb dX5_sheet_20 (by decide) ?_
        exact hret _ _ _ _ _ _ hw hP hD hS dX5_sheet_21
def wpX5_drop (x1 : Int32) (z0 : wXS) (post : Int32 → (wXS) → Prop) : Prop := (wpX5_isSheet x1 (fun r1 => ((¬ r1 = 0 → (vp_in x1 4 ∧ ((¬ (w_i (x_h z0 x1.toNatClampNeg) 1) = 0 → (vp_in x1 4 ∧ (∀ z1 : wXS, z1 = (x_sh z0 x1.toNatClampNeg (w_si (x_h z0 x1.toNatClampNeg) 1 (0 : Int32))) → (vp_in x1 4 ∧ (post (w_i (x_h z1 x1.toNatClampNeg) 3) z1))))) ∧ ((w_i (x_h z0 x1.toNatClampNeg) 1) = 0 → (post (-11 : Int32) z0))))) ∧ (r1 = 0 → (post (-1 : Int32) z0)))))
set_option maxHeartbeats 4000000 in
set_option maxRecDepth 100000 in
theorem cX5_drop_c {l : Launch} {G : wG} {h : Nat → Nat} {sz : Nat} {x1 : Int32} {post : Int32 → (wXS) → Prop} {z0 : wXS}  (hw : wpX5_drop x1 z0 post) : Met l yX5_drop (.code yX5_drop cX5_drop 2 (some .int) :: BIG) { frames := 2, cells := 0, slots := 0, locals := 42 } (xPw G [.ref (h 0), .int x1] (wsX G h z0) sz) (xQi G post (fun q => (wsX G h q)) (va_A (wsX G h z0) sz)) 0 0 (va_A (wsX G h z0) sz) := by
  refine xm_wi (by decide) (Nat.le_of_ble_eq_true rfl) (fun p e s m args below meth c A ls R Q hC hK hA hP hD hS hl hF hL hret => ?_)
  have hx := hC.1
  have hb := hC.2.1
  have hl : lv_has ls 2 [(0, .ref (h 0)), (1, .int x1)] := hl
  unfold wpX5_drop at hw
  refine lv_iload_n hx hb dX5_drop_0 rfl (lv_at hl 1 rfl) ?_
  refine vp_callSi (xro (xr_S hC (cX5_isSheet_c hw) ⟨rfl, rfl⟩ bw_532 calX5_isSheet ⟨Nat.le_trans (Nat.le_of_ble_eq_true rfl) hF, Nat.le_trans (Nat.le_of_ble_eq_true rfl) hL⟩ (rest := []) (xpS hK) rfl hl rfl (Nat.le_of_ble_eq_true rfl) dX5_drop_1 ⟨Nat.zero_le _, Nat.zero_le _⟩)) (fun r1 hw => ?_)
  refine lv_if_ne (tgt := 9) hx hb dX5_drop_4 (by decide) (fun hc => ?_) (fun hc => ?_)
  · have hw := And.left hw hc
    refine lv_aload_n hx hb dX5_drop_9 rfl (lv_at hl 0 rfl) ?_
    refine rg_X_X5_0_7 hC hK hP dX5_drop_10 ?_
    refine lv_iload_n hx hb dX5_drop_13 rfl (lv_at hl 1 rfl) ?_
    have hn0 := w_n4 (And.left hw)
    refine rx_ald hC hK hP (And.left hw) dX5_drop_14 ?_
    have hw := And.right hw
    refine rg_X_X5_H_1 (n := x1.toNatClampNeg) hn0 hC hK hP dX5_drop_15 ?_
    refine lv_if_ne (tgt := 24) hx hb dX5_drop_18 (by decide) (fun hc => ?_) (fun hc => ?_)
    · have hw := And.left hw hc
      refine lv_aload_n hx hb dX5_drop_24 rfl (lv_at hl 0 rfl) ?_
      refine rg_X_X5_0_7 hC hK hP dX5_drop_25 ?_
      refine lv_iload_n hx hb dX5_drop_28 rfl (lv_at hl 1 rfl) ?_
      have hn0 := w_n4 (And.left hw)
      refine rx_ald hC hK hP (And.left hw) dX5_drop_29 ?_
      have hw := And.right hw
      refine lv_iconst (v := (0 : Int32)) hx hb dX5_drop_30 (by decide) ?_
      refine rp_X_X5_H_1 (n := x1.toNatClampNeg) hn0 (⟨rfl, rfl⟩) hC hK hP hD hS dX5_drop_31 (fun z1 H locs hz1 hP hD hS => ?_)
      have hw := hw z1 hz1
      refine lv_aload_n hx hb dX5_drop_34 rfl (lv_at hl 0 rfl) ?_
      refine rg_X_X5_0_7 hC hK hP dX5_drop_35 ?_
      refine lv_iload_n hx hb dX5_drop_38 rfl (lv_at hl 1 rfl) ?_
      have hn0 := w_n4 (And.left hw)
      refine rx_ald hC hK hP (And.left hw) dX5_drop_39 ?_
      have hw := And.right hw
      refine rg_X_X5_H_3 (n := x1.toNatClampNeg) hn0 hC hK hP dX5_drop_40 ?_
      exact hret _ _ _ _ _ _ hw hP hD hS dX5_drop_43
    · have hw := And.right hw hc
      refine lv_bipush (v := (-11 : Int32)) hx hb dX5_drop_21 (by decide) ?_
      exact hret _ _ _ _ _ _ hw hP hD hS dX5_drop_23
  · have hw := And.right hw hc
    refine lv_iconst (v := (-1 : Int32)) hx hb dX5_drop_7 (by decide) ?_
    exact hret _ _ _ _ _ _ hw hP hD hS dX5_drop_8
def wpX5_item (x1 : Int32) (x2 : Int32) (x3 : Int32) (x4 : Int64) (z0 : wXS) (post : Int32 → (wXS) → Prop) : Prop := (wpX5_refusal x1 x2 x3 (1 : Int32) z0 (fun r1 => ((r1 = 0 → (vp_in x1 4 ∧ (wpX2_put x3 x4 (x_h z0 x1.toNatClampNeg) (fun u => ∀ z1 : wXS, z1 = (x_sh z0 x1.toNatClampNeg u) → (post (1 : Int32) z1))))) ∧ (¬ r1 = 0 → (post r1 z0)))))
set_option maxHeartbeats 4000000 in
set_option maxRecDepth 100000 in
theorem cX5_item_c {l : Launch} {G : wG} {h : Nat → Nat} {sz : Nat} {x1 : Int32} {x2 : Int32} {x3 : Int32} {x4 : Int64} {post : Int32 → (wXS) → Prop} {z0 : wXS}  (hw : wpX5_item x1 x2 x3 x4 z0 post) : Met l yX5_item (.code yX5_item cX5_item 7 (some .int) :: BIG) { frames := 3, cells := 0, slots := 0, locals := 66 } (xPw G [.ref (h 0), .int x1, .int x2, .int x3, .long x4] (wsX G h z0) sz) (xQi G post (fun q => (wsX G h q)) (va_A (wsX G h z0) sz)) 0 0 (va_A (wsX G h z0) sz) := by
  refine xm_wi (by decide) (Nat.le_of_ble_eq_true rfl) (fun p e s m args below meth c A ls R Q hC hK hA hP hD hS hl hF hL hret => ?_)
  have hx := hC.1
  have hb := hC.2.1
  have hl : lv_has ls 7 [(0, .ref (h 0)), (1, .int x1), (2, .int x2), (3, .int x3), (4, .long x4)] := hl
  unfold wpX5_item at hw
  refine lv_aload_n hx hb dX5_item_0 rfl (lv_at hl 0 rfl) ?_
  refine lv_iload_n hx hb dX5_item_1 rfl (lv_at hl 1 rfl) ?_
  refine lv_iload_n hx hb dX5_item_2 rfl (lv_at hl 2 rfl) ?_
  refine lv_iload_n hx hb dX5_item_3 rfl (lv_at hl 3 rfl) ?_
  refine lv_iconst (v := (1 : Int32)) hx hb dX5_item_4 (by decide) ?_
  refine vp_callSi (xro (xr_V hC (cX5_refusal_c (h := h) hw) ⟨rfl, rfl⟩ bw_528 calX5_refusal ⟨Nat.le_trans (Nat.le_of_ble_eq_true rfl) hF, Nat.le_trans (Nat.le_of_ble_eq_true rfl) hL⟩ (rest := []) (xpR hK hP rfl rfl) rfl hl rfl (Nat.le_of_ble_eq_true rfl) dX5_item_5 ⟨Nat.zero_le _, Nat.zero_le _⟩)) (fun r1 hw => ?_)
  refine lv_istore (lv' := [(6, .int r1), (0, .ref (h 0)), (1, .int x1), (2, .int x2), (3, .int x3), (4, .long x4)]) hx hb dX5_item_8 hl (by decide) rfl (fun ls hl => ?_)
  refine lv_iload hx hb dX5_item_10 (lv_at hl 0 rfl) ?_
  refine lv_if_eq (tgt := 18) hx hb dX5_item_12 (by decide) (fun hc => ?_) (fun hc => ?_)
  · have hw := And.left hw hc
    refine lv_aload_n hx hb dX5_item_18 rfl (lv_at hl 1 rfl) ?_
    refine rg_X_X5_0_7 hC hK hP dX5_item_19 ?_
    refine lv_iload_n hx hb dX5_item_22 rfl (lv_at hl 2 rfl) ?_
    have hn0 := w_n4 (And.left hw)
    refine rx_ald hC hK hP (And.left hw) dX5_item_23 ?_
    have hw := And.right hw
    refine lv_iload_n hx hb dX5_item_24 rfl (lv_at hl 4 rfl) ?_
    refine lv_lload hx hb dX5_item_25 (lv_at hl 5 rfl) ?_
    refine xc_wv (S := wSt) (wsz := fun q => (wsX G h q)) (f := fun u => (x_sh z0 x1.toNatClampNeg u)) (xr_VN hC hK.2 (cX2_put_c (h := (sh h (35 + 2 * x1.toNatClampNeg))) hw) ⟨rfl, rfl⟩ bw_555 calX2_put ⟨Nat.le_trans (Nat.le_of_ble_eq_true rfl) hF, Nat.le_trans (Nat.le_of_ble_eq_true rfl) hL⟩ (rest := []) (xpV hK (cut_X_Hn (n := x1.toNatClampNeg) hn0) hP hD rfl rfl) rfl hl rfl (Nat.le_of_ble_eq_true rfl) dX5_item_27 ⟨Nat.zero_le _, Nat.zero_le _⟩) (cut_X_Hn (n := x1.toNatClampNeg) hn0) hP hD hS hA (fun u z1 H locs hz1 hw hP hD hS => ?_)
    have hw := hw z1 hz1
    refine lv_iconst (v := (1 : Int32)) hx hb dX5_item_30 (by decide) ?_
    exact hret _ _ _ _ _ _ hw hP hD hS dX5_item_31
  · have hw := And.right hw hc
    refine lv_iload hx hb dX5_item_15 (lv_at hl 0 rfl) ?_
    exact hret _ _ _ _ _ _ hw hP hD hS dX5_item_17
def wpX5_copy (x1 : Int32) (x2 : Int32) (x3 : Int32) (x4 : Int32) (x5 : Int32) (z0 : wXS) (post : Int32 → (wXS) → Prop) : Prop := (wpX5_isSheet x1 (fun r1 => ((r1 = 0 → (post (-1 : Int32) z0)) ∧ (¬ r1 = 0 → (wpX5_isSheet x3 (fun r2 => ((¬ r2 = 0 → (vp_in x1 4 ∧ (((w_i (x_h z0 x1.toNatClampNeg) 1) = 0 → (post (-11 : Int32) z0)) ∧ (¬ (w_i (x_h z0 x1.toNatClampNeg) 1) = 0 → (vp_in x3 4 ∧ ((¬ (w_i (x_h z0 x3.toNatClampNeg) 1) = 0 → (vp_in x1 4 ∧ (vp_in x3 4 ∧ (((w_i (x_h z0 x1.toNatClampNeg) 2) = (w_i (x_h z0 x3.toNatClampNeg) 2) → (vp_in x1 4 ∧ (wpX2_hasSpan x2 x5 (x_h z0 x1.toNatClampNeg) (fun r3 => ((r3 = 0 → (post (-13 : Int32) z0)) ∧ (¬ r3 = 0 → (vp_in x3 4 ∧ (wpX2_hasSpan x4 x5 (x_h z0 x3.toNatClampNeg) (fun r4 => ((¬ r4 = 0 → (vp_in x1 4 ∧ (vp_in x3 4 ∧ (¬ x2 < 0 ∧ ¬ x4 < 0 ∧ ¬ x5 < 0 ∧ x2.toNatClampNeg + x5.toNatClampNeg ≤ 24 ∧ x4.toNatClampNeg + x5.toNatClampNeg ≤ 24 ∧ ∀ z1 : wXS, z1 = (x_sh z0 x3.toNatClampNeg (w_sl (x_h z0 x3.toNatClampNeg) 0 (va_cpy (w_l (x_h z0 x1.toNatClampNeg) 0) (w_l (x_h z0 x3.toNatClampNeg) 0) x2.toNatClampNeg x4.toNatClampNeg x5.toNatClampNeg))) → (post x5 z1))))) ∧ (r4 = 0 → (post (-13 : Int32) z0)))))))))))) ∧ (¬ (w_i (x_h z0 x1.toNatClampNeg) 2) = (w_i (x_h z0 x3.toNatClampNeg) 2) → (post (-12 : Int32) z0)))))) ∧ ((w_i (x_h z0 x3.toNatClampNeg) 1) = 0 → (post (-11 : Int32) z0)))))))) ∧ (r2 = 0 → (post (-1 : Int32) z0)))))))))
set_option maxHeartbeats 4000000 in
set_option maxRecDepth 100000 in
theorem cX5_copy_c {l : Launch} {G : wG} {h : Nat → Nat} {sz : Nat} {x1 : Int32} {x2 : Int32} {x3 : Int32} {x4 : Int32} {x5 : Int32} {post : Int32 → (wXS) → Prop} {z0 : wXS}  (hw : wpX5_copy x1 x2 x3 x4 x5 z0 post) : Met l yX5_copy (.code yX5_copy cX5_copy 6 (some .int) :: BIG) { frames := 2, cells := 0, slots := 0, locals := 42 } (xPw G [.ref (h 0), .int x1, .int x2, .int x3, .int x4, .int x5] (wsX G h z0) sz) (xQi G post (fun q => (wsX G h q)) (va_A (wsX G h z0) sz)) 0 0 (va_A (wsX G h z0) sz) := by
  refine xm_wi (by decide) (Nat.le_of_ble_eq_true rfl) (fun p e s m args below meth c A ls R Q hC hK hA hP hD hS hl hF hL hret => ?_)
  have hx := hC.1
  have hb := hC.2.1
  have hl : lv_has ls 6 [(0, .ref (h 0)), (1, .int x1), (2, .int x2), (3, .int x3), (4, .int x4), (5, .int x5)] := hl
  unfold wpX5_copy at hw
  refine lv_iload_n hx hb dX5_copy_0 rfl (lv_at hl 1 rfl) ?_
  refine vp_callSi (xro (xr_S hC (cX5_isSheet_c hw) ⟨rfl, rfl⟩ bw_532 calX5_isSheet ⟨Nat.le_trans (Nat.le_of_ble_eq_true rfl) hF, Nat.le_trans (Nat.le_of_ble_eq_true rfl) hL⟩ (rest := []) (xpS hK) rfl hl rfl (Nat.le_of_ble_eq_true rfl) dX5_copy_1 ⟨Nat.zero_le _, Nat.zero_le _⟩)) (fun r1 hw => ?_)
  refine lv_if_eq (tgt := 14) hx hb dX5_copy_4 (by decide) (fun hc => ?_) (fun hc => ?_)
  · have hw := And.left hw hc
    refine lv_iconst (v := (-1 : Int32)) hx hb dX5_copy_14 (by decide) ?_
    exact hret _ _ _ _ _ _ hw hP hD hS dX5_copy_15
  · have hw := And.right hw hc
    refine lv_iload_n hx hb dX5_copy_7 rfl (lv_at hl 3 rfl) ?_
    refine vp_callSi (xro (xr_S hC (cX5_isSheet_c hw) ⟨rfl, rfl⟩ bw_532 calX5_isSheet ⟨Nat.le_trans (Nat.le_of_ble_eq_true rfl) hF, Nat.le_trans (Nat.le_of_ble_eq_true rfl) hL⟩ (rest := []) (xpS hK) rfl hl rfl (Nat.le_of_ble_eq_true rfl) dX5_copy_8 ⟨Nat.zero_le _, Nat.zero_le _⟩)) (fun r2 hw => ?_)
    refine lv_if_ne (tgt := 16) hx hb dX5_copy_11 (by decide) (fun hc => ?_) (fun hc => ?_)
    · have hw := And.left hw hc
      refine lv_aload_n hx hb dX5_copy_16 rfl (lv_at hl 0 rfl) ?_
      refine rg_X_X5_0_7 hC hK hP dX5_copy_17 ?_
      refine lv_iload_n hx hb dX5_copy_20 rfl (lv_at hl 1 rfl) ?_
      have hn0 := w_n4 (And.left hw)
      refine rx_ald hC hK hP (And.left hw) dX5_copy_21 ?_
      have hw := And.right hw
      refine rg_X_X5_H_1 (n := x1.toNatClampNeg) hn0 hC hK hP dX5_copy_22 ?_
      refine lv_if_eq (tgt := 40) hx hb dX5_copy_25 (by decide) (fun hc => ?_) (fun hc => ?_)
      · have hw := And.left hw hc
        refine lv_bipush (v := (-11 : Int32)) hx hb dX5_copy_40 (by decide) ?_
        exact hret _ _ _ _ _ _ hw hP hD hS dX5_copy_42
      · have hw := And.right hw hc
        refine lv_aload_n hx hb dX5_copy_28 rfl (lv_at hl 0 rfl) ?_
        refine rg_X_X5_0_7 hC hK hP dX5_copy_29 ?_
        refine lv_iload_n hx hb dX5_copy_32 rfl (lv_at hl 3 rfl) ?_
        have hn1 := w_n4 (And.left hw)
        refine rx_ald hC hK hP (And.left hw) dX5_copy_33 ?_
        have hw := And.right hw
        refine rg_X_X5_H_1 (n := x3.toNatClampNeg) hn1 hC hK hP dX5_copy_34 ?_
        refine lv_if_ne (tgt := 43) hx hb dX5_copy_37 (by decide) (fun hc => ?_) (fun hc => ?_)
        · have hw := And.left hw hc
          refine lv_aload_n hx hb dX5_copy_43 rfl (lv_at hl 0 rfl) ?_
          refine rg_X_X5_0_7 hC hK hP dX5_copy_44 ?_
          refine lv_iload_n hx hb dX5_copy_47 rfl (lv_at hl 1 rfl) ?_
          have hn0 := w_n4 (And.left hw)
          refine rx_ald hC hK hP (And.left hw) dX5_copy_48 ?_
          have hw := And.right hw
          refine rg_X_X5_H_2 (n := x1.toNatClampNeg) hn0 hC hK hP dX5_copy_49 ?_
          refine lv_aload_n hx hb dX5_copy_52 rfl (lv_at hl 0 rfl) ?_
          refine rg_X_X5_0_7 hC hK hP dX5_copy_53 ?_
          refine lv_iload_n hx hb dX5_copy_56 rfl (lv_at hl 3 rfl) ?_
          have hn1 := w_n4 (And.left hw)
          refine rx_ald hC hK hP (And.left hw) dX5_copy_57 ?_
          have hw := And.right hw
          refine rg_X_X5_H_2 (n := x3.toNatClampNeg) hn1 hC hK hP dX5_copy_58 ?_
          refine lv_icmp_eq (tgt := 67) hx hb dX5_copy_61 (by decide) (fun hc => ?_) (fun hc => ?_)
          · have hw := And.left hw hc
            refine lv_aload_n hx hb dX5_copy_67 rfl (lv_at hl 0 rfl) ?_
            refine rg_X_X5_0_7 hC hK hP dX5_copy_68 ?_
            refine lv_iload_n hx hb dX5_copy_71 rfl (lv_at hl 1 rfl) ?_
            have hn0 := w_n4 (And.left hw)
            refine rx_ald hC hK hP (And.left hw) dX5_copy_72 ?_
            have hw := And.right hw
            refine lv_iload_n hx hb dX5_copy_73 rfl (lv_at hl 2 rfl) ?_
            refine lv_iload hx hb dX5_copy_74 (lv_at hl 5 rfl) ?_
            refine vp_callSi (xro (xr_VN hC hK.2 (cX2_hasSpan_c (h := (sh h (35 + 2 * x1.toNatClampNeg))) hw) ⟨rfl, rfl⟩ bw_538 calX2_hasSpan ⟨Nat.le_trans (Nat.le_of_ble_eq_true rfl) hF, Nat.le_trans (Nat.le_of_ble_eq_true rfl) hL⟩ (rest := []) (xpR hK (xCut.P (cut_X_Hn (n := x1.toNatClampNeg) hn0) hP) rfl rfl) rfl hl rfl (Nat.le_of_ble_eq_true rfl) dX5_copy_76 ⟨Nat.zero_le _, Nat.zero_le _⟩)) (fun r3 hw => ?_)
            refine lv_if_eq (tgt := 98) hx hb dX5_copy_79 (by decide) (fun hc => ?_) (fun hc => ?_)
            · have hw := And.left hw hc
              refine lv_bipush (v := (-13 : Int32)) hx hb dX5_copy_98 (by decide) ?_
              exact hret _ _ _ _ _ _ hw hP hD hS dX5_copy_100
            · have hw := And.right hw hc
              refine lv_aload_n hx hb dX5_copy_82 rfl (lv_at hl 0 rfl) ?_
              refine rg_X_X5_0_7 hC hK hP dX5_copy_83 ?_
              refine lv_iload_n hx hb dX5_copy_86 rfl (lv_at hl 3 rfl) ?_
              have hn1 := w_n4 (And.left hw)
              refine rx_ald hC hK hP (And.left hw) dX5_copy_87 ?_
              have hw := And.right hw
              refine lv_iload hx hb dX5_copy_88 (lv_at hl 4 rfl) ?_
              refine lv_iload hx hb dX5_copy_90 (lv_at hl 5 rfl) ?_
              refine vp_callSi (xro (xr_VN hC hK.2 (cX2_hasSpan_c (h := (sh h (35 + 2 * x3.toNatClampNeg))) hw) ⟨rfl, rfl⟩ bw_538 calX2_hasSpan ⟨Nat.le_trans (Nat.le_of_ble_eq_true rfl) hF, Nat.le_trans (Nat.le_of_ble_eq_true rfl) hL⟩ (rest := []) (xpR hK (xCut.P (cut_X_Hn (n := x3.toNatClampNeg) hn1) hP) rfl rfl) rfl hl rfl (Nat.le_of_ble_eq_true rfl) dX5_copy_92 ⟨Nat.zero_le _, Nat.zero_le _⟩)) (fun r4 hw => ?_)
              refine lv_if_ne (tgt := 101) hx hb dX5_copy_95 (by decide) (fun hc => ?_) (fun hc => ?_)
              · have hw := And.left hw hc
                refine lv_aload_n hx hb dX5_copy_101 rfl (lv_at hl 0 rfl) ?_
                refine rg_X_X5_0_7 hC hK hP dX5_copy_102 ?_
                refine lv_iload_n hx hb dX5_copy_105 rfl (lv_at hl 1 rfl) ?_
                have hn0 := w_n4 (And.left hw)
                refine rx_ald hC hK hP (And.left hw) dX5_copy_106 ?_
                have hw := And.right hw
                refine rg_X_X5_H_0 (n := x1.toNatClampNeg) hn0 hC hK hP dX5_copy_107 ?_
                refine lv_iload_n hx hb dX5_copy_110 rfl (lv_at hl 2 rfl) ?_
                refine lv_aload_n hx hb dX5_copy_111 rfl (lv_at hl 0 rfl) ?_
                refine rg_X_X5_0_7 hC hK hP dX5_copy_112 ?_
                refine lv_iload_n hx hb dX5_copy_115 rfl (lv_at hl 3 rfl) ?_
                have hn1 := w_n4 (And.left hw)
                refine rx_ald hC hK hP (And.left hw) dX5_copy_116 ?_
                have hw := And.right hw
                refine rg_X_X5_H_0 (n := x3.toNatClampNeg) hn1 hC hK hP dX5_copy_117 ?_
                refine lv_iload hx hb dX5_copy_120 (lv_at hl 4 rfl) ?_
                refine lv_iload hx hb dX5_copy_122 (lv_at hl 5 rfl) ?_
                obtain ⟨h1, h2, h3, h4, h5, hw⟩ := hw
                refine rc_X_H (n1 := x1.toNatClampNeg) (n2 := x3.toNatClampNeg) hn0 hn1 hC hK hP hD hS hl (Nat.le_trans (Nat.le_of_ble_eq_true rfl) hF) (Nat.le_trans (Nat.le_of_ble_eq_true rfl) hL) h1 h2 h3 h4 h5 dX5_copy_124 (fun z1 H locs hz1 hP hD hS => ?_)
                have hw := hw z1 hz1
                refine lv_iload hx hb dX5_copy_127 (lv_at hl 5 rfl) ?_
                exact hret _ _ _ _ _ _ hw hP hD hS dX5_copy_129
              · have hw := And.right hw hc
                refine lv_bipush (v := (-13 : Int32)) hx hb dX5_copy_98 (by decide) ?_
                exact hret _ _ _ _ _ _ hw hP hD hS dX5_copy_100
          · have hw := And.right hw hc
            refine lv_bipush (v := (-12 : Int32)) hx hb dX5_copy_64 (by decide) ?_
            exact hret _ _ _ _ _ _ hw hP hD hS dX5_copy_66
        · have hw := And.right hw hc
          refine lv_bipush (v := (-11 : Int32)) hx hb dX5_copy_40 (by decide) ?_
          exact hret _ _ _ _ _ _ hw hP hD hS dX5_copy_42
    · have hw := And.right hw hc
      refine lv_iconst (v := (-1 : Int32)) hx hb dX5_copy_14 (by decide) ?_
      exact hret _ _ _ _ _ _ hw hP hD hS dX5_copy_15
