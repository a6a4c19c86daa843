def wpX6_image_2 (k2 : Int32 → (wSt) → Prop) (post : Int32 → (wSt) → Prop) (x1 : Int32) (z0 : wSt) : Prop := (((54 : Int32) ≤ x1 → (vp_in (54 : Int32) 64 ∧ ∀ z1 : wSt, z1 = (w_sa z0 31 (upd (w_a z0 31) (54 : Int32).toNatClampNeg (w_i z0 5))) → (vp_in (55 : Int32) 64 ∧ ∀ z2 : wSt, z2 = (w_sa z1 31 (upd (w_a z1 31) (55 : Int32).toNatClampNeg (w_i z1 6))) → (vp_in (56 : Int32) 64 ∧ ∀ z3 : wSt, z3 = (w_sa z2 31 (upd (w_a z2 31) (56 : Int32).toNatClampNeg (w_i z2 7))) → (vp_in (57 : Int32) 64 ∧ ∀ z4 : wSt, z4 = (w_sa z3 31 (upd (w_a z3 31) (57 : Int32).toNatClampNeg (w_i z3 8))) → (vp_in (58 : Int32) 64 ∧ ∀ z5 : wSt, z5 = (w_sa z4 31 (upd (w_a z4 31) (58 : Int32).toNatClampNeg (w_i z4 9))) → (vp_in (59 : Int32) 64 ∧ ∀ z6 : wSt, z6 = (w_sa z5 31 (upd (w_a z5 31) (59 : Int32).toNatClampNeg (w_i z5 10))) → (vp_in (60 : Int32) 64 ∧ ∀ z7 : wSt, z7 = (w_sa z6 31 (upd (w_a z6 31) (60 : Int32).toNatClampNeg (w_i z6 11))) → (vp_in (61 : Int32) 64 ∧ ∀ z8 : wSt, z8 = (w_sa z7 31 (upd (w_a z7 31) (61 : Int32).toNatClampNeg (w_i z7 12))) → (vp_in (62 : Int32) 64 ∧ ∀ z9 : wSt, z9 = (w_sa z8 31 (upd (w_a z8 31) (62 : Int32).toNatClampNeg (w_i z8 14))) → (vp_in (63 : Int32) 64 ∧ ∀ z10 : wSt, z10 = (w_sa z9 31 (upd (w_a z9 31) (63 : Int32).toNatClampNeg (w_i z9 15))) → (∀ z11 : wSt, z11 = (w_si z10 30 (1 : Int32)) → (post (1 : Int32) z11))))))))))))) ∧ (¬ (54 : Int32) ≤ x1 → (wpX6_carried x1 (0 : Int32) (0 : Int32) z0 (fun r1 u => ∀ z12 : wSt, z12 = u → (vp_in x1 64 ∧ ∀ z13 : wSt, z13 = (w_sa z12 31 (upd (w_a z12 31) x1.toNatClampNeg r1)) → (k2 (x1 + (1 : Int32)) z13))))))
def wpX6_image_L2  (post : Int32 → (wSt) → Prop) : Nat → Int32 → (wSt) → Prop
  | 0 => fun _ _ => False
  | n + 1 => fun x1 z0 => wpX6_image_2  (wpX6_image_L2  post n) post x1 z0
def wpX6_image (z0 : wSt) (post : Int32 → (wSt) → Prop) : Prop := (∃ n, wpX6_image_L2  post n (0 : Int32) z0)
set_option maxHeartbeats 4000000 in
set_option maxRecDepth 100000 in
theorem cX6_image_c {l : Launch} {G : wG} {h : Nat → Nat} {sz : Nat}  {post : Int32 → (wSt) → Prop} {z0 : wSt}  (hw : wpX6_image z0 post) : Met l yX6_image (.code yX6_image cX6_image 2 (some .int) :: BIG) { frames := 1, cells := 0, slots := 0, locals := 25 } (xPw G [.ref (h 0)] (wsM G h z0) sz) (xQi G post (fun q => (wsM G h q)) (va_A (wsM G h z0) sz)) 0 0 (va_A (wsM G h z0) sz) := by
  refine xm_wi (by decide) (Nat.le_of_ble_eq_true rfl) (fun p e s m args below meth c A ls R Q hC hK hA hP hD hS hl hF hL hret => ?_)
  have hx := hC.1
  have hb := hC.2.1
  have hl : lv_has ls 2 [(0, .ref (h 0))] := hl
  have B2 : ∀ n2 : Nat, ∀ (x1 : Int32) (z0 : wSt) (H : Heap) (locs : List Loc) (ls : Array Slot), wpX6_image_L2  post n2 x1 z0 → va_P G.1 vwCl (wsM G h z0) H → va_D A (wsM G h z0) → va_S A s.heap H locs → lv_has ls 2 [(0, .ref (h 0)), (1, .int x1)] → W p l e R s m args below meth c H locs 0 0 Q (F0 m 2 ls []) := by
    intro n2
    induction n2 with
    | zero => intro x1 z0 H locs ls hw hP hD hS hl; exact False.elim hw
    | succ n2 I2 =>
      intro x1 z0 H locs ls hw hP hD hS hl
      have hw : wpX6_image_2  (wpX6_image_L2  post n2) post x1 z0 := hw
      unfold wpX6_image_2 at hw
      refine lv_iload_n hx hb dX6_image_2 rfl (lv_at hl 1 rfl) ?_
      refine lv_bipush (v := (54 : Int32)) hx hb dX6_image_3 (by decide) ?_
      refine lv_icmp_ge (tgt := 27) hx hb dX6_image_5 (by decide) (fun hc => ?_) (fun hc => ?_)
      · have hw := And.left hw hc
        refine lv_aload_n hx hb dX6_image_27 rfl (lv_at hl 0 rfl) ?_
        refine rg_M_X6_0_31 hC hK hP dX6_image_28 ?_
        refine lv_bipush (v := (54 : Int32)) hx hb dX6_image_31 (by decide) ?_
        refine lv_aload_n hx hb dX6_image_33 rfl (lv_at hl 0 rfl) ?_
        refine rg_M_X6_0_5 hC hK hP dX6_image_34 ?_
        refine rs_M_12 hC hK hP hD hS (And.left hw) dX6_image_37 (fun z1 H locs hz1 hP hD hS => ?_)
        have hw := And.right hw z1 hz1
        refine lv_aload_n hx hb dX6_image_38 rfl (lv_at hl 0 rfl) ?_
        refine rg_M_X6_0_31 hC hK hP dX6_image_39 ?_
        refine lv_bipush (v := (55 : Int32)) hx hb dX6_image_42 (by decide) ?_
        refine lv_aload_n hx hb dX6_image_44 rfl (lv_at hl 0 rfl) ?_
        refine rg_M_X6_0_6 hC hK hP dX6_image_45 ?_
        refine rs_M_12 hC hK hP hD hS (And.left hw) dX6_image_48 (fun z2 H locs hz1 hP hD hS => ?_)
        have hw := And.right hw z2 hz1
        refine lv_aload_n hx hb dX6_image_49 rfl (lv_at hl 0 rfl) ?_
        refine rg_M_X6_0_31 hC hK hP dX6_image_50 ?_
        refine lv_bipush (v := (56 : Int32)) hx hb dX6_image_53 (by decide) ?_
        refine lv_aload_n hx hb dX6_image_55 rfl (lv_at hl 0 rfl) ?_
        refine rg_M_X6_0_7 hC hK hP dX6_image_56 ?_
        refine rs_M_12 hC hK hP hD hS (And.left hw) dX6_image_59 (fun z3 H locs hz1 hP hD hS => ?_)
        have hw := And.right hw z3 hz1
        refine lv_aload_n hx hb dX6_image_60 rfl (lv_at hl 0 rfl) ?_
        refine rg_M_X6_0_31 hC hK hP dX6_image_61 ?_
        refine lv_bipush (v := (57 : Int32)) hx hb dX6_image_64 (by decide) ?_
        refine lv_aload_n hx hb dX6_image_66 rfl (lv_at hl 0 rfl) ?_
        refine rg_M_X6_0_8 hC hK hP dX6_image_67 ?_
        refine rs_M_12 hC hK hP hD hS (And.left hw) dX6_image_70 (fun z4 H locs hz1 hP hD hS => ?_)
        have hw := And.right hw z4 hz1
        refine lv_aload_n hx hb dX6_image_71 rfl (lv_at hl 0 rfl) ?_
        refine rg_M_X6_0_31 hC hK hP dX6_image_72 ?_
        refine lv_bipush (v := (58 : Int32)) hx hb dX6_image_75 (by decide) ?_
        refine lv_aload_n hx hb dX6_image_77 rfl (lv_at hl 0 rfl) ?_
        refine rg_M_X6_0_9 hC hK hP dX6_image_78 ?_
        refine rs_M_12 hC hK hP hD hS (And.left hw) dX6_image_81 (fun z5 H locs hz1 hP hD hS => ?_)
        have hw := And.right hw z5 hz1
        refine lv_aload_n hx hb dX6_image_82 rfl (lv_at hl 0 rfl) ?_
        refine rg_M_X6_0_31 hC hK hP dX6_image_83 ?_
        refine lv_bipush (v := (59 : Int32)) hx hb dX6_image_86 (by decide) ?_
        refine lv_aload_n hx hb dX6_image_88 rfl (lv_at hl 0 rfl) ?_
        refine rg_M_X6_0_10 hC hK hP dX6_image_89 ?_
        refine rs_M_12 hC hK hP hD hS (And.left hw) dX6_image_92 (fun z6 H locs hz1 hP hD hS => ?_)
        have hw := And.right hw z6 hz1
        refine lv_aload_n hx hb dX6_image_93 rfl (lv_at hl 0 rfl) ?_
        refine rg_M_X6_0_31 hC hK hP dX6_image_94 ?_
        refine lv_bipush (v := (60 : Int32)) hx hb dX6_image_97 (by decide) ?_
        refine lv_aload_n hx hb dX6_image_99 rfl (lv_at hl 0 rfl) ?_
        refine rg_M_X6_0_11 hC hK hP dX6_image_100 ?_
        refine rs_M_12 hC hK hP hD hS (And.left hw) dX6_image_103 (fun z7 H locs hz1 hP hD hS => ?_)
        have hw := And.right hw z7 hz1
        refine lv_aload_n hx hb dX6_image_104 rfl (lv_at hl 0 rfl) ?_
        refine rg_M_X6_0_31 hC hK hP dX6_image_105 ?_
        refine lv_bipush (v := (61 : Int32)) hx hb dX6_image_108 (by decide) ?_
        refine lv_aload_n hx hb dX6_image_110 rfl (lv_at hl 0 rfl) ?_
        refine rg_M_X6_0_12 hC hK hP dX6_image_111 ?_
        refine rs_M_12 hC hK hP hD hS (And.left hw) dX6_image_114 (fun z8 H locs hz1 hP hD hS => ?_)
        have hw := And.right hw z8 hz1
        refine lv_aload_n hx hb dX6_image_115 rfl (lv_at hl 0 rfl) ?_
        refine rg_M_X6_0_31 hC hK hP dX6_image_116 ?_
        refine lv_bipush (v := (62 : Int32)) hx hb dX6_image_119 (by decide) ?_
        refine lv_aload_n hx hb dX6_image_121 rfl (lv_at hl 0 rfl) ?_
        refine rg_M_X6_0_14 hC hK hP dX6_image_122 ?_
        refine rs_M_12 hC hK hP hD hS (And.left hw) dX6_image_125 (fun z9 H locs hz1 hP hD hS => ?_)
        have hw := And.right hw z9 hz1
        refine lv_aload_n hx hb dX6_image_126 rfl (lv_at hl 0 rfl) ?_
        refine rg_M_X6_0_31 hC hK hP dX6_image_127 ?_
        refine lv_bipush (v := (63 : Int32)) hx hb dX6_image_130 (by decide) ?_
        refine lv_aload_n hx hb dX6_image_132 rfl (lv_at hl 0 rfl) ?_
        refine rg_M_X6_0_15 hC hK hP dX6_image_133 ?_
        refine rs_M_12 hC hK hP hD hS (And.left hw) dX6_image_136 (fun z10 H locs hz1 hP hD hS => ?_)
        have hw := And.right hw z10 hz1
        refine lv_aload_n hx hb dX6_image_137 rfl (lv_at hl 0 rfl) ?_
        refine lv_iconst (v := (1 : Int32)) hx hb dX6_image_138 (by decide) ?_
        refine rp_M_X6_0_30 (⟨rfl, rfl⟩) hC hK hP hD hS dX6_image_139 (fun z11 H locs hz1 hP hD hS => ?_)
        have hw := hw z11 hz1
        refine lv_iconst (v := (1 : Int32)) hx hb dX6_image_142 (by decide) ?_
        exact hret _ _ _ _ _ _ hw hP hD hS dX6_image_143
      · have hw := And.right hw hc
        refine lv_aload_n hx hb dX6_image_8 rfl (lv_at hl 0 rfl) ?_
        refine rg_M_X6_0_31 hC hK hP dX6_image_9 ?_
        refine lv_iload_n hx hb dX6_image_12 rfl (lv_at hl 1 rfl) ?_
        refine lv_aload_n hx hb dX6_image_13 rfl (lv_at hl 0 rfl) ?_
        refine lv_iload_n hx hb dX6_image_14 rfl (lv_at hl 1 rfl) ?_
        refine lv_iconst (v := (0 : Int32)) hx hb dX6_image_15 (by decide) ?_
        refine lv_iconst (v := (0 : Int32)) hx hb dX6_image_16 (by decide) ?_
        refine xc_wi (S := wSt) (wsz := fun q => (wsM G h q)) (f := fun u => u) (xr_V hC (cX6_carried_c (h := h) hw) ⟨rfl, rfl⟩ bw_891 calX6_carried ⟨Nat.le_trans (Nat.le_of_ble_eq_true rfl) hF, Nat.le_trans (Nat.le_of_ble_eq_true rfl) hL⟩ (rest := [.int x1, .ref (h 12)]) (xpV hK (cut_all_M) hP hD rfl rfl) rfl hl rfl (Nat.le_of_ble_eq_true rfl) dX6_image_17 ⟨Nat.zero_le _, Nat.zero_le _⟩) (cut_all_M) hP hD hS hA (fun r1 u z12 H locs hz1 hw hP hD hS => ?_)
        have hw := hw z12 hz1
        refine rs_M_12 hC hK hP hD hS (And.left hw) dX6_image_20 (fun z13 H locs hz1 hP hD hS => ?_)
        have hw := And.right hw z13 hz1
        refine lv_iinc (v := (x1 + (1 : Int32))) (lv' := [(1, .int (x1 + (1 : Int32))), (0, .ref (h 0))]) hx hb dX6_image_21 hl (k := 1) rfl rfl (by decide) rfl (fun ls hl => ?_)
        refine lv_goto (tgt := 2) hx hb dX6_image_24 (by decide) ?_
        exact I2 (x1 + (1 : Int32)) z13 _ _ _ hw hP hD hS (lv_sub hl [1, 0] rfl)
  unfold wpX6_image at hw
  refine lv_iconst (v := (0 : Int32)) hx hb dX6_image_0 (by decide) ?_
  refine lv_istore_n (lv' := [(1, .int (0 : Int32)), (0, .ref (h 0))]) hx hb dX6_image_1 rfl hl (by decide) rfl (fun ls hl => ?_)
  obtain ⟨j2, hw⟩ := hw
  exact B2 j2 (0 : Int32) z0 _ _ _ hw hP hD hS (lv_sub hl [1, 0] rfl)
def wpX6_restore_12 (k12 : Int32 → (wSt) → Prop) (post : Int32 → (wSt) → Prop) (x1 : Int32) (z0 : wSt) : Prop := (((54 : Int32) ≤ x1 → (vp_in (54 : Int32) 64 ∧ (∀ z1 : wSt, z1 = (w_si z0 5 ((w_a z0 31) (54 : Int32).toNatClampNeg)) → (vp_in (55 : Int32) 64 ∧ (∀ z2 : wSt, z2 = (w_si z1 6 ((w_a z1 31) (55 : Int32).toNatClampNeg)) → (vp_in (56 : Int32) 64 ∧ (∀ z3 : wSt, z3 = (w_si z2 7 ((w_a z2 31) (56 : Int32).toNatClampNeg)) → (vp_in (57 : Int32) 64 ∧ (∀ z4 : wSt, z4 = (w_si z3 8 ((w_a z3 31) (57 : Int32).toNatClampNeg)) → (vp_in (58 : Int32) 64 ∧ (∀ z5 : wSt, z5 = (w_si z4 9 ((w_a z4 31) (58 : Int32).toNatClampNeg)) → (vp_in (59 : Int32) 64 ∧ (∀ z6 : wSt, z6 = (w_si z5 10 ((w_a z5 31) (59 : Int32).toNatClampNeg)) → (vp_in (60 : Int32) 64 ∧ (∀ z7 : wSt, z7 = (w_si z6 11 ((w_a z6 31) (60 : Int32).toNatClampNeg)) → (vp_in (61 : Int32) 64 ∧ (∀ z8 : wSt, z8 = (w_si z7 12 ((w_a z7 31) (61 : Int32).toNatClampNeg)) → (vp_in (62 : Int32) 64 ∧ (∀ z9 : wSt, z9 = (w_si z8 14 ((w_a z8 31) (62 : Int32).toNatClampNeg)) → (vp_in (63 : Int32) 64 ∧ (∀ z10 : wSt, z10 = (w_si z9 15 ((w_a z9 31) (63 : Int32).toNatClampNeg)) → (post (1 : Int32) z10)))))))))))))))))))))) ∧ (¬ (54 : Int32) ≤ x1 → (vp_in x1 64 ∧ (wpX6_carried x1 ((w_a z0 31) x1.toNatClampNeg) (1 : Int32) z0 (fun r1 u => ∀ z11 : wSt, z11 = u → (k12 (x1 + (1 : Int32)) z11))))))
def wpX6_restore_L12  (post : Int32 → (wSt) → Prop) : Nat → Int32 → (wSt) → Prop
  | 0 => fun _ _ => False
  | n + 1 => fun x1 z0 => wpX6_restore_12  (wpX6_restore_L12  post n) post x1 z0
def wpX6_restore (z0 : wSt) (post : Int32 → (wSt) → Prop) : Prop := ((¬ (w_i z0 30) = 0 → (∃ n, wpX6_restore_L12  post n (0 : Int32) z0)) ∧ ((w_i z0 30) = 0 → (post (-4 : Int32) z0)))
set_option maxHeartbeats 4000000 in
set_option maxRecDepth 100000 in
theorem cX6_restore_c {l : Launch} {G : wG} {h : Nat → Nat} {sz : Nat}  {post : Int32 → (wSt) → Prop} {z0 : wSt}  (hw : wpX6_restore z0 post) : Met l yX6_restore (.code yX6_restore cX6_restore 2 (some .int) :: BIG) { frames := 1, cells := 0, slots := 0, locals := 25 } (xPw G [.ref (h 0)] (wsM G h z0) sz) (xQi G post (fun q => (wsM G h q)) (va_A (wsM G h z0) sz)) 0 0 (va_A (wsM G h z0) sz) := by
  refine xm_wi (by decide) (Nat.le_of_ble_eq_true rfl) (fun p e s m args below meth c A ls R Q hC hK hA hP hD hS hl hF hL hret => ?_)
  have hx := hC.1
  have hb := hC.2.1
  have hl : lv_has ls 2 [(0, .ref (h 0))] := hl
  have B12 : ∀ n12 : Nat, ∀ (x1 : Int32) (z0 : wSt) (H : Heap) (locs : List Loc) (ls : Array Slot), wpX6_restore_L12  post n12 x1 z0 → va_P G.1 vwCl (wsM G h z0) H → va_D A (wsM G h z0) → va_S A s.heap H locs → lv_has ls 2 [(0, .ref (h 0)), (1, .int x1)] → W p l e R s m args below meth c H locs 0 0 Q (F0 m 12 ls []) := by
    intro n12
    induction n12 with
    | zero => intro x1 z0 H locs ls hw hP hD hS hl; exact False.elim hw
    | succ n12 I12 =>
      intro x1 z0 H locs ls hw hP hD hS hl
      have hw : wpX6_restore_12  (wpX6_restore_L12  post n12) post x1 z0 := hw
      unfold wpX6_restore_12 at hw
      refine lv_iload_n hx hb dX6_restore_12 rfl (lv_at hl 1 rfl) ?_
      refine lv_bipush (v := (54 : Int32)) hx hb dX6_restore_13 (by decide) ?_
      refine lv_icmp_ge (tgt := 37) hx hb dX6_restore_15 (by decide) (fun hc => ?_) (fun hc => ?_)
      · have hw := And.left hw hc
        refine lv_aload_n hx hb dX6_restore_37 rfl (lv_at hl 0 rfl) ?_
        refine lv_aload_n hx hb dX6_restore_38 rfl (lv_at hl 0 rfl) ?_
        refine rg_M_X6_0_31 hC hK hP dX6_restore_39 ?_
        refine lv_bipush (v := (54 : Int32)) hx hb dX6_restore_42 (by decide) ?_
        refine rl_M_12 hC hK hP (And.left hw) dX6_restore_44 ?_
        have hw := And.right hw
        refine rp_M_X6_0_5 hC hK hP hD hS dX6_restore_45 (fun z1 H locs hz1 hP hD hS => ?_)
        have hw := hw z1 hz1
        refine lv_aload_n hx hb dX6_restore_48 rfl (lv_at hl 0 rfl) ?_
        refine lv_aload_n hx hb dX6_restore_49 rfl (lv_at hl 0 rfl) ?_
        refine rg_M_X6_0_31 hC hK hP dX6_restore_50 ?_
        refine lv_bipush (v := (55 : Int32)) hx hb dX6_restore_53 (by decide) ?_
        refine rl_M_12 hC hK hP (And.left hw) dX6_restore_55 ?_
        have hw := And.right hw
        refine rp_M_X6_0_6 hC hK hP hD hS dX6_restore_56 (fun z2 H locs hz1 hP hD hS => ?_)
        have hw := hw z2 hz1
        refine lv_aload_n hx hb dX6_restore_59 rfl (lv_at hl 0 rfl) ?_
        refine lv_aload_n hx hb dX6_restore_60 rfl (lv_at hl 0 rfl) ?_
        refine rg_M_X6_0_31 hC hK hP dX6_restore_61 ?_
        refine lv_bipush (v := (56 : Int32)) hx hb dX6_restore_64 (by decide) ?_
        refine rl_M_12 hC hK hP (And.left hw) dX6_restore_66 ?_
        have hw := And.right hw
        refine rp_M_X6_0_7 hC hK hP hD hS dX6_restore_67 (fun z3 H locs hz1 hP hD hS => ?_)
        have hw := hw z3 hz1
        refine lv_aload_n hx hb dX6_restore_70 rfl (lv_at hl 0 rfl) ?_
        refine lv_aload_n hx hb dX6_restore_71 rfl (lv_at hl 0 rfl) ?_
        refine rg_M_X6_0_31 hC hK hP dX6_restore_72 ?_
        refine lv_bipush (v := (57 : Int32)) hx hb dX6_restore_75 (by decide) ?_
        refine rl_M_12 hC hK hP (And.left hw) dX6_restore_77 ?_
        have hw := And.right hw
        refine rp_M_X6_0_8 hC hK hP hD hS dX6_restore_78 (fun z4 H locs hz1 hP hD hS => ?_)
        have hw := hw z4 hz1
        refine lv_aload_n hx hb dX6_restore_81 rfl (lv_at hl 0 rfl) ?_
        refine lv_aload_n hx hb dX6_restore_82 rfl (lv_at hl 0 rfl) ?_
        refine rg_M_X6_0_31 hC hK hP dX6_restore_83 ?_
        refine lv_bipush (v := (58 : Int32)) hx hb dX6_restore_86 (by decide) ?_
        refine rl_M_12 hC hK hP (And.left hw) dX6_restore_88 ?_
        have hw := And.right hw
        refine rp_M_X6_0_9 hC hK hP hD hS dX6_restore_89 (fun z5 H locs hz1 hP hD hS => ?_)
        have hw := hw z5 hz1
        refine lv_aload_n hx hb dX6_restore_92 rfl (lv_at hl 0 rfl) ?_
        refine lv_aload_n hx hb dX6_restore_93 rfl (lv_at hl 0 rfl) ?_
        refine rg_M_X6_0_31 hC hK hP dX6_restore_94 ?_
        refine lv_bipush (v := (59 : Int32)) hx hb dX6_restore_97 (by decide) ?_
        refine rl_M_12 hC hK hP (And.left hw) dX6_restore_99 ?_
        have hw := And.right hw
        refine rp_M_X6_0_10 hC hK hP hD hS dX6_restore_100 (fun z6 H locs hz1 hP hD hS => ?_)
        have hw := hw z6 hz1
        refine lv_aload_n hx hb dX6_restore_103 rfl (lv_at hl 0 rfl) ?_
        refine lv_aload_n hx hb dX6_restore_104 rfl (lv_at hl 0 rfl) ?_
        refine rg_M_X6_0_31 hC hK hP dX6_restore_105 ?_
        refine lv_bipush (v := (60 : Int32)) hx hb dX6_restore_108 (by decide) ?_
        refine rl_M_12 hC hK hP (And.left hw) dX6_restore_110 ?_
        have hw := And.right hw
        refine rp_M_X6_0_11 hC hK hP hD hS dX6_restore_111 (fun z7 H locs hz1 hP hD hS => ?_)
        have hw := hw z7 hz1
        refine lv_aload_n hx hb dX6_restore_114 rfl (lv_at hl 0 rfl) ?_
        refine lv_aload_n hx hb dX6_restore_115 rfl (lv_at hl 0 rfl) ?_
        refine rg_M_X6_0_31 hC hK hP dX6_restore_116 ?_
        refine lv_bipush (v := (61 : Int32)) hx hb dX6_restore_119 (by decide) ?_
        refine rl_M_12 hC hK hP (And.left hw) dX6_restore_121 ?_
        have hw := And.right hw
        refine rp_M_X6_0_12 hC hK hP hD hS dX6_restore_122 (fun z8 H locs hz1 hP hD hS => ?_)
        have hw := hw z8 hz1
        refine lv_aload_n hx hb dX6_restore_125 rfl (lv_at hl 0 rfl) ?_
        refine lv_aload_n hx hb dX6_restore_126 rfl (lv_at hl 0 rfl) ?_
        refine rg_M_X6_0_31 hC hK hP dX6_restore_127 ?_
        refine lv_bipush (v := (62 : Int32)) hx hb dX6_restore_130 (by decide) ?_
        refine rl_M_12 hC hK hP (And.left hw) dX6_restore_132 ?_
        have hw := And.right hw
        refine rp_M_X6_0_14 hC hK hP hD hS dX6_restore_133 (fun z9 H locs hz1 hP hD hS => ?_)
        have hw := hw z9 hz1
        refine lv_aload_n hx hb dX6_restore_136 rfl (lv_at hl 0 rfl) ?_
        refine lv_aload_n hx hb dX6_restore_137 rfl (lv_at hl 0 rfl) ?_
        refine rg_M_X6_0_31 hC hK hP dX6_restore_138 ?_
        refine lv_bipush (v := (63 : Int32)) hx hb dX6_restore_141 (by decide) ?_
        refine rl_M_12 hC hK hP (And.left hw) dX6_restore_143 ?_
        have hw := And.right hw
        refine rp_M_X6_0_15 hC hK hP hD hS dX6_restore_144 (fun z10 H locs hz1 hP hD hS => ?_)
        have hw := hw z10 hz1
        refine lv_iconst (v := (1 : Int32)) hx hb dX6_restore_147 (by decide) ?_
        exact hret _ _ _ _ _ _ hw hP hD hS dX6_restore_148
      · have hw := And.right hw hc
        refine lv_aload_n hx hb dX6_restore_18 rfl (lv_at hl 0 rfl) ?_
        refine lv_iload_n hx hb dX6_restore_19 rfl (lv_at hl 1 rfl) ?_
        refine lv_aload_n hx hb dX6_restore_20 rfl (lv_at hl 0 rfl) ?_
        refine rg_M_X6_0_31 hC hK hP dX6_restore_21 ?_
        refine lv_iload_n hx hb dX6_restore_24 rfl (lv_at hl 1 rfl) ?_
        refine rl_M_12 hC hK hP (And.left hw) dX6_restore_25 ?_
        have hw := And.right hw
        refine lv_iconst (v := (1 : Int32)) hx hb dX6_restore_26 (by decide) ?_
        refine xc_wi (S := wSt) (wsz := fun q => (wsM G h q)) (f := fun u => u) (xr_V hC (cX6_carried_c (h := h) hw) ⟨rfl, rfl⟩ bw_891 calX6_carried ⟨Nat.le_trans (Nat.le_of_ble_eq_true rfl) hF, Nat.le_trans (Nat.le_of_ble_eq_true rfl) hL⟩ (rest := []) (xpV hK (cut_all_M) hP hD rfl rfl) rfl hl rfl (Nat.le_of_ble_eq_true rfl) dX6_restore_27 ⟨Nat.zero_le _, Nat.zero_le _⟩) (cut_all_M) hP hD hS hA (fun r1 u z11 H locs hz1 hw hP hD hS => ?_)
        have hw := hw z11 hz1
        refine lv_pop hx hb dX6_restore_30 rfl ?_
        refine lv_iinc (v := (x1 + (1 : Int32))) (lv' := [(1, .int (x1 + (1 : Int32))), (0, .ref (h 0))]) hx hb dX6_restore_31 hl (k := 1) rfl rfl (by decide) rfl (fun ls hl => ?_)
        refine lv_goto (tgt := 12) hx hb dX6_restore_34 (by decide) ?_
        exact I12 (x1 + (1 : Int32)) z11 _ _ _ hw hP hD hS (lv_sub hl [1, 0] rfl)
  unfold wpX6_restore at hw
  refine lv_aload_n hx hb dX6_restore_0 rfl (lv_at hl 0 rfl) ?_
  refine rg_M_X6_0_30 hC hK hP dX6_restore_1 ?_
  refine lv_if_ne (tgt := 10) hx hb dX6_restore_4 (by decide) (fun hc => ?_) (fun hc => ?_)
  · have hw := And.left hw hc
    refine lv_iconst (v := (0 : Int32)) hx hb dX6_restore_10 (by decide) ?_
    refine lv_istore_n (lv' := [(1, .int (0 : Int32)), (0, .ref (h 0))]) hx hb dX6_restore_11 rfl hl (by decide) rfl (fun ls hl => ?_)
    obtain ⟨j12, hw⟩ := hw
    exact B12 j12 (0 : Int32) z0 _ _ _ hw hP hD hS (lv_sub hl [1, 0] rfl)
  · have hw := And.right hw hc
    refine lv_bipush (v := (-4 : Int32)) hx hb dX6_restore_7 (by decide) ?_
    exact hret _ _ _ _ _ _ hw hP hD hS dX6_restore_9
def wpX6_isSheet (x0 : Int32) (x1 : Int32) (post : Int32 → Prop) : Prop := (wpX6_in (x0.toInt64) (0 : Int64) (3 : Int64) (fun r1 => ((r1 = 0 → (post (0 : Int32))) ∧ (¬ r1 = 0 → (wpX6_in (x1.toInt64) (0 : Int64) (2 : Int64) (fun r2 => ((r2 = 0 → (post (0 : Int32))) ∧ (¬ r2 = 0 → (post (1 : Int32))))))))))
set_option maxHeartbeats 4000000 in
set_option maxRecDepth 100000 in
theorem cX6_isSheet_c {l : Launch} {G : wG} {x0 : Int32} {x1 : Int32} {post : Int32 → Prop}  (hw : wpX6_isSheet x0 x1 post) : Met l yX6_isSheet (.code yX6_isSheet cX6_isSheet 2 (some .boolean) :: BIG) { frames := 1, cells := 0, slots := 0, locals := 25 } (xPr G [.int x0, .int x1] ([] : va_W)) (vp_Si post) 0 0 (fun _ => False) := by
  refine xm_rz (by decide) (Nat.le_of_ble_eq_true rfl) (fun p e s m args below meth c ls R Q hC hK hP hl hF hL hret => ?_)
  have hx := hC.1
  have hb := hC.2.1
  have hl : lv_has ls 2 [(0, .int x0), (1, .int x1)] := hl
  unfold wpX6_isSheet at hw
  refine lv_iload_n hx hb dX6_isSheet_0 rfl (lv_at hl 0 rfl) ?_
  refine lv_i2l (v := (x0.toInt64)) hx hb dX6_isSheet_1 rfl ?_
  refine lv_lconst (v := (0 : Int64)) hx hb dX6_isSheet_2 (by decide) ?_
  refine lv_ldc2 (v := (3 : Int64)) hx hb hC.2.2.2.1 (hC.2.2.2.2 _ bw_699) dX6_isSheet_3 ?_
  refine vp_callSi (xro (xr_S hC (cX6_in_c hw) ⟨rfl, rfl⟩ bw_700 calX6_in ⟨Nat.le_trans (Nat.le_of_ble_eq_true rfl) hF, Nat.le_trans (Nat.le_of_ble_eq_true rfl) hL⟩ (rest := []) (xpS hK) rfl hl rfl (Nat.le_of_ble_eq_true rfl) dX6_isSheet_6 ⟨Nat.zero_le _, Nat.zero_le _⟩)) (fun r1 hw => ?_)
  refine lv_if_eq (tgt := 28) hx hb dX6_isSheet_9 (by decide) (fun hc => ?_) (fun hc => ?_)
  · have hw := And.left hw hc
    refine lv_iconst (v := (0 : Int32)) hx hb dX6_isSheet_28 (by decide) ?_
    exact hret _ _ _ rfl hw dX6_isSheet_29
  · have hw := And.right hw hc
    refine lv_iload_n hx hb dX6_isSheet_12 rfl (lv_at hl 1 rfl) ?_
    refine lv_i2l (v := (x1.toInt64)) hx hb dX6_isSheet_13 rfl ?_
    refine lv_lconst (v := (0 : Int64)) hx hb dX6_isSheet_14 (by decide) ?_
    refine lv_ldc2 (v := (2 : Int64)) hx hb hC.2.2.2.1 (hC.2.2.2.2 _ bw_731) dX6_isSheet_15 ?_
    refine vp_callSi (xro (xr_S hC (cX6_in_c hw) ⟨rfl, rfl⟩ bw_700 calX6_in ⟨Nat.le_trans (Nat.le_of_ble_eq_true rfl) hF, Nat.le_trans (Nat.le_of_ble_eq_true rfl) hL⟩ (rest := []) (xpS hK) rfl hl rfl (Nat.le_of_ble_eq_true rfl) dX6_isSheet_18 ⟨Nat.zero_le _, Nat.zero_le _⟩)) (fun r2 hw => ?_)
    refine lv_if_eq (tgt := 28) hx hb dX6_isSheet_21 (by decide) (fun hc => ?_) (fun hc => ?_)
    · have hw := And.left hw hc
      refine lv_iconst (v := (0 : Int32)) hx hb dX6_isSheet_28 (by decide) ?_
      exact hret _ _ _ rfl hw dX6_isSheet_29
    · have hw := And.right hw hc
      refine lv_iconst (v := (1 : Int32)) hx hb dX6_isSheet_24 (by decide) ?_
      refine lv_goto (tgt := 29) hx hb dX6_isSheet_25 (by decide) ?_
      exact hret _ _ _ rfl hw dX6_isSheet_29
def wpX6_asLane (x0 : Int32) (x1 : Int64) (post : Int64 → Prop) : Prop := ((¬ x0 = 0 → ((¬ x0 = (1 : Int32) → (post x1)) ∧ (x0 = (1 : Int32) → (post ((x1 <<< ((48 : Int32).toInt64 &&& 63)) >>> ((48 : Int32).toInt64 &&& 63)))))) ∧ (x0 = 0 → (post ((x1 <<< ((56 : Int32).toInt64 &&& 63)) >>> ((56 : Int32).toInt64 &&& 63)))))
set_option maxHeartbeats 4000000 in
set_option maxRecDepth 100000 in
theorem cX6_asLane_c {l : Launch} {G : wG} {x0 : Int32} {x1 : Int64} {post : Int64 → Prop}  (hw : wpX6_asLane x0 x1 post) : Met l yX6_asLane (.code yX6_asLane cX6_asLane 3 (some .long) :: BIG) { frames := 0, cells := 0, slots := 0, locals := 0 } (xPr G [.int x0, .long x1] ([] : va_W)) (vp_Sl post) 0 0 (fun _ => False) := by
  refine xm_rl (by decide) (Nat.le_of_ble_eq_true rfl) (fun p e s m args below meth c ls R Q hC hK hP hl hF hL hret => ?_)
  have hx := hC.1
  have hb := hC.2.1
  have hl : lv_has ls 3 [(0, .int x0), (1, .long x1)] := hl
  unfold wpX6_asLane at hw
  refine lv_iload_n hx hb dX6_asLane_0 rfl (lv_at hl 0 rfl) ?_
  refine lv_if_ne (tgt := 14) hx hb dX6_asLane_1 (by decide) (fun hc => ?_) (fun hc => ?_)
  · have hw := And.left hw hc
    refine lv_iload_n hx hb dX6_asLane_14 rfl (lv_at hl 0 rfl) ?_
    refine lv_iconst (v := (1 : Int32)) hx hb dX6_asLane_15 (by decide) ?_
    refine lv_icmp_ne (tgt := 29) hx hb dX6_asLane_16 (by decide) (fun hc => ?_) (fun hc => ?_)
    · have hw := And.left hw hc
      refine lv_lload_n hx hb dX6_asLane_29 rfl (lv_at hl 1 rfl) ?_
      exact hret _ _ _ hw dX6_asLane_30
    · have hw := And.right hw hc
      refine lv_lload_n hx hb dX6_asLane_19 rfl (lv_at hl 1 rfl) ?_
      refine lv_bipush (v := (48 : Int32)) hx hb dX6_asLane_20 (by decide) ?_
      refine lv_lshl (v := (x1 <<< ((48 : Int32).toInt64 &&& 63))) hx hb dX6_asLane_22 rfl ?_
      refine lv_bipush (v := (48 : Int32)) hx hb dX6_asLane_23 (by decide) ?_
      refine lv_lshr (v := ((x1 <<< ((48 : Int32).toInt64 &&& 63)) >>> ((48 : Int32).toInt64 &&& 63))) hx hb dX6_asLane_25 rfl ?_
      refine lv_goto (tgt := 30) hx hb dX6_asLane_26 (by decide) ?_
      exact hret _ _ _ hw dX6_asLane_30
  · have hw := And.right hw hc
    refine lv_lload_n hx hb dX6_asLane_4 rfl (lv_at hl 1 rfl) ?_
    refine lv_bipush (v := (56 : Int32)) hx hb dX6_asLane_5 (by decide) ?_
    refine lv_lshl (v := (x1 <<< ((56 : Int32).toInt64 &&& 63))) hx hb dX6_asLane_7 rfl ?_
    refine lv_bipush (v := (56 : Int32)) hx hb dX6_asLane_8 (by decide) ?_
    refine lv_lshr (v := ((x1 <<< ((56 : Int32).toInt64 &&& 63)) >>> ((56 : Int32).toInt64 &&& 63))) hx hb dX6_asLane_10 rfl ?_
    refine lv_goto (tgt := 30) hx hb dX6_asLane_11 (by decide) ?_
    exact hret _ _ _ hw dX6_asLane_30
def wpX6_sheet_40 (k40 : Int32 → Int32 → Int32 → (wSt) → Prop) (post : Int32 → (wSt) → Prop) (x1 : Int32) (x3 : Int32) (x4 : Int32) (z0 : wSt) : Prop := (((24 : Int32) ≤ x4 → (post x3 z0)) ∧ (¬ (24 : Int32) ≤ x4 → (vp_in (((24 : Int32) * x1) + x4) 96 ∧ ∀ z1 : wSt, z1 = (w_sl z0 34 (vp_updL (w_l z0 34) (((24 : Int32) * x1) + x4).toNatClampNeg (0 : Int64))) → (k40 x1 x3 (x4 + (1 : Int32)) z1))))
def wpX6_sheet_L40  (post : Int32 → (wSt) → Prop) : Nat → Int32 → Int32 → Int32 → (wSt) → Prop
  | 0 => fun _ _ _ _ => False
  | n + 1 => fun x1 x3 x4 z0 => wpX6_sheet_40  (wpX6_sheet_L40  post n) post x1 x3 x4 z0
def wpX6_sheet (x1 : Int32) (x2 : Int32) (x3 : Int32) (z0 : wSt) (post : Int32 → (wSt) → Prop) : Prop := (wpX6_isSheet x1 x2 (fun r1 => ((r1 = 0 → (post (-1 : Int32) z0)) ∧ (¬ r1 = 0 → ((x3 ≤ (24 : Int32) → ((0 ≤ x3 → (vp_in x1 4 ∧ ∀ z1 : wSt, z1 = (w_sa z0 32 (upd (w_a z0 32) x1.toNatClampNeg x2)) → (vp_in x1 4 ∧ ∀ z2 : wSt, z2 = (w_sa z1 33 (upd (w_a z1 33) x1.toNatClampNeg x3)) → (∃ n, wpX6_sheet_L40  post n x1 x3 (0 : Int32) z2)))) ∧ (¬ 0 ≤ x3 → (post (-14 : Int32) z0)))) ∧ (¬ x3 ≤ (24 : Int32) → (post (-1 : Int32) z0)))))))
set_option maxHeartbeats 4000000 in
set_option maxRecDepth 100000 in
theorem cX6_sheet_c {l : Launch} {G : wG} {h : Nat → Nat} {sz : Nat} {x1 : Int32} {x2 : Int32} {x3 : Int32} {post : Int32 → (wSt) → Prop} {z0 : wSt}  (hw : wpX6_sheet x1 x2 x3 z0 post) : Met l yX6_sheet (.code yX6_sheet cX6_sheet 5 (some .int) :: BIG) { frames := 2, cells := 0, slots := 0, locals := 46 } (xPw G [.ref (h 0), .int x1, .int x2, .int x3] (wsM G h z0) sz) (xQi G post (fun q => (wsM G h q)) (va_A (wsM G h z0) sz)) 0 0 (va_A (wsM G h z0) sz) := by
  refine xm_wi (by decide) (Nat.le_of_ble_eq_true rfl) (fun p e s m args below meth c A ls R Q hC hK hA hP hD hS hl hF hL hret => ?_)
  have hx := hC.1
  have hb := hC.2.1
  have hl : lv_has ls 5 [(0, .ref (h 0)), (1, .int x1), (2, .int x2), (3, .int x3)] := hl
  have B40 : ∀ n40 : Nat, ∀ (x1 : Int32) (x3 : Int32) (x4 : Int32) (z0 : wSt) (H : Heap) (locs : List Loc) (ls : Array Slot), wpX6_sheet_L40  post n40 x1 x3 x4 z0 → va_P G.1 vwCl (wsM G h z0) H → va_D A (wsM G h z0) → va_S A s.heap H locs → lv_has ls 5 [(0, .ref (h 0)), (1, .int x1), (3, .int x3), (4, .int x4)] → W p l e R s m args below meth c H locs 0 0 Q (F0 m 40 ls []) := by
    intro n40
    induction n40 with
    | zero => intro x1 x3 x4 z0 H locs ls hw hP hD hS hl; exact False.elim hw
    | succ n40 I40 =>
      intro x1 x3 x4 z0 H locs ls hw hP hD hS hl
      have hw : wpX6_sheet_40  (wpX6_sheet_L40  post n40) post x1 x3 x4 z0 := hw
      unfold wpX6_sheet_40 at hw
      refine lv_iload hx hb dX6_sheet_40 (lv_at hl 3 rfl) ?_
      refine lv_bipush (v := (24 : Int32)) hx hb dX6_sheet_42 (by decide) ?_
      refine lv_icmp_ge (tgt := 66) hx hb dX6_sheet_44 (by decide) (fun hc => ?_) (fun hc => ?_)
      · have hw := And.left hw hc
        refine lv_iload_n hx hb dX6_sheet_66 rfl (lv_at hl 2 rfl) ?_
        exact hret _ _ _ _ _ _ hw hP hD hS dX6_sheet_67
      · have hw := And.right hw hc
        refine lv_aload_n hx hb dX6_sheet_47 rfl (lv_at hl 0 rfl) ?_
        refine rg_M_X6_0_34 hC hK hP dX6_sheet_48 ?_
        refine lv_bipush (v := (24 : Int32)) hx hb dX6_sheet_51 (by decide) ?_
        refine lv_iload_n hx hb dX6_sheet_53 rfl (lv_at hl 1 rfl) ?_
        refine lv_imul hx hb dX6_sheet_54 ?_
        refine lv_iload hx hb dX6_sheet_55 (lv_at hl 3 rfl) ?_
        refine lv_iadd hx hb dX6_sheet_57 ?_
        refine lv_lconst (v := (0 : Int64)) hx hb dX6_sheet_58 (by decide) ?_
        refine rs_M_15 hC hK hP hD hS (And.left hw) dX6_sheet_59 (fun z1 H locs hz1 hP hD hS => ?_)
        have hw := And.right hw z1 hz1
        refine lv_iinc (v := (x4 + (1 : Int32))) (lv' := [(4, .int (x4 + (1 : Int32))), (0, .ref (h 0)), (1, .int x1), (3, .int x3)]) hx hb dX6_sheet_60 hl (k := 3) rfl rfl (by decide) rfl (fun ls hl => ?_)
        refine lv_goto (tgt := 40) hx hb dX6_sheet_63 (by decide) ?_
        exact I40 x1 x3 (x4 + (1 : Int32)) z1 _ _ _ hw hP hD hS (lv_sub hl [1, 2, 3, 0] rfl)
  unfold wpX6_sheet at hw
  refine lv_iload_n hx hb dX6_sheet_0 rfl (lv_at hl 1 rfl) ?_
  refine lv_iload_n hx hb dX6_sheet_1 rfl (lv_at hl 2 rfl) ?_
  refine vp_callSi (xro (xr_S hC (cX6_isSheet_c hw) ⟨rfl, rfl⟩ bw_903 calX6_isSheet ⟨Nat.le_trans (Nat.le_of_ble_eq_true rfl) hF, Nat.le_trans (Nat.le_of_ble_eq_true rfl) hL⟩ (rest := []) (xpS hK) rfl hl rfl (Nat.le_of_ble_eq_true rfl) dX6_sheet_2 ⟨Nat.zero_le _, Nat.zero_le _⟩)) (fun r1 hw => ?_)
  refine lv_if_eq (tgt := 14) hx hb dX6_sheet_5 (by decide) (fun hc => ?_) (fun hc => ?_)
  · have hw := And.left hw hc
    refine lv_iconst (v := (-1 : Int32)) hx hb dX6_sheet_14 (by decide) ?_
    exact hret _ _ _ _ _ _ hw hP hD hS dX6_sheet_15
  · have hw := And.right hw hc
    refine lv_iload_n hx hb dX6_sheet_8 rfl (lv_at hl 3 rfl) ?_
    refine lv_bipush (v := (24 : Int32)) hx hb dX6_sheet_9 (by decide) ?_
    refine lv_icmp_le (tgt := 16) hx hb dX6_sheet_11 (by decide) (fun hc => ?_) (fun hc => ?_)
    · have hw := And.left hw hc
      refine lv_iload_n hx hb dX6_sheet_16 rfl (lv_at hl 3 rfl) ?_
      refine lv_if_ge (tgt := 23) hx hb dX6_sheet_17 (by decide) (fun hc => ?_) (fun hc => ?_)
      · have hw := And.left hw hc
        refine lv_aload_n hx hb dX6_sheet_23 rfl (lv_at hl 0 rfl) ?_
        refine rg_M_X6_0_32 hC hK hP dX6_sheet_24 ?_
        refine lv_iload_n hx hb dX6_sheet_27 rfl (lv_at hl 1 rfl) ?_
        refine lv_iload_n hx hb dX6_sheet_28 rfl (lv_at hl 2 rfl) ?_
        refine rs_M_13 hC hK hP hD hS (And.left hw) dX6_sheet_29 (fun z1 H locs hz1 hP hD hS => ?_)
        have hw := And.right hw z1 hz1
        refine lv_aload_n hx hb dX6_sheet_30 rfl (lv_at hl 0 rfl) ?_
        refine rg_M_X6_0_33 hC hK hP dX6_sheet_31 ?_
        refine lv_iload_n hx hb dX6_sheet_34 rfl (lv_at hl 1 rfl) ?_
        refine lv_iload_n hx hb dX6_sheet_35 rfl (lv_at hl 3 rfl) ?_
        refine rs_M_14 hC hK hP hD hS (And.left hw) dX6_sheet_36 (fun z2 H locs hz1 hP hD hS => ?_)
        have hw := And.right hw z2 hz1
        refine lv_iconst (v := (0 : Int32)) hx hb dX6_sheet_37 (by decide) ?_
        refine lv_istore (lv' := [(4, .int (0 : Int32)), (0, .ref (h 0)), (1, .int x1), (2, .int x2), (3, .int x3)]) hx hb dX6_sheet_38 hl (by decide) rfl (fun ls hl => ?_)
        obtain ⟨j40, hw⟩ := hw
        exact B40 j40 x1 x3 (0 : Int32) z2 _ _ _ hw hP hD hS (lv_sub hl [1, 2, 4, 0] rfl)
      · have hw := And.right hw hc
        refine lv_bipush (v := (-14 : Int32)) hx hb dX6_sheet_20 (by decide) ?_
        exact hret _ _ _ _ _ _ hw hP hD hS dX6_sheet_22
    · have hw := And.right hw hc
      refine lv_iconst (v := (-1 : Int32)) hx hb dX6_sheet_14 (by decide) ?_
      exact hret _ _ _ _ _ _ hw hP hD hS dX6_sheet_15
def wpX6_drop (x1 : Int32) (z0 : wSt) (post : Int32 → (wSt) → Prop) : Prop := (wpX6_in (x1.toInt64) (0 : Int64) (3 : Int64) (fun r1 => ((¬ r1 = 0 → (vp_in x1 4 ∧ ((0 ≤ ((w_a z0 32) x1.toNatClampNeg) → (vp_in x1 4 ∧ ∀ z1 : wSt, z1 = (w_sa z0 32 (upd (w_a z0 32) x1.toNatClampNeg (-1 : Int32))) → (vp_in x1 4 ∧ (post ((w_a z1 33) x1.toNatClampNeg) z1)))) ∧ (¬ 0 ≤ ((w_a z0 32) x1.toNatClampNeg) → (post (-11 : Int32) z0))))) ∧ (r1 = 0 → (post (-1 : Int32) z0)))))
set_option maxHeartbeats 4000000 in
set_option maxRecDepth 100000 in
theorem cX6_drop_c {l : Launch} {G : wG} {h : Nat → Nat} {sz : Nat} {x1 : Int32} {post : Int32 → (wSt) → Prop} {z0 : wSt}  (hw : wpX6_drop x1 z0 post) : Met l yX6_drop (.code yX6_drop cX6_drop 2 (some .int) :: BIG) { frames := 1, cells := 0, slots := 0, locals := 25 } (xPw G [.ref (h 0), .int x1] (wsM G h z0) sz) (xQi G post (fun q => (wsM G h q)) (va_A (wsM G h z0) sz)) 0 0 (va_A (wsM G h z0) sz) := by
  refine xm_wi (by decide) (Nat.le_of_ble_eq_true rfl) (fun p e s m args below meth c A ls R Q hC hK hA hP hD hS hl hF hL hret => ?_)
  have hx := hC.1
  have hb := hC.2.1
  have hl : lv_has ls 2 [(0, .ref (h 0)), (1, .int x1)] := hl
  unfold wpX6_drop at hw
  refine lv_iload_n hx hb dX6_drop_0 rfl (lv_at hl 1 rfl) ?_
  refine lv_i2l (v := (x1.toInt64)) hx hb dX6_drop_1 rfl ?_
  refine lv_lconst (v := (0 : Int64)) hx hb dX6_drop_2 (by decide) ?_
  refine lv_ldc2 (v := (3 : Int64)) hx hb hC.2.2.2.1 (hC.2.2.2.2 _ bw_699) dX6_drop_3 ?_
  refine vp_callSi (xro (xr_S hC (cX6_in_c hw) ⟨rfl, rfl⟩ bw_700 calX6_in ⟨Nat.le_trans (Nat.le_of_ble_eq_true rfl) hF, Nat.le_trans (Nat.le_of_ble_eq_true rfl) hL⟩ (rest := []) (xpS hK) rfl hl rfl (Nat.le_of_ble_eq_true rfl) dX6_drop_6 ⟨Nat.zero_le _, Nat.zero_le _⟩)) (fun r1 hw => ?_)
  refine lv_if_ne (tgt := 14) hx hb dX6_drop_9 (by decide) (fun hc => ?_) (fun hc => ?_)
  · have hw := And.left hw hc
    refine lv_aload_n hx hb dX6_drop_14 rfl (lv_at hl 0 rfl) ?_
    refine rg_M_X6_0_32 hC hK hP dX6_drop_15 ?_
    refine lv_iload_n hx hb dX6_drop_18 rfl (lv_at hl 1 rfl) ?_
    refine rl_M_13 hC hK hP (And.left hw) dX6_drop_19 ?_
    have hw := And.right hw
    refine lv_if_ge (tgt := 26) hx hb dX6_drop_20 (by decide) (fun hc => ?_) (fun hc => ?_)
    · have hw := And.left hw hc
      refine lv_aload_n hx hb dX6_drop_26 rfl (lv_at hl 0 rfl) ?_
      refine rg_M_X6_0_32 hC hK hP dX6_drop_27 ?_
      refine lv_iload_n hx hb dX6_drop_30 rfl (lv_at hl 1 rfl) ?_
      refine lv_iconst (v := (-1 : Int32)) hx hb dX6_drop_31 (by decide) ?_
      refine rs_M_13 hC hK hP hD hS (And.left hw) dX6_drop_32 (fun z1 H locs hz1 hP hD hS => ?_)
      have hw := And.right hw z1 hz1
      refine lv_aload_n hx hb dX6_drop_33 rfl (lv_at hl 0 rfl) ?_
      refine rg_M_X6_0_33 hC hK hP dX6_drop_34 ?_
      refine lv_iload_n hx hb dX6_drop_37 rfl (lv_at hl 1 rfl) ?_
      refine rl_M_14 hC hK hP (And.left hw) dX6_drop_38 ?_
      have hw := And.right hw
      exact hret _ _ _ _ _ _ hw hP hD hS dX6_drop_39
    · have hw := And.right hw hc
      refine lv_bipush (v := (-11 : Int32)) hx hb dX6_drop_23 (by decide) ?_
      exact hret _ _ _ _ _ _ hw hP hD hS dX6_drop_25
  · have hw := And.right hw hc
    refine lv_iconst (v := (-1 : Int32)) hx hb dX6_drop_12 (by decide) ?_
    exact hret _ _ _ _ _ _ hw hP hD hS dX6_drop_13
def wpX6_lacksRow (x1 : Int32) (x2 : Int32) (x3 : Int32) (x4 : Int32) (z0 : wSt) (post : Int32 → Prop) : Prop := (vp_in x1 4 ∧ ((((w_a z0 32) x1.toNatClampNeg) = x2 → (vp_in x1 4 ∧ (wpX6_in (x3.toInt64) (0 : Int64) ((((w_a z0 33) x1.toNatClampNeg) - x4).toInt64) (fun r1 => ((r1 = 0 → (post (-13 : Int32))) ∧ (¬ r1 = 0 → (post (0 : Int32)))))))) ∧ (¬ ((w_a z0 32) x1.toNatClampNeg) = x2 → (vp_in x1 4 ∧ ((0 ≤ ((w_a z0 32) x1.toNatClampNeg) → (post (-12 : Int32))) ∧ (¬ 0 ≤ ((w_a z0 32) x1.toNatClampNeg) → (post (-11 : Int32))))))))
set_option maxHeartbeats 4000000 in
set_option maxRecDepth 100000 in
theorem cX6_lacksRow_c {l : Launch} {G : wG} {h : Nat → Nat} {x1 : Int32} {x2 : Int32} {x3 : Int32} {x4 : Int32} {post : Int32 → Prop} {z0 : wSt}  (hw : wpX6_lacksRow x1 x2 x3 x4 z0 post) : Met l yX6_lacksRow (.code yX6_lacksRow cX6_lacksRow 5 (some .int) :: BIG) { frames := 1, cells := 0, slots := 0, locals := 25 } (xPr G [.ref (h 0), .int x1, .int x2, .int x3, .int x4] (wsM G h z0)) (vp_Si post) 0 0 (fun _ => False) := by
  refine xm_ri (by decide) (Nat.le_of_ble_eq_true rfl) (fun p e s m args below meth c ls R Q hC hK hP hl hF hL hret => ?_)
  have hx := hC.1
  have hb := hC.2.1
  have hl : lv_has ls 5 [(0, .ref (h 0)), (1, .int x1), (2, .int x2), (3, .int x3), (4, .int x4)] := hl
  unfold wpX6_lacksRow at hw
  refine lv_aload_n hx hb dX6_lacksRow_0 rfl (lv_at hl 0 rfl) ?_
  refine rg_M_X6_0_32 hC hK hP dX6_lacksRow_1 ?_
  refine lv_iload_n hx hb dX6_lacksRow_4 rfl (lv_at hl 1 rfl) ?_
  refine rl_M_13 hC hK hP (And.left hw) dX6_lacksRow_5 ?_
  have hw := And.right hw
  refine lv_iload_n hx hb dX6_lacksRow_6 rfl (lv_at hl 2 rfl) ?_
  refine lv_icmp_eq (tgt := 27) hx hb dX6_lacksRow_7 (by decide) (fun hc => ?_) (fun hc => ?_)
  · have hw := And.left hw hc
    refine lv_iload_n hx hb dX6_lacksRow_27 rfl (lv_at hl 3 rfl) ?_
    refine lv_i2l (v := (x3.toInt64)) hx hb dX6_lacksRow_28 rfl ?_
    refine lv_lconst (v := (0 : Int64)) hx hb dX6_lacksRow_29 (by decide) ?_
    refine lv_aload_n hx hb dX6_lacksRow_30 rfl (lv_at hl 0 rfl) ?_
    refine rg_M_X6_0_33 hC hK hP dX6_lacksRow_31 ?_
    refine lv_iload_n hx hb dX6_lacksRow_34 rfl (lv_at hl 1 rfl) ?_
    refine rl_M_14 hC hK hP (And.left hw) dX6_lacksRow_35 ?_
    have hw := And.right hw
    refine lv_iload hx hb dX6_lacksRow_36 (lv_at hl 4 rfl) ?_
    refine lv_isub hx hb dX6_lacksRow_38 ?_
    refine lv_i2l (v := ((((w_a z0 33) x1.toNatClampNeg) - x4).toInt64)) hx hb dX6_lacksRow_39 rfl ?_
    refine vp_callSi (xro (xr_S hC (cX6_in_c hw) ⟨rfl, rfl⟩ bw_700 calX6_in ⟨Nat.le_trans (Nat.le_of_ble_eq_true rfl) hF, Nat.le_trans (Nat.le_of_ble_eq_true rfl) hL⟩ (rest := []) (xpS hK) rfl hl rfl (Nat.le_of_ble_eq_true rfl) dX6_lacksRow_40 ⟨Nat.zero_le _, Nat.zero_le _⟩)) (fun r1 hw => ?_)
    refine lv_if_eq (tgt := 50) hx hb dX6_lacksRow_43 (by decide) (fun hc => ?_) (fun hc => ?_)
    · have hw := And.left hw hc
      refine lv_bipush (v := (-13 : Int32)) hx hb dX6_lacksRow_50 (by decide) ?_
      exact hret _ _ _ hw dX6_lacksRow_52
    · have hw := And.right hw hc
      refine lv_iconst (v := (0 : Int32)) hx hb dX6_lacksRow_46 (by decide) ?_
      refine lv_goto (tgt := 52) hx hb dX6_lacksRow_47 (by decide) ?_
      exact hret _ _ _ hw dX6_lacksRow_52
  · have hw := And.right hw hc
    refine lv_aload_n hx hb dX6_lacksRow_10 rfl (lv_at hl 0 rfl) ?_
    refine rg_M_X6_0_32 hC hK hP dX6_lacksRow_11 ?_
    refine lv_iload_n hx hb dX6_lacksRow_14 rfl (lv_at hl 1 rfl) ?_
    refine rl_M_13 hC hK hP (And.left hw) dX6_lacksRow_15 ?_
    have hw := And.right hw
    refine lv_if_ge (tgt := 24) hx hb dX6_lacksRow_16 (by decide) (fun hc => ?_) (fun hc => ?_)
    · have hw := And.left hw hc
      refine lv_bipush (v := (-12 : Int32)) hx hb dX6_lacksRow_24 (by decide) ?_
      exact hret _ _ _ hw dX6_lacksRow_26
    · have hw := And.right hw hc
      refine lv_bipush (v := (-11 : Int32)) hx hb dX6_lacksRow_19 (by decide) ?_
      refine lv_goto (tgt := 26) hx hb dX6_lacksRow_21 (by decide) ?_
      exact hret _ _ _ hw dX6_lacksRow_26
def wpX6_item (x1 : Int32) (x2 : Int32) (x3 : Int32) (x4 : Int64) (z0 : wSt) (post : Int32 → (wSt) → Prop) : Prop := (wpX6_isSheet x1 x2 (fun r1 => ((¬ r1 = 0 → (wpX6_lacksRow x1 x2 x3 (1 : Int32) z0 (fun r2 => ((0 ≤ r2 → (wpX6_asLane x2 x4 (fun r3 => (vp_in (((24 : Int32) * x1) + x3) 96 ∧ ∀ z1 : wSt, z1 = (w_sl z0 34 (vp_updL (w_l z0 34) (((24 : Int32) * x1) + x3).toNatClampNeg r3)) → (post (1 : Int32) z1))))) ∧ (¬ 0 ≤ r2 → (post r2 z0)))))) ∧ (r1 = 0 → (post (-1 : Int32) z0)))))
set_option maxHeartbeats 4000000 in
set_option maxRecDepth 100000 in
theorem cX6_item_c {l : Launch} {G : wG} {h : Nat → Nat} {sz : Nat} {x1 : Int32} {x2 : Int32} {x3 : Int32} {x4 : Int64} {post : Int32 → (wSt) → Prop} {z0 : wSt}  (hw : wpX6_item x1 x2 x3 x4 z0 post) : Met l yX6_item (.code yX6_item cX6_item 7 (some .int) :: BIG) { frames := 2, cells := 0, slots := 0, locals := 49 } (xPw G [.ref (h 0), .int x1, .int x2, .int x3, .long x4] (wsM G h z0) sz) (xQi G post (fun q => (wsM G h q)) (va_A (wsM G h z0) sz)) 0 0 (va_A (wsM G h z0) sz) := by
  refine xm_wi (by decide) (Nat.le_of_ble_eq_true rfl) (fun p e s m args below meth c A ls R Q hC hK hA hP hD hS hl hF hL hret => ?_)
  have hx := hC.1
  have hb := hC.2.1
  have hl : lv_has ls 7 [(0, .ref (h 0)), (1, .int x1), (2, .int x2), (3, .int x3), (4, .long x4)] := hl
  unfold wpX6_item at hw
  refine lv_iload_n hx hb dX6_item_0 rfl (lv_at hl 1 rfl) ?_
  refine lv_iload_n hx hb dX6_item_1 rfl (lv_at hl 2 rfl) ?_
  refine vp_callSi (xro (xr_S hC (cX6_isSheet_c hw) ⟨rfl, rfl⟩ bw_903 calX6_isSheet ⟨Nat.le_trans (Nat.le_of_ble_eq_true rfl) hF, Nat.le_trans (Nat.le_of_ble_eq_true rfl) hL⟩ (rest := []) (xpS hK) rfl hl rfl (Nat.le_of_ble_eq_true rfl) dX6_item_2 ⟨Nat.zero_le _, Nat.zero_le _⟩)) (fun r1 hw => ?_)
  refine lv_if_ne (tgt := 10) hx hb dX6_item_5 (by decide) (fun hc => ?_) (fun hc => ?_)
  · have hw := And.left hw hc
    refine lv_aload_n hx hb dX6_item_10 rfl (lv_at hl 0 rfl) ?_
    refine lv_iload_n hx hb dX6_item_11 rfl (lv_at hl 1 rfl) ?_
    refine lv_iload_n hx hb dX6_item_12 rfl (lv_at hl 2 rfl) ?_
    refine lv_iload_n hx hb dX6_item_13 rfl (lv_at hl 3 rfl) ?_
    refine lv_iconst (v := (1 : Int32)) hx hb dX6_item_14 (by decide) ?_
    refine vp_callSi (xro (xr_V hC (cX6_lacksRow_c (h := h) hw) ⟨rfl, rfl⟩ bw_914 calX6_lacksRow ⟨Nat.le_trans (Nat.le_of_ble_eq_true rfl) hF, Nat.le_trans (Nat.le_of_ble_eq_true rfl) hL⟩ (rest := []) (xpR hK hP rfl rfl) rfl hl rfl (Nat.le_of_ble_eq_true rfl) dX6_item_15 ⟨Nat.zero_le _, Nat.zero_le _⟩)) (fun r2 hw => ?_)
    refine lv_istore (lv' := [(6, .int r2), (0, .ref (h 0)), (1, .int x1), (2, .int x2), (3, .int x3), (4, .long x4)]) hx hb dX6_item_18 hl (by decide) rfl (fun ls hl => ?_)
    refine lv_iload hx hb dX6_item_20 (lv_at hl 0 rfl) ?_
    refine lv_if_ge (tgt := 28) hx hb dX6_item_22 (by decide) (fun hc => ?_) (fun hc => ?_)
    · have hw := And.left hw hc
      refine lv_aload_n hx hb dX6_item_28 rfl (lv_at hl 1 rfl) ?_
      refine rg_M_X6_0_34 hC hK hP dX6_item_29 ?_
      refine lv_bipush (v := (24 : Int32)) hx hb dX6_item_32 (by decide) ?_
      refine lv_iload_n hx hb dX6_item_34 rfl (lv_at hl 2 rfl) ?_
      refine lv_imul hx hb dX6_item_35 ?_
      refine lv_iload_n hx hb dX6_item_36 rfl (lv_at hl 4 rfl) ?_
      refine lv_iadd hx hb dX6_item_37 ?_
      refine lv_iload_n hx hb dX6_item_38 rfl (lv_at hl 3 rfl) ?_
      refine lv_lload hx hb dX6_item_39 (lv_at hl 5 rfl) ?_
      refine vp_callSl (xro (xr_S hC (cX6_asLane_c hw) ⟨rfl, rfl⟩ bw_918 calX6_asLane ⟨Nat.le_trans (Nat.le_of_ble_eq_true rfl) hF, Nat.le_trans (Nat.le_of_ble_eq_true rfl) hL⟩ (rest := [.int (((24 : Int32) * x1) + x3), .ref (h 15)]) (xpS hK) rfl hl rfl (Nat.le_of_ble_eq_true rfl) dX6_item_41 ⟨Nat.zero_le _, Nat.zero_le _⟩)) (fun r3 hw => ?_)
      refine rs_M_15 hC hK hP hD hS (And.left hw) dX6_item_44 (fun z1 H locs hz1 hP hD hS => ?_)
      have hw := And.right hw z1 hz1
      refine lv_iconst (v := (1 : Int32)) hx hb dX6_item_45 (by decide) ?_
      exact hret _ _ _ _ _ _ hw hP hD hS dX6_item_46
    · have hw := And.right hw hc
      refine lv_iload hx hb dX6_item_25 (lv_at hl 0 rfl) ?_
      exact hret _ _ _ _ _ _ hw hP hD hS dX6_item_27
  · have hw := And.right hw hc
    refine lv_iconst (v := (-1 : Int32)) hx hb dX6_item_8 (by decide) ?_
    exact hret _ _ _ _ _ _ hw hP hD hS dX6_item_9
def wpX6_fits_69 (k9 : Int32 → Int32 → Int32 → Int32 → Int32 → Prop) (z0 : wSt) (post : Int32 → Prop) (x1 : Int32) (x2 : Int32) (x4 : Int32) (x6 : Int32) (x7 : Int32) (t0 : Int32) : Prop := (wpX6_feltBy x7 z0 (fun r1 => (wpX6_most9 (x4 + r1) (fun r2 => (wpX6_wane r2 (fun r3 => (k9 x1 x2 r3 t0 (x6 + (1 : Int32)))))))))
def wpX6_fits_9 (k9 : Int32 → Int32 → Int32 → Int32 → Int32 → Prop) (z0 : wSt) (post : Int32 → Prop) (x1 : Int32) (x2 : Int32) (x4 : Int32) (x5 : Int32) (x6 : Int32) : Prop := ((x2 ≤ x6 → (narrow .boolean (.int x5) = .int x5 ∧ post x5)) ∧ (¬ x2 ≤ x6 → ((x5 = 0 → (narrow .boolean (.int x5) = .int x5 ∧ post x5)) ∧ (¬ x5 = 0 → (vp_in (x1 + ((2 : Int32) * x6)) 96 ∧ (vp_in (((w_l z0 34) (x1 + ((2 : Int32) * x6)).toNatClampNeg).toInt32) 6 ∧ (wpX6_pailsOf ((w_a z0 0) (((w_l z0 34) (x1 + ((2 : Int32) * x6)).toNatClampNeg).toInt32).toNatClampNeg) x4 (fun r1 => (vp_in ((x1 + ((2 : Int32) * x6)) + (1 : Int32)) 96 ∧ ((¬ (lg_cmp (r1.toInt64) ((w_l z0 34) ((x1 + ((2 : Int32) * x6)) + (1 : Int32)).toNatClampNeg)) = 0 → (wpX6_fits_69 k9 z0 post x1 x2 x4 x6 (((w_l z0 34) (x1 + ((2 : Int32) * x6)).toNatClampNeg).toInt32) (0 : Int32))) ∧ ((lg_cmp (r1.toInt64) ((w_l z0 34) ((x1 + ((2 : Int32) * x6)) + (1 : Int32)).toNatClampNeg)) = 0 → (wpX6_fits_69 k9 z0 post x1 x2 x4 x6 (((w_l z0 34) (x1 + ((2 : Int32) * x6)).toNatClampNeg).toInt32) (1 : Int32)))))))))))))
def wpX6_fits_L9  (z0 : wSt) (post : Int32 → Prop) : Nat → Int32 → Int32 → Int32 → Int32 → Int32 → Prop
  | 0 => fun _ _ _ _ _ => False
  | n + 1 => fun x1 x2 x4 x5 x6 => wpX6_fits_9  (wpX6_fits_L9  z0 post n) z0 post x1 x2 x4 x5 x6
def wpX6_fits (x1 : Int32) (x2 : Int32) (x3 : Int32) (z0 : wSt) (post : Int32 → Prop) : Prop := (∃ n, wpX6_fits_L9  z0 post n x1 x2 x3 (1 : Int32) (0 : Int32))
set_option maxHeartbeats 4000000 in
set_option maxRecDepth 100000 in
theorem cX6_fits_c {l : Launch} {G : wG} {h : Nat → Nat} {x1 : Int32} {x2 : Int32} {x3 : Int32} {post : Int32 → Prop} {z0 : wSt}  (hw : wpX6_fits x1 x2 x3 z0 post) : Met l yX6_fits (.code yX6_fits cX6_fits 8 (some .boolean) :: BIG) { frames := 1, cells := 0, slots := 0, locals := 22 } (xPr G [.ref (h 0), .int x1, .int x2, .int x3] (wsM G h z0)) (vp_Si post) 0 0 (fun _ => False) := by
  refine xm_rz (by decide) (Nat.le_of_ble_eq_true rfl) (fun p e s m args below meth c ls R Q hC hK hP hl hF hL hret => ?_)
  have hx := hC.1
  have hb := hC.2.1
  have hl : lv_has ls 8 [(0, .ref (h 0)), (1, .int x1), (2, .int x2), (3, .int x3)] := hl
  have B9 : ∀ n9 : Nat, ∀ (x1 : Int32) (x2 : Int32) (x4 : Int32) (x5 : Int32) (x6 : Int32) (ls : Array Slot), wpX6_fits_L9  z0 post n9 x1 x2 x4 x5 x6 → lv_has ls 8 [(0, .ref (h 0)), (1, .int x1), (2, .int x2), (4, .int x4), (5, .int x5), (6, .int x6)] → W p l e R s m args below meth c s.heap [] 0 0 Q (F0 m 9 ls []) := by
    intro n9
    induction n9 with
    | zero => intro x1 x2 x4 x5 x6 ls hw hl; exact False.elim hw
    | succ n9 I9 =>
      have B69 : ∀ (x1 : Int32) (x2 : Int32) (x4 : Int32) (x6 : Int32) (x7 : Int32) (t0 : Int32) (ls : Array Slot), wpX6_fits_69 (wpX6_fits_L9  z0 post n9) z0 post x1 x2 x4 x6 x7 t0 → lv_has ls 8 [(0, .ref (h 0)), (1, .int x1), (2, .int x2), (4, .int x4), (6, .int x6), (7, .int x7)] → W p l e R s m args below meth c s.heap [] 0 0 Q (F0 m 69 ls [.int t0]) := by
        intro x1 x2 x4 x6 x7 t0 ls hw hl
        unfold wpX6_fits_69 at hw
        refine lv_istore (lv' := [(5, .int t0), (0, .ref (h 0)), (1, .int x1), (2, .int x2), (4, .int x4), (6, .int x6), (7, .int x7)]) hx hb dX6_fits_69 hl (by decide) rfl (fun ls hl => ?_)
        refine lv_iload hx hb dX6_fits_71 (lv_at hl 4 rfl) ?_
        refine lv_aload_n hx hb dX6_fits_73 rfl (lv_at hl 1 rfl) ?_
        refine lv_iload hx hb dX6_fits_74 (lv_at hl 6 rfl) ?_
        refine vp_callSi (xro (xr_V hC (cX6_feltBy_c (h := h) hw) ⟨rfl, rfl⟩ bw_806 calX6_feltBy ⟨Nat.le_trans (Nat.le_of_ble_eq_true rfl) hF, Nat.le_trans (Nat.le_of_ble_eq_true rfl) hL⟩ (rest := [.int x4]) (xpR hK hP rfl rfl) rfl hl rfl (Nat.le_of_ble_eq_true rfl) dX6_fits_76 ⟨Nat.zero_le _, Nat.zero_le _⟩)) (fun r1 hw => ?_)
        refine lv_iadd hx hb dX6_fits_79 ?_
        refine vp_callSi (xro (xr_S hC (cX6_most9_c hw) ⟨rfl, rfl⟩ bw_810 calX6_most9 ⟨Nat.le_trans (Nat.le_of_ble_eq_true rfl) hF, Nat.le_trans (Nat.le_of_ble_eq_true rfl) hL⟩ (rest := []) (xpS hK) rfl hl rfl (Nat.le_of_ble_eq_true rfl) dX6_fits_80 ⟨Nat.zero_le _, Nat.zero_le _⟩)) (fun r2 hw => ?_)
        refine vp_callSi (xro (xr_S hC (cX6_wane_c hw) ⟨rfl, rfl⟩ bw_813 calX6_wane ⟨Nat.le_trans (Nat.le_of_ble_eq_true rfl) hF, Nat.le_trans (Nat.le_of_ble_eq_true rfl) hL⟩ (rest := []) (xpS hK) rfl hl rfl (Nat.le_of_ble_eq_true rfl) dX6_fits_83 ⟨Nat.zero_le _, Nat.zero_le _⟩)) (fun r3 hw => ?_)
        refine lv_istore (lv' := [(4, .int r3), (5, .int t0), (0, .ref (h 0)), (1, .int x1), (2, .int x2), (6, .int x6), (7, .int x7)]) hx hb dX6_fits_86 hl (by decide) rfl (fun ls hl => ?_)
        refine lv_iinc (v := (x6 + (1 : Int32))) (lv' := [(6, .int (x6 + (1 : Int32))), (4, .int r3), (5, .int t0), (0, .ref (h 0)), (1, .int x1), (2, .int x2), (7, .int x7)]) hx hb dX6_fits_88 hl (k := 5) rfl rfl (by decide) rfl (fun ls hl => ?_)
        refine lv_goto (tgt := 9) hx hb dX6_fits_91 (by decide) ?_
        exact I9 x1 x2 r3 t0 (x6 + (1 : Int32)) _ hw (lv_sub hl [3, 4, 5, 1, 2, 0] rfl)
      intro x1 x2 x4 x5 x6 ls hw hl
      have hw : wpX6_fits_9  (wpX6_fits_L9  z0 post n9) z0 post x1 x2 x4 x5 x6 := hw
      unfold wpX6_fits_9 at hw
      refine lv_iload hx hb dX6_fits_9 (lv_at hl 5 rfl) ?_
      refine lv_iload_n hx hb dX6_fits_11 rfl (lv_at hl 2 rfl) ?_
      refine lv_icmp_ge (tgt := 94) hx hb dX6_fits_12 (by decide) (fun hc => ?_) (fun hc => ?_)
      · have hw := And.left hw hc
        refine lv_iload hx hb dX6_fits_94 (lv_at hl 4 rfl) ?_
        exact hret _ _ _ (And.left hw) (And.right hw) dX6_fits_96
      · have hw := And.right hw hc
        refine lv_iload hx hb dX6_fits_15 (lv_at hl 4 rfl) ?_
        refine lv_if_eq (tgt := 94) hx hb dX6_fits_17 (by decide) (fun hc => ?_) (fun hc => ?_)
        · have hw := And.left hw hc
          refine lv_iload hx hb dX6_fits_94 (lv_at hl 4 rfl) ?_
          exact hret _ _ _ (And.left hw) (And.right hw) dX6_fits_96
        · have hw := And.right hw hc
          refine lv_aload_n hx hb dX6_fits_20 rfl (lv_at hl 0 rfl) ?_
          refine rg_M_X6_0_34 hC hK hP dX6_fits_21 ?_
          refine lv_iload_n hx hb dX6_fits_24 rfl (lv_at hl 1 rfl) ?_
          refine lv_iconst (v := (2 : Int32)) hx hb dX6_fits_25 (by decide) ?_
          refine lv_iload hx hb dX6_fits_26 (lv_at hl 5 rfl) ?_
          refine lv_imul hx hb dX6_fits_28 ?_
          refine lv_iadd hx hb dX6_fits_29 ?_
          refine rl_M_15 hC hK hP (And.left hw) dX6_fits_30 ?_
          have hw := And.right hw
          refine lv_l2i (v := (((w_l z0 34) (x1 + ((2 : Int32) * x6)).toNatClampNeg).toInt32)) hx hb dX6_fits_31 rfl ?_
          refine lv_istore (lv' := [(7, .int (((w_l z0 34) (x1 + ((2 : Int32) * x6)).toNatClampNeg).toInt32)), (0, .ref (h 0)), (1, .int x1), (2, .int x2), (4, .int x4), (5, .int x5), (6, .int x6)]) hx hb dX6_fits_32 hl (by decide) rfl (fun ls hl => ?_)
          refine lv_aload_n hx hb dX6_fits_34 rfl (lv_at hl 1 rfl) ?_
          refine rg_M_X6_0_0 hC hK hP dX6_fits_35 ?_
          refine lv_iload hx hb dX6_fits_38 (lv_at hl 0 rfl) ?_
          refine rl_M_1 hC hK hP (And.left hw) dX6_fits_40 ?_
          have hw := And.right hw
          refine lv_iload hx hb dX6_fits_41 (lv_at hl 4 rfl) ?_
          refine vp_callSi (xro (xr_S hC (cX6_pailsOf_c hw) ⟨rfl, rfl⟩ bw_800 calX6_pailsOf ⟨Nat.le_trans (Nat.le_of_ble_eq_true rfl) hF, Nat.le_trans (Nat.le_of_ble_eq_true rfl) hL⟩ (rest := []) (xpS hK) rfl hl rfl (Nat.le_of_ble_eq_true rfl) dX6_fits_43 ⟨Nat.zero_le _, Nat.zero_le _⟩)) (fun r1 hw => ?_)
          refine lv_i2l (v := (r1.toInt64)) hx hb dX6_fits_46 rfl ?_
          refine lv_aload_n hx hb dX6_fits_47 rfl (lv_at hl 1 rfl) ?_
          refine rg_M_X6_0_34 hC hK hP dX6_fits_48 ?_
          refine lv_iload_n hx hb dX6_fits_51 rfl (lv_at hl 2 rfl) ?_
          refine lv_iconst (v := (2 : Int32)) hx hb dX6_fits_52 (by decide) ?_
          refine lv_iload hx hb dX6_fits_53 (lv_at hl 6 rfl) ?_
          refine lv_imul hx hb dX6_fits_55 ?_
          refine lv_iadd hx hb dX6_fits_56 ?_
          refine lv_iconst (v := (1 : Int32)) hx hb dX6_fits_57 (by decide) ?_
          refine lv_iadd hx hb dX6_fits_58 ?_
          refine rl_M_15 hC hK hP (And.left hw) dX6_fits_59 ?_
          have hw := And.right hw
          refine W.lcmp hx hb dX6_fits_60 ?_
          refine lv_if_ne (tgt := 68) hx hb dX6_fits_61 (by decide) (fun hc => ?_) (fun hc => ?_)
          · have hw := And.left hw hc
            refine lv_iconst (v := (0 : Int32)) hx hb dX6_fits_68 (by decide) ?_
            exact B69 x1 x2 x4 x6 (((w_l z0 34) (x1 + ((2 : Int32) * x6)).toNatClampNeg).toInt32) (0 : Int32) _ hw (lv_sub hl [1, 2, 3, 4, 6, 0] rfl)
          · have hw := And.right hw hc
            refine lv_iconst (v := (1 : Int32)) hx hb dX6_fits_64 (by decide) ?_
            refine lv_goto (tgt := 69) hx hb dX6_fits_65 (by decide) ?_
            exact B69 x1 x2 x4 x6 (((w_l z0 34) (x1 + ((2 : Int32) * x6)).toNatClampNeg).toInt32) (1 : Int32) _ hw (lv_sub hl [1, 2, 3, 4, 6, 0] rfl)
  unfold wpX6_fits at hw
  refine lv_iload_n hx hb dX6_fits_0 rfl (lv_at hl 3 rfl) ?_
  refine lv_istore (lv' := [(4, .int x3), (0, .ref (h 0)), (1, .int x1), (2, .int x2), (3, .int x3)]) hx hb dX6_fits_1 hl (by decide) rfl (fun ls hl => ?_)
  refine lv_iconst (v := (1 : Int32)) hx hb dX6_fits_3 (by decide) ?_
  refine lv_istore (lv' := [(5, .int (1 : Int32)), (4, .int x3), (0, .ref (h 0)), (1, .int x1), (2, .int x2), (3, .int x3)]) hx hb dX6_fits_4 hl (by decide) rfl (fun ls hl => ?_)
  refine lv_iconst (v := (0 : Int32)) hx hb dX6_fits_6 (by decide) ?_
  refine lv_istore (lv' := [(6, .int (0 : Int32)), (5, .int (1 : Int32)), (4, .int x3), (0, .ref (h 0)), (1, .int x1), (2, .int x2), (3, .int x3)]) hx hb dX6_fits_7 hl (by decide) rfl (fun ls hl => ?_)
  obtain ⟨j9, hw⟩ := hw
  exact B9 j9 x1 x2 x3 (1 : Int32) (0 : Int32) _ hw (lv_sub hl [3, 4, 5, 2, 1, 0] rfl)
def wpX6_fit_161 (k128 : Int32 → Int32 → Int32 → Int32 → Prop) (z0 : wSt) (post : Int32 → Prop) (x4 : Int32) (x6 : Int32) (x8 : Int32) (t0 : Int32) (t1 : Int32) : Prop := (k128 x4 x6 (t1 ||| t0) (x8 + (1 : Int32)))
def wpX6_fit_128 (k128 : Int32 → Int32 → Int32 → Int32 → Prop) (z0 : wSt) (post : Int32 → Prop) (x4 : Int32) (x6 : Int32) (x7 : Int32) (x8 : Int32) : Prop := (((9 : Int32) < x8 → (post x7)) ∧ (¬ (9 : Int32) < x8 → (wpX6_fits x6 x4 x8 z0 (fun r1 => ((r1 = 0 → (wpX6_fit_161 k128 z0 post x4 x6 x8 (0 : Int32) x7)) ∧ (¬ r1 = 0 → (wpX6_fit_161 k128 z0 post x4 x6 x8 ((1 : Int32) <<< ((x8 + (9 : Int32)) &&& 31)) x7)))))))
def wpX6_fit_L128  (z0 : wSt) (post : Int32 → Prop) : Nat → Int32 → Int32 → Int32 → Int32 → Prop
  | 0 => fun _ _ _ _ => False
  | n + 1 => fun x4 x6 x7 x8 => wpX6_fit_128  (wpX6_fit_L128  z0 post n) z0 post x4 x6 x7 x8
def wpX6_fit_55 (k55 : Int32 → Int32 → Int32 → Prop) (z0 : wSt) (post : Int32 → Prop) (x4 : Int32) (x6 : Int32) (x7 : Int32) : Prop := ((x4 ≤ x7 → (∃ n, wpX6_fit_L128  z0 post n x4 x6 (0 : Int32) (-9 : Int32))) ∧ (¬ x4 ≤ x7 → (vp_in (x6 + ((2 : Int32) * x7)) 96 ∧ (wpX6_in ((w_l z0 34) (x6 + ((2 : Int32) * x7)).toNatClampNeg) (0 : Int64) (((w_i z0 5) - (1 : Int32)).toInt64) (fun r1 => ((r1 = 0 → (post (-2 : Int32))) ∧ (¬ r1 = 0 → (vp_in ((x6 + ((2 : Int32) * x7)) + (1 : Int32)) 96 ∧ (wpX6_in ((w_l z0 34) ((x6 + ((2 : Int32) * x7)) + (1 : Int32)).toNatClampNeg) (0 : Int64) (9 : Int64) (fun r2 => ((¬ r2 = 0 → (k55 x4 x6 (x7 + (1 : Int32)))) ∧ (r2 = 0 → (post (-2 : Int32))))))))))))))
def wpX6_fit_L55  (z0 : wSt) (post : Int32 → Prop) : Nat → Int32 → Int32 → Int32 → Prop
  | 0 => fun _ _ _ => False
  | n + 1 => fun x4 x6 x7 => wpX6_fit_55  (wpX6_fit_L55  z0 post n) z0 post x4 x6 x7
def wpX6_fit (x1 : Int32) (x2 : Int32) (x3 : Int32) (x4 : Int32) (z0 : wSt) (post : Int32 → Prop) : Prop := (wpX6_isSheet x1 x2 (fun r1 => ((r1 = 0 → (post (-1 : Int32))) ∧ (¬ r1 = 0 → (wpX6_in (x4.toInt64) (1 : Int64) (8 : Int64) (fun r2 => ((¬ r2 = 0 → (wpX6_lacksRow x1 x2 x3 ((2 : Int32) * x4) z0 (fun r3 => ((0 ≤ r3 → (∃ n, wpX6_fit_L55  z0 post n x4 (((24 : Int32) * x1) + x3) (0 : Int32))) ∧ (¬ 0 ≤ r3 → (post r3)))))) ∧ (r2 = 0 → (post (-1 : Int32))))))))))
set_option maxHeartbeats 4000000 in
set_option maxRecDepth 100000 in
theorem cX6_fit_c {l : Launch} {G : wG} {h : Nat → Nat} {x1 : Int32} {x2 : Int32} {x3 : Int32} {x4 : Int32} {post : Int32 → Prop} {z0 : wSt}  (hw : wpX6_fit x1 x2 x3 x4 z0 post) : Met l yX6_fit (.code yX6_fit cX6_fit 9 (some .int) :: BIG) { frames := 2, cells := 0, slots := 0, locals := 49 } (xPr G [.ref (h 0), .int x1, .int x2, .int x3, .int x4] (wsM G h z0)) (vp_Si post) 0 0 (fun _ => False) := by
  refine xm_ri (by decide) (Nat.le_of_ble_eq_true rfl) (fun p e s m args below meth c ls R Q hC hK hP hl hF hL hret => ?_)
  have hx := hC.1
  have hb := hC.2.1
  have hl : lv_has ls 9 [(0, .ref (h 0)), (1, .int x1), (2, .int x2), (3, .int x3), (4, .int x4)] := hl
  have B128 : ∀ n128 : Nat, ∀ (x4 : Int32) (x6 : Int32) (x7 : Int32) (x8 : Int32) (ls : Array Slot), wpX6_fit_L128  z0 post n128 x4 x6 x7 x8 → lv_has ls 9 [(0, .ref (h 0)), (4, .int x4), (6, .int x6), (7, .int x7), (8, .int x8)] → W p l e R s m args below meth c s.heap [] 0 0 Q (F0 m 128 ls []) := by
    intro n128
    induction n128 with
    | zero => intro x4 x6 x7 x8 ls hw hl; exact False.elim hw
    | succ n128 I128 =>
      have B161 : ∀ (x4 : Int32) (x6 : Int32) (x8 : Int32) (t0 : Int32) (t1 : Int32) (ls : Array Slot), wpX6_fit_161 (wpX6_fit_L128  z0 post n128) z0 post x4 x6 x8 t0 t1 → lv_has ls 9 [(0, .ref (h 0)), (4, .int x4), (6, .int x6), (8, .int x8)] → W p l e R s m args below meth c s.heap [] 0 0 Q (F0 m 161 ls [.int t0, .int t1]) := by
        intro x4 x6 x8 t0 t1 ls hw hl
        unfold wpX6_fit_161 at hw
        refine lv_ior hx hb dX6_fit_161 ?_
        refine lv_istore (lv' := [(7, .int (t1 ||| t0)), (0, .ref (h 0)), (4, .int x4), (6, .int x6), (8, .int x8)]) hx hb dX6_fit_162 hl (by decide) rfl (fun ls hl => ?_)
        refine lv_iinc (v := (x8 + (1 : Int32))) (lv' := [(8, .int (x8 + (1 : Int32))), (7, .int (t1 ||| t0)), (0, .ref (h 0)), (4, .int x4), (6, .int x6)]) hx hb dX6_fit_164 hl (k := 4) rfl rfl (by decide) rfl (fun ls hl => ?_)
        refine lv_goto (tgt := 128) hx hb dX6_fit_167 (by decide) ?_
        exact I128 x4 x6 (t1 ||| t0) (x8 + (1 : Int32)) _ hw (lv_sub hl [2, 3, 4, 1, 0] rfl)
      intro x4 x6 x7 x8 ls hw hl
      have hw : wpX6_fit_128  (wpX6_fit_L128  z0 post n128) z0 post x4 x6 x7 x8 := hw
      unfold wpX6_fit_128 at hw
      refine lv_iload hx hb dX6_fit_128 (lv_at hl 4 rfl) ?_
      refine lv_bipush (v := (9 : Int32)) hx hb dX6_fit_130 (by decide) ?_
      refine lv_icmp_gt (tgt := 170) hx hb dX6_fit_132 (by decide) (fun hc => ?_) (fun hc => ?_)
      · have hw := And.left hw hc
        refine lv_iload hx hb dX6_fit_170 (lv_at hl 3 rfl) ?_
        exact hret _ _ _ hw dX6_fit_172
      · have hw := And.right hw hc
        refine lv_iload hx hb dX6_fit_135 (lv_at hl 3 rfl) ?_
        refine lv_aload_n hx hb dX6_fit_137 rfl (lv_at hl 0 rfl) ?_
        refine lv_iload hx hb dX6_fit_138 (lv_at hl 2 rfl) ?_
        refine lv_iload hx hb dX6_fit_140 (lv_at hl 1 rfl) ?_
        refine lv_iload hx hb dX6_fit_142 (lv_at hl 4 rfl) ?_
        refine vp_callSi (xro (xr_V hC (cX6_fits_c (h := h) hw) ⟨rfl, rfl⟩ bw_925 calX6_fits ⟨Nat.le_trans (Nat.le_of_ble_eq_true rfl) hF, Nat.le_trans (Nat.le_of_ble_eq_true rfl) hL⟩ (rest := [.int x7]) (xpR hK hP rfl rfl) rfl hl rfl (Nat.le_of_ble_eq_true rfl) dX6_fit_144 ⟨Nat.zero_le _, Nat.zero_le _⟩)) (fun r1 hw => ?_)
        refine lv_if_eq (tgt := 160) hx hb dX6_fit_147 (by decide) (fun hc => ?_) (fun hc => ?_)
        · have hw := And.left hw hc
          refine lv_iconst (v := (0 : Int32)) hx hb dX6_fit_160 (by decide) ?_
          exact B161 x4 x6 x8 (0 : Int32) x7 _ hw (lv_sub hl [0, 1, 2, 4] rfl)
        · have hw := And.right hw hc
          refine lv_iconst (v := (1 : Int32)) hx hb dX6_fit_150 (by decide) ?_
          refine lv_iload hx hb dX6_fit_151 (lv_at hl 4 rfl) ?_
          refine lv_bipush (v := (9 : Int32)) hx hb dX6_fit_153 (by decide) ?_
          refine lv_iadd hx hb dX6_fit_155 ?_
          refine lv_ishl hx hb dX6_fit_156 ?_
          refine lv_goto (tgt := 161) hx hb dX6_fit_157 (by decide) ?_
          exact B161 x4 x6 x8 ((1 : Int32) <<< ((x8 + (9 : Int32)) &&& 31)) x7 _ hw (lv_sub hl [0, 1, 2, 4] rfl)
  have B55 : ∀ n55 : Nat, ∀ (x4 : Int32) (x6 : Int32) (x7 : Int32) (ls : Array Slot), wpX6_fit_L55  z0 post n55 x4 x6 x7 → lv_has ls 9 [(0, .ref (h 0)), (4, .int x4), (6, .int x6), (7, .int x7)] → W p l e R s m args below meth c s.heap [] 0 0 Q (F0 m 55 ls []) := by
    intro n55
    induction n55 with
    | zero => intro x4 x6 x7 ls hw hl; exact False.elim hw
    | succ n55 I55 =>
      intro x4 x6 x7 ls hw hl
      have hw : wpX6_fit_55  (wpX6_fit_L55  z0 post n55) z0 post x4 x6 x7 := hw
      unfold wpX6_fit_55 at hw
      refine lv_iload hx hb dX6_fit_55 (lv_at hl 3 rfl) ?_
      refine lv_iload hx hb dX6_fit_57 (lv_at hl 1 rfl) ?_
      refine lv_icmp_ge (tgt := 121) hx hb dX6_fit_59 (by decide) (fun hc => ?_) (fun hc => ?_)
      · have hw := And.left hw hc
        refine lv_iconst (v := (0 : Int32)) hx hb dX6_fit_121 (by decide) ?_
        refine lv_istore (lv' := [(7, .int (0 : Int32)), (0, .ref (h 0)), (4, .int x4), (6, .int x6)]) hx hb dX6_fit_122 hl (by decide) rfl (fun ls hl => ?_)
        refine lv_bipush (v := (-9 : Int32)) hx hb dX6_fit_124 (by decide) ?_
        refine lv_istore (lv' := [(8, .int (-9 : Int32)), (7, .int (0 : Int32)), (0, .ref (h 0)), (4, .int x4), (6, .int x6)]) hx hb dX6_fit_126 hl (by decide) rfl (fun ls hl => ?_)
        obtain ⟨j128, hw⟩ := hw
        exact B128 j128 x4 x6 (0 : Int32) (-9 : Int32) _ hw (lv_sub hl [2, 3, 4, 1, 0] rfl)
      · have hw := And.right hw hc
        refine lv_aload_n hx hb dX6_fit_62 rfl (lv_at hl 0 rfl) ?_
        refine rg_M_X6_0_34 hC hK hP dX6_fit_63 ?_
        refine lv_iload hx hb dX6_fit_66 (lv_at hl 2 rfl) ?_
        refine lv_iconst (v := (2 : Int32)) hx hb dX6_fit_68 (by decide) ?_
        refine lv_iload hx hb dX6_fit_69 (lv_at hl 3 rfl) ?_
        refine lv_imul hx hb dX6_fit_71 ?_
        refine lv_iadd hx hb dX6_fit_72 ?_
        refine rl_M_15 hC hK hP (And.left hw) dX6_fit_73 ?_
        have hw := And.right hw
        refine lv_lconst (v := (0 : Int64)) hx hb dX6_fit_74 (by decide) ?_
        refine lv_aload_n hx hb dX6_fit_75 rfl (lv_at hl 0 rfl) ?_
        refine rg_M_X6_0_5 hC hK hP dX6_fit_76 ?_
        refine lv_iconst (v := (1 : Int32)) hx hb dX6_fit_79 (by decide) ?_
        refine lv_isub hx hb dX6_fit_80 ?_
        refine lv_i2l (v := (((w_i z0 5) - (1 : Int32)).toInt64)) hx hb dX6_fit_81 rfl ?_
        refine vp_callSi (xro (xr_S hC (cX6_in_c hw) ⟨rfl, rfl⟩ bw_700 calX6_in ⟨Nat.le_trans (Nat.le_of_ble_eq_true rfl) hF, Nat.le_trans (Nat.le_of_ble_eq_true rfl) hL⟩ (rest := []) (xpS hK) rfl hl rfl (Nat.le_of_ble_eq_true rfl) dX6_fit_82 ⟨Nat.zero_le _, Nat.zero_le _⟩)) (fun r1 hw => ?_)
        refine lv_if_eq (tgt := 112) hx hb dX6_fit_85 (by decide) (fun hc => ?_) (fun hc => ?_)
        · have hw := And.left hw hc
          refine lv_bipush (v := (-2 : Int32)) hx hb dX6_fit_112 (by decide) ?_
          exact hret _ _ _ hw dX6_fit_114
        · have hw := And.right hw hc
          refine lv_aload_n hx hb dX6_fit_88 rfl (lv_at hl 0 rfl) ?_
          refine rg_M_X6_0_34 hC hK hP dX6_fit_89 ?_
          refine lv_iload hx hb dX6_fit_92 (lv_at hl 2 rfl) ?_
          refine lv_iconst (v := (2 : Int32)) hx hb dX6_fit_94 (by decide) ?_
          refine lv_iload hx hb dX6_fit_95 (lv_at hl 3 rfl) ?_
          refine lv_imul hx hb dX6_fit_97 ?_
          refine lv_iadd hx hb dX6_fit_98 ?_
          refine lv_iconst (v := (1 : Int32)) hx hb dX6_fit_99 (by decide) ?_
          refine lv_iadd hx hb dX6_fit_100 ?_
          refine rl_M_15 hC hK hP (And.left hw) dX6_fit_101 ?_
          have hw := And.right hw
          refine lv_lconst (v := (0 : Int64)) hx hb dX6_fit_102 (by decide) ?_
          refine lv_ldc2 (v := (9 : Int64)) hx hb hC.2.2.2.1 (hC.2.2.2.2 _ bw_704) dX6_fit_103 ?_
          refine vp_callSi (xro (xr_S hC (cX6_in_c hw) ⟨rfl, rfl⟩ bw_700 calX6_in ⟨Nat.le_trans (Nat.le_of_ble_eq_true rfl) hF, Nat.le_trans (Nat.le_of_ble_eq_true rfl) hL⟩ (rest := []) (xpS hK) rfl hl rfl (Nat.le_of_ble_eq_true rfl) dX6_fit_106 ⟨Nat.zero_le _, Nat.zero_le _⟩)) (fun r2 hw => ?_)
          refine lv_if_ne (tgt := 115) hx hb dX6_fit_109 (by decide) (fun hc => ?_) (fun hc => ?_)
          · have hw := And.left hw hc
            refine lv_iinc (v := (x7 + (1 : Int32))) (lv' := [(7, .int (x7 + (1 : Int32))), (0, .ref (h 0)), (4, .int x4), (6, .int x6)]) hx hb dX6_fit_115 hl (k := 3) rfl rfl (by decide) rfl (fun ls hl => ?_)
            refine lv_goto (tgt := 55) hx hb dX6_fit_118 (by decide) ?_
            exact I55 x4 x6 (x7 + (1 : Int32)) _ hw (lv_sub hl [1, 2, 3, 0] rfl)
          · have hw := And.right hw hc
            refine lv_bipush (v := (-2 : Int32)) hx hb dX6_fit_112 (by decide) ?_
            exact hret _ _ _ hw dX6_fit_114
  unfold wpX6_fit at hw
  refine lv_iload_n hx hb dX6_fit_0 rfl (lv_at hl 1 rfl) ?_
  refine lv_iload_n hx hb dX6_fit_1 rfl (lv_at hl 2 rfl) ?_
  refine vp_callSi (xro (xr_S hC (cX6_isSheet_c hw) ⟨rfl, rfl⟩ bw_903 calX6_isSheet ⟨Nat.le_trans (Nat.le_of_ble_eq_true rfl) hF, Nat.le_trans (Nat.le_of_ble_eq_true rfl) hL⟩ (rest := []) (xpS hK) rfl hl rfl (Nat.le_of_ble_eq_true rfl) dX6_fit_2 ⟨Nat.zero_le _, Nat.zero_le _⟩)) (fun r1 hw => ?_)
  refine lv_if_eq (tgt := 21) hx hb dX6_fit_5 (by decide) (fun hc => ?_) (fun hc => ?_)
  · have hw := And.left hw hc
    refine lv_iconst (v := (-1 : Int32)) hx hb dX6_fit_21 (by decide) ?_
    exact hret _ _ _ hw dX6_fit_22
  · have hw := And.right hw hc
    refine lv_iload hx hb dX6_fit_8 (lv_at hl 4 rfl) ?_
    refine lv_i2l (v := (x4.toInt64)) hx hb dX6_fit_10 rfl ?_
    refine lv_lconst (v := (1 : Int64)) hx hb dX6_fit_11 (by decide) ?_
    refine lv_ldc2 (v := (8 : Int64)) hx hb hC.2.2.2.1 (hC.2.2.2.2 _ bw_745) dX6_fit_12 ?_
    refine vp_callSi (xro (xr_S hC (cX6_in_c hw) ⟨rfl, rfl⟩ bw_700 calX6_in ⟨Nat.le_trans (Nat.le_of_ble_eq_true rfl) hF, Nat.le_trans (Nat.le_of_ble_eq_true rfl) hL⟩ (rest := []) (xpS hK) rfl hl rfl (Nat.le_of_ble_eq_true rfl) dX6_fit_15 ⟨Nat.zero_le _, Nat.zero_le _⟩)) (fun r2 hw => ?_)
    refine lv_if_ne (tgt := 23) hx hb dX6_fit_18 (by decide) (fun hc => ?_) (fun hc => ?_)
    · have hw := And.left hw hc
      refine lv_aload_n hx hb dX6_fit_23 rfl (lv_at hl 0 rfl) ?_
      refine lv_iload_n hx hb dX6_fit_24 rfl (lv_at hl 1 rfl) ?_
      refine lv_iload_n hx hb dX6_fit_25 rfl (lv_at hl 2 rfl) ?_
      refine lv_iload_n hx hb dX6_fit_26 rfl (lv_at hl 3 rfl) ?_
      refine lv_iconst (v := (2 : Int32)) hx hb dX6_fit_27 (by decide) ?_
      refine lv_iload hx hb dX6_fit_28 (lv_at hl 4 rfl) ?_
      refine lv_imul hx hb dX6_fit_30 ?_
      refine vp_callSi (xro (xr_V hC (cX6_lacksRow_c (h := h) hw) ⟨rfl, rfl⟩ bw_914 calX6_lacksRow ⟨Nat.le_trans (Nat.le_of_ble_eq_true rfl) hF, Nat.le_trans (Nat.le_of_ble_eq_true rfl) hL⟩ (rest := []) (xpR hK hP rfl rfl) rfl hl rfl (Nat.le_of_ble_eq_true rfl) dX6_fit_31 ⟨Nat.zero_le _, Nat.zero_le _⟩)) (fun r3 hw => ?_)
      refine lv_istore (lv' := [(5, .int r3), (0, .ref (h 0)), (1, .int x1), (2, .int x2), (3, .int x3), (4, .int x4)]) hx hb dX6_fit_34 hl (by decide) rfl (fun ls hl => ?_)
      refine lv_iload hx hb dX6_fit_36 (lv_at hl 0 rfl) ?_
      refine lv_if_ge (tgt := 44) hx hb dX6_fit_38 (by decide) (fun hc => ?_) (fun hc => ?_)
      · have hw := And.left hw hc
        refine lv_bipush (v := (24 : Int32)) hx hb dX6_fit_44 (by decide) ?_
        refine lv_iload_n hx hb dX6_fit_46 rfl (lv_at hl 2 rfl) ?_
        refine lv_imul hx hb dX6_fit_47 ?_
        refine lv_iload_n hx hb dX6_fit_48 rfl (lv_at hl 4 rfl) ?_
        refine lv_iadd hx hb dX6_fit_49 ?_
        refine lv_istore (lv' := [(6, .int (((24 : Int32) * x1) + x3)), (5, .int r3), (0, .ref (h 0)), (1, .int x1), (2, .int x2), (3, .int x3), (4, .int x4)]) hx hb dX6_fit_50 hl (by decide) rfl (fun ls hl => ?_)
        refine lv_iconst (v := (0 : Int32)) hx hb dX6_fit_52 (by decide) ?_
        refine lv_istore (lv' := [(7, .int (0 : Int32)), (6, .int (((24 : Int32) * x1) + x3)), (5, .int r3), (0, .ref (h 0)), (1, .int x1), (2, .int x2), (3, .int x3), (4, .int x4)]) hx hb dX6_fit_53 hl (by decide) rfl (fun ls hl => ?_)
        obtain ⟨j55, hw⟩ := hw
        exact B55 j55 x4 (((24 : Int32) * x1) + x3) (0 : Int32) _ hw (lv_sub hl [3, 7, 1, 0] rfl)
      · have hw := And.right hw hc
        refine lv_iload hx hb dX6_fit_41 (lv_at hl 0 rfl) ?_
        exact hret _ _ _ hw dX6_fit_43
    · have hw := And.right hw hc
      refine lv_iconst (v := (-1 : Int32)) hx hb dX6_fit_21 (by decide) ?_
      exact hret _ _ _ hw dX6_fit_22
