def wpX6_village_49 (k49 : Int32 → (wSt) → Prop) (post : Int32 → (wSt) → Prop) (x2 : Int32) (z0 : wSt) : Prop := (((w_i z0 19) ≤ x2 → (post (w_i z0 5) z0)) ∧ (¬ (w_i z0 19) ≤ x2 → (vp_in ((3 : Int32) * x2) 24 ∧ (vp_in (((3 : Int32) * x2) + (1 : Int32)) 24 ∧ (vp_in (((3 : Int32) * x2) + (2 : Int32)) 24 ∧ (wpX6_add ((w_a z0 20) ((3 : Int32) * x2).toNatClampNeg) ((w_a z0 20) (((3 : Int32) * x2) + (1 : Int32)).toNatClampNeg) ((w_a z0 20) (((3 : Int32) * x2) + (2 : Int32)).toNatClampNeg) z0 (fun u => ∀ z1 : wSt, z1 = u → (k49 (x2 + (1 : Int32)) z1))))))))
def wpX6_village_L49  (post : Int32 → (wSt) → Prop) : Nat → Int32 → (wSt) → Prop
  | 0 => fun _ _ => False
  | n + 1 => fun x2 z0 => wpX6_village_49  (wpX6_village_L49  post n) post x2 z0
def wpX6_village_14  (post : Int32 → (wSt) → Prop) (x1 : Int32) (z0 : wSt) : Prop := (∀ z1 : wSt, z1 = (w_si z0 17 (0 : Int32)) → ((¬ x1 = 0 → (∀ z2 : wSt, z2 = (w_si z1 5 (0 : Int32)) → (∀ z3 : wSt, z3 = (w_si z2 14 (0 : Int32)) → (∀ z4 : wSt, z4 = (w_si z3 12 (9 : Int32)) → (∃ n, wpX6_village_L49  post n (0 : Int32) z4))))) ∧ (x1 = 0 → (post ((-20 : Int32) - (w_i z1 18)) z1))))
def wpX6_village (z0 : wSt) (post : Int32 → (wSt) → Prop) : Prop := (wpX6_readVillage z0 (fun r1 u => ∀ z1 : wSt, z1 = u → ((¬ r1 = 0 → (wpX6_village_14  post r1 z1)) ∧ (r1 = 0 → (wpX6_nextByte z1 (fun r2 u => ∀ z2 : wSt, z2 = u → (wpX6_village_14  post r1 z2)))))))
set_option maxHeartbeats 4000000 in
set_option maxRecDepth 100000 in
theorem cX6_village_c {l : Launch} {G : wG} {h : Nat → Nat} {sz : Nat}  {post : Int32 → (wSt) → Prop} {z0 : wSt}  (hw : wpX6_village z0 post) : Met l yX6_village (.code yX6_village cX6_village 3 (some .int) :: BIG) { frames := 4, cells := 0, slots := 0, locals := 94 } (xPw G [.ref (h 0)] (wsM G h z0) sz) (xQi G post (fun q => (wsM G h q)) (va_A (wsM G h z0) sz)) 0 0 (va_A (wsM G h z0) sz) := by
  refine xm_wi (by decide) (Nat.le_of_ble_eq_true rfl) (fun p e s m args below meth c A ls R Q hC hK hA hP hD hS hl hF hL hret => ?_)
  have hx := hC.1
  have hb := hC.2.1
  have hl : lv_has ls 3 [(0, .ref (h 0))] := hl
  have B49 : ∀ n49 : Nat, ∀ (x2 : Int32) (z0 : wSt) (H : Heap) (locs : List Loc) (ls : Array Slot), wpX6_village_L49  post n49 x2 z0 → va_P G.1 vwCl (wsM G h z0) H → va_D A (wsM G h z0) → va_S A s.heap H locs → lv_has ls 3 [(0, .ref (h 0)), (2, .int x2)] → W p l e R s m args below meth c H locs 0 0 Q (F0 m 49 ls []) := by
    intro n49
    induction n49 with
    | zero => intro x2 z0 H locs ls hw hP hD hS hl; exact False.elim hw
    | succ n49 I49 =>
      intro x2 z0 H locs ls hw hP hD hS hl
      have hw : wpX6_village_49  (wpX6_village_L49  post n49) post x2 z0 := hw
      unfold wpX6_village_49 at hw
      refine lv_iload_n hx hb dX6_village_49 rfl (lv_at hl 1 rfl) ?_
      refine lv_aload_n hx hb dX6_village_50 rfl (lv_at hl 0 rfl) ?_
      refine rg_M_X6_0_19 hC hK hP dX6_village_51 ?_
      refine lv_icmp_ge (tgt := 95) hx hb dX6_village_54 (by decide) (fun hc => ?_) (fun hc => ?_)
      · have hw := And.left hw hc
        refine lv_aload_n hx hb dX6_village_95 rfl (lv_at hl 0 rfl) ?_
        refine rg_M_X6_0_5 hC hK hP dX6_village_96 ?_
        exact hret _ _ _ _ _ _ hw hP hD hS dX6_village_99
      · have hw := And.right hw hc
        refine lv_aload_n hx hb dX6_village_57 rfl (lv_at hl 0 rfl) ?_
        refine lv_aload_n hx hb dX6_village_58 rfl (lv_at hl 0 rfl) ?_
        refine rg_M_X6_0_20 hC hK hP dX6_village_59 ?_
        refine lv_iconst (v := (3 : Int32)) hx hb dX6_village_62 (by decide) ?_
        refine lv_iload_n hx hb dX6_village_63 rfl (lv_at hl 1 rfl) ?_
        refine lv_imul hx hb dX6_village_64 ?_
        refine rl_M_8 hC hK hP (And.left hw) dX6_village_65 ?_
        have hw := And.right hw
        refine lv_aload_n hx hb dX6_village_66 rfl (lv_at hl 0 rfl) ?_
        refine rg_M_X6_0_20 hC hK hP dX6_village_67 ?_
        refine lv_iconst (v := (3 : Int32)) hx hb dX6_village_70 (by decide) ?_
        refine lv_iload_n hx hb dX6_village_71 rfl (lv_at hl 1 rfl) ?_
        refine lv_imul hx hb dX6_village_72 ?_
        refine lv_iconst (v := (1 : Int32)) hx hb dX6_village_73 (by decide) ?_
        refine lv_iadd hx hb dX6_village_74 ?_
        refine rl_M_8 hC hK hP (And.left hw) dX6_village_75 ?_
        have hw := And.right hw
        refine lv_aload_n hx hb dX6_village_76 rfl (lv_at hl 0 rfl) ?_
        refine rg_M_X6_0_20 hC hK hP dX6_village_77 ?_
        refine lv_iconst (v := (3 : Int32)) hx hb dX6_village_80 (by decide) ?_
        refine lv_iload_n hx hb dX6_village_81 rfl (lv_at hl 1 rfl) ?_
        refine lv_imul hx hb dX6_village_82 ?_
        refine lv_iconst (v := (2 : Int32)) hx hb dX6_village_83 (by decide) ?_
        refine lv_iadd hx hb dX6_village_84 ?_
        refine rl_M_8 hC hK hP (And.left hw) dX6_village_85 ?_
        have hw := And.right hw
        refine xc_wv (S := wSt) (wsz := fun q => (wsM G h q)) (f := fun u => u) (xr_V hC (cX6_add_c (h := h) hw) ⟨rfl, rfl⟩ bw_705 calX6_add ⟨Nat.le_trans (Nat.le_of_ble_eq_true rfl) hF, Nat.le_trans (Nat.le_of_ble_eq_true rfl) hL⟩ (rest := []) (xpV hK (cut_all_M) hP hD rfl rfl) rfl hl rfl (Nat.le_of_ble_eq_true rfl) dX6_village_86 ⟨Nat.zero_le _, Nat.zero_le _⟩) (cut_all_M) hP hD hS hA (fun u z1 H locs hz1 hw hP hD hS => ?_)
        have hw := hw z1 hz1
        refine lv_iinc (v := (x2 + (1 : Int32))) (lv' := [(2, .int (x2 + (1 : Int32))), (0, .ref (h 0))]) hx hb dX6_village_89 hl (k := 1) rfl rfl (by decide) rfl (fun ls hl => ?_)
        refine lv_goto (tgt := 49) hx hb dX6_village_92 (by decide) ?_
        exact I49 (x2 + (1 : Int32)) z1 _ _ _ hw hP hD hS (lv_sub hl [1, 0] rfl)
  have B14 : ∀ (x1 : Int32) (z0 : wSt) (H : Heap) (locs : List Loc) (ls : Array Slot), wpX6_village_14  post x1 z0 → va_P G.1 vwCl (wsM G h z0) H → va_D A (wsM G h z0) → va_S A s.heap H locs → lv_has ls 3 [(0, .ref (h 0)), (1, .int x1)] → W p l e R s m args below meth c H locs 0 0 Q (F0 m 14 ls []) := by
    intro x1 z0 H locs ls hw hP hD hS hl
    unfold wpX6_village_14 at hw
    refine lv_aload_n hx hb dX6_village_14 rfl (lv_at hl 0 rfl) ?_
    refine lv_iconst (v := (0 : Int32)) hx hb dX6_village_15 (by decide) ?_
    refine rp_M_X6_0_17 hC hK hP hD hS dX6_village_16 (fun z1 H locs hz1 hP hD hS => ?_)
    have hw := hw z1 hz1
    refine lv_iload_n hx hb dX6_village_19 rfl (lv_at hl 1 rfl) ?_
    refine lv_if_ne (tgt := 31) hx hb dX6_village_20 (by decide) (fun hc => ?_) (fun hc => ?_)
    · have hw := And.left hw hc
      refine lv_aload_n hx hb dX6_village_31 rfl (lv_at hl 0 rfl) ?_
      refine lv_iconst (v := (0 : Int32)) hx hb dX6_village_32 (by decide) ?_
      refine rp_M_X6_0_5 hC hK hP hD hS dX6_village_33 (fun z2 H locs hz1 hP hD hS => ?_)
      have hw := hw z2 hz1
      refine lv_aload_n hx hb dX6_village_36 rfl (lv_at hl 0 rfl) ?_
      refine lv_iconst (v := (0 : Int32)) hx hb dX6_village_37 (by decide) ?_
      refine rp_M_X6_0_14 hC hK hP hD hS dX6_village_38 (fun z3 H locs hz1 hP hD hS => ?_)
      have hw := hw z3 hz1
      refine lv_aload_n hx hb dX6_village_41 rfl (lv_at hl 0 rfl) ?_
      refine lv_bipush (v := (9 : Int32)) hx hb dX6_village_42 (by decide) ?_
      refine rp_M_X6_0_12 hC hK hP hD hS dX6_village_44 (fun z4 H locs hz1 hP hD hS => ?_)
      have hw := hw z4 hz1
      refine lv_iconst (v := (0 : Int32)) hx hb dX6_village_47 (by decide) ?_
      refine lv_istore_n (lv' := [(2, .int (0 : Int32)), (0, .ref (h 0)), (1, .int x1)]) hx hb dX6_village_48 rfl hl (by decide) rfl (fun ls hl => ?_)
      obtain ⟨j49, hw⟩ := hw
      exact B49 j49 (0 : Int32) z4 _ _ _ hw hP hD hS (lv_sub hl [1, 0] rfl)
    · have hw := And.right hw hc
      refine lv_bipush (v := (-20 : Int32)) hx hb dX6_village_23 (by decide) ?_
      refine lv_aload_n hx hb dX6_village_25 rfl (lv_at hl 0 rfl) ?_
      refine rg_M_X6_0_18 hC hK hP dX6_village_26 ?_
      refine lv_isub hx hb dX6_village_29 ?_
      exact hret _ _ _ _ _ _ hw hP hD hS dX6_village_30
  unfold wpX6_village at hw
  refine lv_aload_n hx hb dX6_village_0 rfl (lv_at hl 0 rfl) ?_
  refine xc_wi (S := wSt) (wsz := fun q => (wsM G h q)) (f := fun u => u) (xr_V hC (cX6_readVillage_c (h := h) hw) ⟨rfl, rfl⟩ bw_753 calX6_readVillage ⟨Nat.le_trans (Nat.le_of_ble_eq_true rfl) hF, Nat.le_trans (Nat.le_of_ble_eq_true rfl) hL⟩ (rest := []) (xpV hK (cut_all_M) hP hD rfl rfl) rfl hl rfl (Nat.le_of_ble_eq_true rfl) dX6_village_1 ⟨Nat.zero_le _, Nat.zero_le _⟩) (cut_all_M) hP hD hS hA (fun r1 u z1 H locs hz1 hw hP hD hS => ?_)
  have hw := hw z1 hz1
  refine lv_istore_n (lv' := [(1, .int r1), (0, .ref (h 0))]) hx hb dX6_village_4 rfl hl (by decide) rfl (fun ls hl => ?_)
  refine lv_iload_n hx hb dX6_village_5 rfl (lv_at hl 0 rfl) ?_
  refine lv_if_ne (tgt := 14) hx hb dX6_village_6 (by decide) (fun hc => ?_) (fun hc => ?_)
  · have hw := And.left hw hc
    exact B14 r1 z1 _ _ _ hw hP hD hS (lv_sub hl [1, 0] rfl)
  · have hw := And.right hw hc
    refine lv_aload_n hx hb dX6_village_9 rfl (lv_at hl 1 rfl) ?_
    refine xc_wi (S := wSt) (wsz := fun q => (wsM G h q)) (f := fun u => u) (xr_V hC (cX6_nextByte_c (h := h) hw) ⟨rfl, rfl⟩ bw_761 calX6_nextByte ⟨Nat.le_trans (Nat.le_of_ble_eq_true rfl) hF, Nat.le_trans (Nat.le_of_ble_eq_true rfl) hL⟩ (rest := []) (xpV hK (cut_all_M) hP hD rfl rfl) rfl hl rfl (Nat.le_of_ble_eq_true rfl) dX6_village_10 ⟨Nat.zero_le _, Nat.zero_le _⟩) (cut_all_M) hP hD hS hA (fun r2 u z2 H locs hz1 hw hP hD hS => ?_)
    have hw := hw z2 hz1
    refine lv_pop hx hb dX6_village_13 rfl ?_
    exact B14 r1 z2 _ _ _ hw hP hD hS (lv_sub hl [1, 0] rfl)
