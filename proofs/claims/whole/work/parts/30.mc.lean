def wpX6_tryOne_215  (post : Int32 → (wSt) → Prop) (t0 : Int32) (z0 : wSt) : Prop := (∀ z1 : wSt, z1 = (w_si z0 22 t0) → (∀ z2 : wSt, z2 = (w_si z1 23 ((w_i z1 23) + (1 : Int32))) → (post (1 : Int32) z2)))
def wpX6_tryOne_168  (post : Int32 → (wSt) → Prop) (x1 : Int32) (z0 : wSt) : Prop := (∀ z1 : wSt, z1 = (w_si z0 24 x1) → (wpX6_wane (w_i z1 21) (fun r1 => (∀ z2 : wSt, z2 = (w_si z1 21 r1) → ((((w_i z2 22) + (w_i z2 8)) ≤ (999 : Int32) → (wpX6_tryOne_215  post ((w_i z2 22) + (w_i z2 8)) z2)) ∧ (¬ ((w_i z2 22) + (w_i z2 8)) ≤ (999 : Int32) → (wpX6_tryOne_215  post (999 : Int32) z2)))))))
def wpX6_tryOne_101  (post : Int32 → (wSt) → Prop) (x1 : Int32) (t0 : Int32) (z0 : wSt) : Prop := (∀ z1 : wSt, z1 = (w_si z0 25 t0) → (vp_in x1 6 ∧ (wpX6_isSweet ((w_a z1 0) x1.toNatClampNeg) (w_i z1 21) (fun r1 => (w_zb r1 ∧ (∀ z2 : wSt, z2 = (w_si z1 26 r1) → (∀ z3 : wSt, z3 = (w_si z2 22 ((w_i z2 22) - (w_i z2 25))) → (wpX6_feltBy x1 z3 (fun r2 => (wpX6_most9 ((w_i z3 21) + r2) (fun r3 => (∀ z4 : wSt, z4 = (w_si z3 21 r3) → (vp_in x1 6 ∧ (vp_in x1 6 ∧ ∀ z5 : wSt, z5 = (w_sa z4 27 (upd (w_a z4 27) x1.toNatClampNeg ((w_i z4 23) + ((w_a z4 2) x1.toNatClampNeg)))) → (wpX6_tryOne_168  post x1 z5)))))))))))))))
def wpX6_tryOne_61  (post : Int32 → (wSt) → Prop) (x1 : Int32) (t0 : Int32) (z0 : wSt) : Prop := (vp_in x1 6 ∧ (wpX6_pailsOf ((w_a z0 0) x1.toNatClampNeg) (w_i z0 21) (fun r1 => ((t0 = 0 → (((w_i z0 22) ≤ r1 → (wpX6_tryOne_101  post x1 (w_i z0 22) z0)) ∧ (¬ (w_i z0 22) ≤ r1 → (wpX6_tryOne_101  post x1 r1 z0)))) ∧ (¬ t0 = 0 → (wpX6_tryOne_101  post x1 (0 : Int32) z0))))))
def wpX6_tryOne_60  (post : Int32 → (wSt) → Prop) (x1 : Int32) (z0 : wSt) : Prop := (wpX6_tryOne_61  post x1 (0 : Int32) z0)
def wpX6_tryOne (x1 : Int32) (z0 : wSt) (post : Int32 → (wSt) → Prop) : Prop := (∀ z1 : wSt, z1 = (w_si z0 25 (0 : Int32)) → (∀ z2 : wSt, z2 = (w_si z1 26 (0 : Int32)) → ((x1 = (9 : Int32) → (wpX6_tryOne_168  post x1 z2)) ∧ (¬ x1 = (9 : Int32) → (vp_in x1 6 ∧ ((((w_a z2 27) x1.toNatClampNeg) ≤ (w_i z2 23) → (((w_i z2 24) = (9 : Int32) → (wpX6_tryOne_60  post x1 z2)) ∧ (¬ (w_i z2 24) = (9 : Int32) → (vp_in x1 6 ∧ (wpX6_has ((w_a z2 3) x1.toNatClampNeg) (w_i z2 24) (fun r1 => ((r1 = 0 → (wpX6_tryOne_60  post x1 z2)) ∧ (¬ r1 = 0 → (wpX6_tryOne_61  post x1 (1 : Int32) z2))))))))) ∧ (¬ ((w_a z2 27) x1.toNatClampNeg) ≤ (w_i z2 23) → (post (0 : Int32) z2))))))))
set_option maxHeartbeats 4000000 in
set_option maxRecDepth 100000 in
theorem cX6_tryOne_c {l : Launch} {G : wG} {h : Nat → Nat} {sz : Nat} {x1 : Int32} {post : Int32 → (wSt) → Prop} {z0 : wSt}  (hw : wpX6_tryOne x1 z0 post) : Met l yX6_tryOne (.code yX6_tryOne cX6_tryOne 4 (some .boolean) :: BIG) { frames := 1, cells := 0, slots := 0, locals := 22 } (xPw G [.ref (h 0), .int x1] (wsM G h z0) sz) (xQi G post (fun q => (wsM G h q)) (va_A (wsM G h z0) sz)) 0 0 (va_A (wsM G h z0) sz) := by
  refine xm_wz (by decide) (Nat.le_of_ble_eq_true rfl) (fun p e s m args below meth c A ls R Q hC hK hA hP hD hS hl hF hL hret => ?_)
  have hx := hC.1
  have hb := hC.2.1
  have hl : lv_has ls 4 [(0, .ref (h 0)), (1, .int x1)] := hl
  have B215 : ∀ (t0 : Int32) (z0 : wSt) (H : Heap) (locs : List Loc) (ls : Array Slot), wpX6_tryOne_215  post t0 z0 → va_P G.1 vwCl (wsM G h z0) H → va_D A (wsM G h z0) → va_S A s.heap H locs → lv_has ls 4 [(0, .ref (h 0))] → W p l e R s m args below meth c H locs 0 0 Q (F0 m 215 ls [.int t0, .ref (h 0)]) := by
    intro t0 z0 H locs ls hw hP hD hS hl
    unfold wpX6_tryOne_215 at hw
    refine rp_M_X6_0_22 hC hK hP hD hS dX6_tryOne_215 (fun z1 H locs hz1 hP hD hS => ?_)
    have hw := hw z1 hz1
    refine lv_aload_n hx hb dX6_tryOne_218 rfl (lv_at hl 0 rfl) ?_
    refine lv_dup hx hb dX6_tryOne_219 rfl ?_
    refine rg_M_X6_0_23 hC hK hP dX6_tryOne_220 ?_
    refine lv_iconst (v := (1 : Int32)) hx hb dX6_tryOne_223 (by decide) ?_
    refine lv_iadd hx hb dX6_tryOne_224 ?_
    refine rp_M_X6_0_23 hC hK hP hD hS dX6_tryOne_225 (fun z2 H locs hz1 hP hD hS => ?_)
    have hw := hw z2 hz1
    refine lv_iconst (v := (1 : Int32)) hx hb dX6_tryOne_228 (by decide) ?_
    exact hret _ _ _ _ _ _ rfl hw hP hD hS dX6_tryOne_229
  have B168 : ∀ (x1 : Int32) (z0 : wSt) (H : Heap) (locs : List Loc) (ls : Array Slot), wpX6_tryOne_168  post x1 z0 → va_P G.1 vwCl (wsM G h z0) H → va_D A (wsM G h z0) → va_S A s.heap H locs → lv_has ls 4 [(0, .ref (h 0)), (1, .int x1)] → W p l e R s m args below meth c H locs 0 0 Q (F0 m 168 ls []) := by
    intro x1 z0 H locs ls hw hP hD hS hl
    unfold wpX6_tryOne_168 at hw
    refine lv_aload_n hx hb dX6_tryOne_168 rfl (lv_at hl 0 rfl) ?_
    refine lv_iload_n hx hb dX6_tryOne_169 rfl (lv_at hl 1 rfl) ?_
    refine rp_M_X6_0_24 hC hK hP hD hS dX6_tryOne_170 (fun z1 H locs hz1 hP hD hS => ?_)
    have hw := hw z1 hz1
    refine lv_aload_n hx hb dX6_tryOne_173 rfl (lv_at hl 0 rfl) ?_
    refine lv_aload_n hx hb dX6_tryOne_174 rfl (lv_at hl 0 rfl) ?_
    refine rg_M_X6_0_21 hC hK hP dX6_tryOne_175 ?_
    refine vp_callSi (xro (xr_S hC (cX6_wane_c hw) ⟨rfl, rfl⟩ bw_813 calX6_wane ⟨Nat.le_trans (Nat.le_of_ble_eq_true rfl) hF, Nat.le_trans (Nat.le_of_ble_eq_true rfl) hL⟩ (rest := [.ref (h 0)]) (xpS hK) rfl hl rfl (Nat.le_of_ble_eq_true rfl) dX6_tryOne_178 ⟨Nat.zero_le _, Nat.zero_le _⟩)) (fun r1 hw => ?_)
    refine rp_M_X6_0_21 hC hK hP hD hS dX6_tryOne_181 (fun z2 H locs hz1 hP hD hS => ?_)
    have hw := hw z2 hz1
    refine lv_aload_n hx hb dX6_tryOne_184 rfl (lv_at hl 0 rfl) ?_
    refine lv_aload_n hx hb dX6_tryOne_185 rfl (lv_at hl 0 rfl) ?_
    refine rg_M_X6_0_22 hC hK hP dX6_tryOne_186 ?_
    refine lv_aload_n hx hb dX6_tryOne_189 rfl (lv_at hl 0 rfl) ?_
    refine rg_M_X6_0_8 hC hK hP dX6_tryOne_190 ?_
    refine lv_iadd hx hb dX6_tryOne_193 ?_
    refine lv_sipush (v := (999 : Int32)) hx hb dX6_tryOne_194 (by decide) ?_
    refine lv_icmp_le (tgt := 206) hx hb dX6_tryOne_197 (by decide) (fun hc => ?_) (fun hc => ?_)
    · have hw := And.left hw hc
      refine lv_aload_n hx hb dX6_tryOne_206 rfl (lv_at hl 0 rfl) ?_
      refine rg_M_X6_0_22 hC hK hP dX6_tryOne_207 ?_
      refine lv_aload_n hx hb dX6_tryOne_210 rfl (lv_at hl 0 rfl) ?_
      refine rg_M_X6_0_8 hC hK hP dX6_tryOne_211 ?_
      refine lv_iadd hx hb dX6_tryOne_214 ?_
      exact B215 ((w_i z2 22) + (w_i z2 8)) z2 _ _ _ hw hP hD hS (lv_sub hl [0] rfl)
    · have hw := And.right hw hc
      refine lv_sipush (v := (999 : Int32)) hx hb dX6_tryOne_200 (by decide) ?_
      refine lv_goto (tgt := 215) hx hb dX6_tryOne_203 (by decide) ?_
      exact B215 (999 : Int32) z2 _ _ _ hw hP hD hS (lv_sub hl [0] rfl)
  have B101 : ∀ (x1 : Int32) (t0 : Int32) (z0 : wSt) (H : Heap) (locs : List Loc) (ls : Array Slot), wpX6_tryOne_101  post x1 t0 z0 → va_P G.1 vwCl (wsM G h z0) H → va_D A (wsM G h z0) → va_S A s.heap H locs → lv_has ls 4 [(0, .ref (h 0)), (1, .int x1)] → W p l e R s m args below meth c H locs 0 0 Q (F0 m 101 ls [.int t0, .ref (h 0)]) := by
    intro x1 t0 z0 H locs ls hw hP hD hS hl
    unfold wpX6_tryOne_101 at hw
    refine rp_M_X6_0_25 hC hK hP hD hS dX6_tryOne_101 (fun z1 H locs hz1 hP hD hS => ?_)
    have hw := hw z1 hz1
    refine lv_aload_n hx hb dX6_tryOne_104 rfl (lv_at hl 0 rfl) ?_
    refine lv_aload_n hx hb dX6_tryOne_105 rfl (lv_at hl 0 rfl) ?_
    refine rg_M_X6_0_0 hC hK hP dX6_tryOne_106 ?_
    refine lv_iload_n hx hb dX6_tryOne_109 rfl (lv_at hl 1 rfl) ?_
    refine rl_M_1 hC hK hP (And.left hw) dX6_tryOne_110 ?_
    have hw := And.right hw
    refine lv_aload_n hx hb dX6_tryOne_111 rfl (lv_at hl 0 rfl) ?_
    refine rg_M_X6_0_21 hC hK hP dX6_tryOne_112 ?_
    refine vp_callSi (xro (xr_S hC (cX6_isSweet_c hw) ⟨rfl, rfl⟩ bw_803 calX6_isSweet ⟨Nat.le_trans (Nat.le_of_ble_eq_true rfl) hF, Nat.le_trans (Nat.le_of_ble_eq_true rfl) hL⟩ (rest := [.ref (h 0)]) (xpS hK) rfl hl rfl (Nat.le_of_ble_eq_true rfl) dX6_tryOne_115 ⟨Nat.zero_le _, Nat.zero_le _⟩)) (fun r1 hw => ?_)
    refine rp_M_X6_0_26 (And.left hw) hC hK hP hD hS dX6_tryOne_118 (fun z2 H locs hz1 hP hD hS => ?_)
    have hw := And.right hw z2 hz1
    refine lv_aload_n hx hb dX6_tryOne_121 rfl (lv_at hl 0 rfl) ?_
    refine lv_dup hx hb dX6_tryOne_122 rfl ?_
    refine rg_M_X6_0_22 hC hK hP dX6_tryOne_123 ?_
    refine lv_aload_n hx hb dX6_tryOne_126 rfl (lv_at hl 0 rfl) ?_
    refine rg_M_X6_0_25 hC hK hP dX6_tryOne_127 ?_
    refine lv_isub hx hb dX6_tryOne_130 ?_
    refine rp_M_X6_0_22 hC hK hP hD hS dX6_tryOne_131 (fun z3 H locs hz1 hP hD hS => ?_)
    have hw := hw z3 hz1
    refine lv_aload_n hx hb dX6_tryOne_134 rfl (lv_at hl 0 rfl) ?_
    refine lv_aload_n hx hb dX6_tryOne_135 rfl (lv_at hl 0 rfl) ?_
    refine rg_M_X6_0_21 hC hK hP dX6_tryOne_136 ?_
    refine lv_aload_n hx hb dX6_tryOne_139 rfl (lv_at hl 0 rfl) ?_
    refine lv_iload_n hx hb dX6_tryOne_140 rfl (lv_at hl 1 rfl) ?_
    refine vp_callSi (xro (xr_V hC (cX6_feltBy_c (h := h) hw) ⟨rfl, rfl⟩ bw_806 calX6_feltBy ⟨Nat.le_trans (Nat.le_of_ble_eq_true rfl) hF, Nat.le_trans (Nat.le_of_ble_eq_true rfl) hL⟩ (rest := [.int (w_i z3 21), .ref (h 0)]) (xpR hK hP rfl rfl) rfl hl rfl (Nat.le_of_ble_eq_true rfl) dX6_tryOne_141 ⟨Nat.zero_le _, Nat.zero_le _⟩)) (fun r2 hw => ?_)
    refine lv_iadd hx hb dX6_tryOne_144 ?_
    refine vp_callSi (xro (xr_S hC (cX6_most9_c hw) ⟨rfl, rfl⟩ bw_810 calX6_most9 ⟨Nat.le_trans (Nat.le_of_ble_eq_true rfl) hF, Nat.le_trans (Nat.le_of_ble_eq_true rfl) hL⟩ (rest := [.ref (h 0)]) (xpS hK) rfl hl rfl (Nat.le_of_ble_eq_true rfl) dX6_tryOne_145 ⟨Nat.zero_le _, Nat.zero_le _⟩)) (fun r3 hw => ?_)
    refine rp_M_X6_0_21 hC hK hP hD hS dX6_tryOne_148 (fun z4 H locs hz1 hP hD hS => ?_)
    have hw := hw z4 hz1
    refine lv_aload_n hx hb dX6_tryOne_151 rfl (lv_at hl 0 rfl) ?_
    refine rg_M_X6_0_27 hC hK hP dX6_tryOne_152 ?_
    refine lv_iload_n hx hb dX6_tryOne_155 rfl (lv_at hl 1 rfl) ?_
    refine lv_aload_n hx hb dX6_tryOne_156 rfl (lv_at hl 0 rfl) ?_
    refine rg_M_X6_0_23 hC hK hP dX6_tryOne_157 ?_
    refine lv_aload_n hx hb dX6_tryOne_160 rfl (lv_at hl 0 rfl) ?_
    refine rg_M_X6_0_2 hC hK hP dX6_tryOne_161 ?_
    refine lv_iload_n hx hb dX6_tryOne_164 rfl (lv_at hl 1 rfl) ?_
    refine rl_M_3 hC hK hP (And.left hw) dX6_tryOne_165 ?_
    have hw := And.right hw
    refine lv_iadd hx hb dX6_tryOne_166 ?_
    refine rs_M_9 hC hK hP hD hS (And.left hw) dX6_tryOne_167 (fun z5 H locs hz1 hP hD hS => ?_)
    have hw := And.right hw z5 hz1
    exact B168 x1 z5 _ _ _ hw hP hD hS (lv_sub hl [0, 1] rfl)
  have B61 : ∀ (x1 : Int32) (t0 : Int32) (z0 : wSt) (H : Heap) (locs : List Loc) (ls : Array Slot), wpX6_tryOne_61  post x1 t0 z0 → va_P G.1 vwCl (wsM G h z0) H → va_D A (wsM G h z0) → va_S A s.heap H locs → lv_has ls 4 [(0, .ref (h 0)), (1, .int x1)] → W p l e R s m args below meth c H locs 0 0 Q (F0 m 61 ls [.int t0]) := by
    intro x1 t0 z0 H locs ls hw hP hD hS hl
    unfold wpX6_tryOne_61 at hw
    refine lv_istore_n (lv' := [(2, .int t0), (0, .ref (h 0)), (1, .int x1)]) hx hb dX6_tryOne_61 rfl hl (by decide) rfl (fun ls hl => ?_)
    refine lv_aload_n hx hb dX6_tryOne_62 rfl (lv_at hl 1 rfl) ?_
    refine rg_M_X6_0_0 hC hK hP dX6_tryOne_63 ?_
    refine lv_iload_n hx hb dX6_tryOne_66 rfl (lv_at hl 2 rfl) ?_
    refine rl_M_1 hC hK hP (And.left hw) dX6_tryOne_67 ?_
    have hw := And.right hw
    refine lv_aload_n hx hb dX6_tryOne_68 rfl (lv_at hl 1 rfl) ?_
    refine rg_M_X6_0_21 hC hK hP dX6_tryOne_69 ?_
    refine vp_callSi (xro (xr_S hC (cX6_pailsOf_c hw) ⟨rfl, rfl⟩ bw_800 calX6_pailsOf ⟨Nat.le_trans (Nat.le_of_ble_eq_true rfl) hF, Nat.le_trans (Nat.le_of_ble_eq_true rfl) hL⟩ (rest := []) (xpS hK) rfl hl rfl (Nat.le_of_ble_eq_true rfl) dX6_tryOne_72 ⟨Nat.zero_le _, Nat.zero_le _⟩)) (fun r1 hw => ?_)
    refine lv_istore_n (lv' := [(3, .int r1), (2, .int t0), (0, .ref (h 0)), (1, .int x1)]) hx hb dX6_tryOne_75 rfl hl (by decide) rfl (fun ls hl => ?_)
    refine lv_aload_n hx hb dX6_tryOne_76 rfl (lv_at hl 2 rfl) ?_
    refine lv_iload_n hx hb dX6_tryOne_77 rfl (lv_at hl 1 rfl) ?_
    refine lv_if_eq (tgt := 85) hx hb dX6_tryOne_78 (by decide) (fun hc => ?_) (fun hc => ?_)
    · have hw := And.left hw hc
      refine lv_iload_n hx hb dX6_tryOne_85 rfl (lv_at hl 0 rfl) ?_
      refine lv_aload_n hx hb dX6_tryOne_86 rfl (lv_at hl 2 rfl) ?_
      refine rg_M_X6_0_22 hC hK hP dX6_tryOne_87 ?_
      refine lv_icmp_ge (tgt := 97) hx hb dX6_tryOne_90 (by decide) (fun hc => ?_) (fun hc => ?_)
      · have hw := And.left hw hc
        refine lv_aload_n hx hb dX6_tryOne_97 rfl (lv_at hl 2 rfl) ?_
        refine rg_M_X6_0_22 hC hK hP dX6_tryOne_98 ?_
        exact B101 x1 (w_i z0 22) z0 _ _ _ hw hP hD hS (lv_sub hl [2, 3] rfl)
      · have hw := And.right hw hc
        refine lv_iload_n hx hb dX6_tryOne_93 rfl (lv_at hl 0 rfl) ?_
        refine lv_goto (tgt := 101) hx hb dX6_tryOne_94 (by decide) ?_
        exact B101 x1 r1 z0 _ _ _ hw hP hD hS (lv_sub hl [2, 3] rfl)
    · have hw := And.right hw hc
      refine lv_iconst (v := (0 : Int32)) hx hb dX6_tryOne_81 (by decide) ?_
      refine lv_goto (tgt := 101) hx hb dX6_tryOne_82 (by decide) ?_
      exact B101 x1 (0 : Int32) z0 _ _ _ hw hP hD hS (lv_sub hl [2, 3] rfl)
  have B60 : ∀ (x1 : Int32) (z0 : wSt) (H : Heap) (locs : List Loc) (ls : Array Slot), wpX6_tryOne_60  post x1 z0 → va_P G.1 vwCl (wsM G h z0) H → va_D A (wsM G h z0) → va_S A s.heap H locs → lv_has ls 4 [(0, .ref (h 0)), (1, .int x1)] → W p l e R s m args below meth c H locs 0 0 Q (F0 m 60 ls []) := by
    intro x1 z0 H locs ls hw hP hD hS hl
    unfold wpX6_tryOne_60 at hw
    refine lv_iconst (v := (0 : Int32)) hx hb dX6_tryOne_60 (by decide) ?_
    exact B61 x1 (0 : Int32) z0 _ _ _ hw hP hD hS (lv_sub hl [0, 1] rfl)
  unfold wpX6_tryOne at hw
  refine lv_aload_n hx hb dX6_tryOne_0 rfl (lv_at hl 0 rfl) ?_
  refine lv_iconst (v := (0 : Int32)) hx hb dX6_tryOne_1 (by decide) ?_
  refine rp_M_X6_0_25 hC hK hP hD hS dX6_tryOne_2 (fun z1 H locs hz1 hP hD hS => ?_)
  have hw := hw z1 hz1
  refine lv_aload_n hx hb dX6_tryOne_5 rfl (lv_at hl 0 rfl) ?_
  refine lv_iconst (v := (0 : Int32)) hx hb dX6_tryOne_6 (by decide) ?_
  refine rp_M_X6_0_26 (⟨rfl, rfl⟩) hC hK hP hD hS dX6_tryOne_7 (fun z2 H locs hz1 hP hD hS => ?_)
  have hw := hw z2 hz1
  refine lv_iload_n hx hb dX6_tryOne_10 rfl (lv_at hl 1 rfl) ?_
  refine lv_bipush (v := (9 : Int32)) hx hb dX6_tryOne_11 (by decide) ?_
  refine lv_icmp_eq (tgt := 168) hx hb dX6_tryOne_13 (by decide) (fun hc => ?_) (fun hc => ?_)
  · have hw := And.left hw hc
    exact B168 x1 z2 _ _ _ hw hP hD hS (lv_sub hl [0, 1] rfl)
  · have hw := And.right hw hc
    refine lv_aload_n hx hb dX6_tryOne_16 rfl (lv_at hl 0 rfl) ?_
    refine rg_M_X6_0_27 hC hK hP dX6_tryOne_17 ?_
    refine lv_iload_n hx hb dX6_tryOne_20 rfl (lv_at hl 1 rfl) ?_
    refine rl_M_9 hC hK hP (And.left hw) dX6_tryOne_21 ?_
    have hw := And.right hw
    refine lv_aload_n hx hb dX6_tryOne_22 rfl (lv_at hl 0 rfl) ?_
    refine rg_M_X6_0_23 hC hK hP dX6_tryOne_23 ?_
    refine lv_icmp_le (tgt := 31) hx hb dX6_tryOne_26 (by decide) (fun hc => ?_) (fun hc => ?_)
    · have hw := And.left hw hc
      refine lv_aload_n hx hb dX6_tryOne_31 rfl (lv_at hl 0 rfl) ?_
      refine rg_M_X6_0_24 hC hK hP dX6_tryOne_32 ?_
      refine lv_bipush (v := (9 : Int32)) hx hb dX6_tryOne_35 (by decide) ?_
      refine lv_icmp_eq (tgt := 60) hx hb dX6_tryOne_37 (by decide) (fun hc => ?_) (fun hc => ?_)
      · have hw := And.left hw hc
        exact B60 x1 z2 _ _ _ hw hP hD hS (lv_sub hl [0, 1] rfl)
      · have hw := And.right hw hc
        refine lv_aload_n hx hb dX6_tryOne_40 rfl (lv_at hl 0 rfl) ?_
        refine rg_M_X6_0_3 hC hK hP dX6_tryOne_41 ?_
        refine lv_iload_n hx hb dX6_tryOne_44 rfl (lv_at hl 1 rfl) ?_
        refine rl_M_4 hC hK hP (And.left hw) dX6_tryOne_45 ?_
        have hw := And.right hw
        refine lv_aload_n hx hb dX6_tryOne_46 rfl (lv_at hl 0 rfl) ?_
        refine rg_M_X6_0_24 hC hK hP dX6_tryOne_47 ?_
        refine vp_callSi (xro (xr_S hC (cX6_has_c hw) ⟨rfl, rfl⟩ bw_797 calX6_has ⟨Nat.le_trans (Nat.le_of_ble_eq_true rfl) hF, Nat.le_trans (Nat.le_of_ble_eq_true rfl) hL⟩ (rest := []) (xpS hK) rfl hl rfl (Nat.le_of_ble_eq_true rfl) dX6_tryOne_50 ⟨Nat.zero_le _, Nat.zero_le _⟩)) (fun r1 hw => ?_)
        refine lv_if_eq (tgt := 60) hx hb dX6_tryOne_53 (by decide) (fun hc => ?_) (fun hc => ?_)
        · have hw := And.left hw hc
          exact B60 x1 z2 _ _ _ hw hP hD hS (lv_sub hl [0, 1] rfl)
        · have hw := And.right hw hc
          refine lv_iconst (v := (1 : Int32)) hx hb dX6_tryOne_56 (by decide) ?_
          refine lv_goto (tgt := 61) hx hb dX6_tryOne_57 (by decide) ?_
          exact B61 x1 (1 : Int32) z2 _ _ _ hw hP hD hS (lv_sub hl [0, 1] rfl)
    · have hw := And.right hw hc
      refine lv_iconst (v := (0 : Int32)) hx hb dX6_tryOne_29 (by decide) ?_
      exact hret _ _ _ _ _ _ rfl hw hP hD hS dX6_tryOne_30
def wpX6_keep_82 (k82 : Int32 → (wSt) → Prop) (post : (wSt) → Prop) (x1 : Int32) (z0 : wSt) : Prop := (((6 : Int32) ≤ x1 → (post z0)) ∧ (¬ (6 : Int32) ≤ x1 → (vp_in x1 6 ∧ (vp_in x1 6 ∧ ∀ z1 : wSt, z1 = (w_sa z0 4 (upd (w_a z0 4) x1.toNatClampNeg ((w_a z0 27) x1.toNatClampNeg))) → (k82 (x1 + (1 : Int32)) z1)))))
def wpX6_keep_L82  (post : (wSt) → Prop) : Nat → Int32 → (wSt) → Prop
  | 0 => fun _ _ => False
  | n + 1 => fun x1 z0 => wpX6_keep_82  (wpX6_keep_L82  post n) post x1 z0
def wpX6_keep_76  (post : (wSt) → Prop) (t0 : Int32) (t1 : Int32) (z0 : wSt) : Prop := (∀ z1 : wSt, z1 = (w_si z0 10 (t1 + t0)) → (∃ n, wpX6_keep_L82  post n (0 : Int32) z1))
def wpX6_keep_52  (post : (wSt) → Prop) (t0 : Int32) (t1 : Int32) (z0 : wSt) : Prop := (∀ z1 : wSt, z1 = (w_si z0 9 (t1 + t0)) → (((w_i z1 26) = 0 → (wpX6_keep_76  post (w_i z1 25) (w_i z1 10) z1)) ∧ (¬ (w_i z1 26) = 0 → (wpX6_keep_76  post (0 : Int32) (w_i z1 10) z1))))
def wpX6_keep (z0 : wSt) (post : (wSt) → Prop) : Prop := (∀ z1 : wSt, z1 = (w_si z0 6 (w_i z0 21)) → (∀ z2 : wSt, z2 = (w_si z1 7 (w_i z1 22)) → (∀ z3 : wSt, z3 = (w_si z2 11 (w_i z2 23)) → (∀ z4 : wSt, z4 = (w_si z3 12 (w_i z3 24)) → (((w_i z4 26) = 0 → (wpX6_keep_52  post (0 : Int32) (w_i z4 9) z4)) ∧ (¬ (w_i z4 26) = 0 → (wpX6_keep_52  post (w_i z4 25) (w_i z4 9) z4)))))))
set_option maxHeartbeats 4000000 in
set_option maxRecDepth 100000 in
theorem cX6_keep_c {l : Launch} {G : wG} {h : Nat → Nat} {sz : Nat}  {post : (wSt) → Prop} {z0 : wSt}  (hw : wpX6_keep z0 post) : Met l yX6_keep (.code yX6_keep cX6_keep 2 none :: BIG) { frames := 0, cells := 0, slots := 0, locals := 0 } (xPw G [.ref (h 0)] (wsM G h z0) sz) (xQv G post (fun q => (wsM G h q)) (va_A (wsM G h z0) sz)) 0 0 (va_A (wsM G h z0) sz) := by
  refine xm_wv (by decide) (Nat.le_of_ble_eq_true rfl) (fun p e s m args below meth c A ls R Q hC hK hA hP hD hS hl hF hL hret => ?_)
  have hx := hC.1
  have hb := hC.2.1
  have hl : lv_has ls 2 [(0, .ref (h 0))] := hl
  have B82 : ∀ n82 : Nat, ∀ (x1 : Int32) (z0 : wSt) (H : Heap) (locs : List Loc) (ls : Array Slot), wpX6_keep_L82  post n82 x1 z0 → va_P G.1 vwCl (wsM G h z0) H → va_D A (wsM G h z0) → va_S A s.heap H locs → lv_has ls 2 [(0, .ref (h 0)), (1, .int x1)] → W p l e R s m args below meth c H locs 0 0 Q (F0 m 82 ls []) := by
    intro n82
    induction n82 with
    | zero => intro x1 z0 H locs ls hw hP hD hS hl; exact False.elim hw
    | succ n82 I82 =>
      intro x1 z0 H locs ls hw hP hD hS hl
      have hw : wpX6_keep_82  (wpX6_keep_L82  post n82) post x1 z0 := hw
      unfold wpX6_keep_82 at hw
      refine lv_iload_n hx hb dX6_keep_82 rfl (lv_at hl 1 rfl) ?_
      refine lv_bipush (v := (6 : Int32)) hx hb dX6_keep_83 (by decide) ?_
      refine lv_icmp_ge (tgt := 106) hx hb dX6_keep_85 (by decide) (fun hc => ?_) (fun hc => ?_)
      · have hw := And.left hw hc
        exact hret _ _ _ _ _ hw hP hD hS dX6_keep_106
      · have hw := And.right hw hc
        refine lv_aload_n hx hb dX6_keep_88 rfl (lv_at hl 0 rfl) ?_
        refine rg_M_X6_0_4 hC hK hP dX6_keep_89 ?_
        refine lv_iload_n hx hb dX6_keep_92 rfl (lv_at hl 1 rfl) ?_
        refine lv_aload_n hx hb dX6_keep_93 rfl (lv_at hl 0 rfl) ?_
        refine rg_M_X6_0_27 hC hK hP dX6_keep_94 ?_
        refine lv_iload_n hx hb dX6_keep_97 rfl (lv_at hl 1 rfl) ?_
        refine rl_M_9 hC hK hP (And.left hw) dX6_keep_98 ?_
        have hw := And.right hw
        refine rs_M_5 hC hK hP hD hS (And.left hw) dX6_keep_99 (fun z1 H locs hz1 hP hD hS => ?_)
        have hw := And.right hw z1 hz1
        refine lv_iinc (v := (x1 + (1 : Int32))) (lv' := [(1, .int (x1 + (1 : Int32))), (0, .ref (h 0))]) hx hb dX6_keep_100 hl (k := 1) rfl rfl (by decide) rfl (fun ls hl => ?_)
        refine lv_goto (tgt := 82) hx hb dX6_keep_103 (by decide) ?_
        exact I82 (x1 + (1 : Int32)) z1 _ _ _ hw hP hD hS (lv_sub hl [1, 0] rfl)
  have B76 : ∀ (t0 : Int32) (t1 : Int32) (z0 : wSt) (H : Heap) (locs : List Loc) (ls : Array Slot), wpX6_keep_76  post t0 t1 z0 → va_P G.1 vwCl (wsM G h z0) H → va_D A (wsM G h z0) → va_S A s.heap H locs → lv_has ls 2 [(0, .ref (h 0))] → W p l e R s m args below meth c H locs 0 0 Q (F0 m 76 ls [.int t0, .int t1, .ref (h 0)]) := by
    intro t0 t1 z0 H locs ls hw hP hD hS hl
    unfold wpX6_keep_76 at hw
    refine lv_iadd hx hb dX6_keep_76 ?_
    refine rp_M_X6_0_10 hC hK hP hD hS dX6_keep_77 (fun z1 H locs hz1 hP hD hS => ?_)
    have hw := hw z1 hz1
    refine lv_iconst (v := (0 : Int32)) hx hb dX6_keep_80 (by decide) ?_
    refine lv_istore_n (lv' := [(1, .int (0 : Int32)), (0, .ref (h 0))]) hx hb dX6_keep_81 rfl hl (by decide) rfl (fun ls hl => ?_)
    obtain ⟨j82, hw⟩ := hw
    exact B82 j82 (0 : Int32) z1 _ _ _ hw hP hD hS (lv_sub hl [1, 0] rfl)
  have B52 : ∀ (t0 : Int32) (t1 : Int32) (z0 : wSt) (H : Heap) (locs : List Loc) (ls : Array Slot), wpX6_keep_52  post t0 t1 z0 → va_P G.1 vwCl (wsM G h z0) H → va_D A (wsM G h z0) → va_S A s.heap H locs → lv_has ls 2 [(0, .ref (h 0))] → W p l e R s m args below meth c H locs 0 0 Q (F0 m 52 ls [.int t0, .int t1, .ref (h 0)]) := by
    intro t0 t1 z0 H locs ls hw hP hD hS hl
    unfold wpX6_keep_52 at hw
    refine lv_iadd hx hb dX6_keep_52 ?_
    refine rp_M_X6_0_9 hC hK hP hD hS dX6_keep_53 (fun z1 H locs hz1 hP hD hS => ?_)
    have hw := hw z1 hz1
    refine lv_aload_n hx hb dX6_keep_56 rfl (lv_at hl 0 rfl) ?_
    refine lv_dup hx hb dX6_keep_57 rfl ?_
    refine rg_M_X6_0_10 hC hK hP dX6_keep_58 ?_
    refine lv_aload_n hx hb dX6_keep_61 rfl (lv_at hl 0 rfl) ?_
    refine rg_M_X6_0_26 hC hK hP dX6_keep_62 ?_
    refine lv_if_eq (tgt := 72) hx hb dX6_keep_65 (by decide) (fun hc => ?_) (fun hc => ?_)
    · have hw := And.left hw hc
      refine lv_aload_n hx hb dX6_keep_72 rfl (lv_at hl 0 rfl) ?_
      refine rg_M_X6_0_25 hC hK hP dX6_keep_73 ?_
      exact B76 (w_i z1 25) (w_i z1 10) z1 _ _ _ hw hP hD hS (lv_sub hl [0] rfl)
    · have hw := And.right hw hc
      refine lv_iconst (v := (0 : Int32)) hx hb dX6_keep_68 (by decide) ?_
      refine lv_goto (tgt := 76) hx hb dX6_keep_69 (by decide) ?_
      exact B76 (0 : Int32) (w_i z1 10) z1 _ _ _ hw hP hD hS (lv_sub hl [0] rfl)
  unfold wpX6_keep at hw
  refine lv_aload_n hx hb dX6_keep_0 rfl (lv_at hl 0 rfl) ?_
  refine lv_aload_n hx hb dX6_keep_1 rfl (lv_at hl 0 rfl) ?_
  refine rg_M_X6_0_21 hC hK hP dX6_keep_2 ?_
  refine rp_M_X6_0_6 hC hK hP hD hS dX6_keep_5 (fun z1 H locs hz1 hP hD hS => ?_)
  have hw := hw z1 hz1
  refine lv_aload_n hx hb dX6_keep_8 rfl (lv_at hl 0 rfl) ?_
  refine lv_aload_n hx hb dX6_keep_9 rfl (lv_at hl 0 rfl) ?_
  refine rg_M_X6_0_22 hC hK hP dX6_keep_10 ?_
  refine rp_M_X6_0_7 hC hK hP hD hS dX6_keep_13 (fun z2 H locs hz1 hP hD hS => ?_)
  have hw := hw z2 hz1
  refine lv_aload_n hx hb dX6_keep_16 rfl (lv_at hl 0 rfl) ?_
  refine lv_aload_n hx hb dX6_keep_17 rfl (lv_at hl 0 rfl) ?_
  refine rg_M_X6_0_23 hC hK hP dX6_keep_18 ?_
  refine rp_M_X6_0_11 hC hK hP hD hS dX6_keep_21 (fun z3 H locs hz1 hP hD hS => ?_)
  have hw := hw z3 hz1
  refine lv_aload_n hx hb dX6_keep_24 rfl (lv_at hl 0 rfl) ?_
  refine lv_aload_n hx hb dX6_keep_25 rfl (lv_at hl 0 rfl) ?_
  refine rg_M_X6_0_24 hC hK hP dX6_keep_26 ?_
  refine rp_M_X6_0_12 hC hK hP hD hS dX6_keep_29 (fun z4 H locs hz1 hP hD hS => ?_)
  have hw := hw z4 hz1
  refine lv_aload_n hx hb dX6_keep_32 rfl (lv_at hl 0 rfl) ?_
  refine lv_dup hx hb dX6_keep_33 rfl ?_
  refine rg_M_X6_0_9 hC hK hP dX6_keep_34 ?_
  refine lv_aload_n hx hb dX6_keep_37 rfl (lv_at hl 0 rfl) ?_
  refine rg_M_X6_0_26 hC hK hP dX6_keep_38 ?_
  refine lv_if_eq (tgt := 51) hx hb dX6_keep_41 (by decide) (fun hc => ?_) (fun hc => ?_)
  · have hw := And.left hw hc
    refine lv_iconst (v := (0 : Int32)) hx hb dX6_keep_51 (by decide) ?_
    exact B52 (0 : Int32) (w_i z4 9) z4 _ _ _ hw hP hD hS (lv_sub hl [0] rfl)
  · have hw := And.right hw hc
    refine lv_aload_n hx hb dX6_keep_44 rfl (lv_at hl 0 rfl) ?_
    refine rg_M_X6_0_25 hC hK hP dX6_keep_45 ?_
    refine lv_goto (tgt := 52) hx hb dX6_keep_48 (by decide) ?_
    exact B52 (w_i z4 25) (w_i z4 9) z4 _ _ _ hw hP hD hS (lv_sub hl [0] rfl)
def wpX6_goOn (x1 : Int32) (z0 : wSt) (post : Int32 → (wSt) → Prop) : Prop := (wpX6_begin z0 (fun u => ∀ z1 : wSt, z1 = u → (wpX6_tryOne x1 z1 (fun r1 u => ∀ z2 : wSt, z2 = u → ((¬ r1 = 0 → (wpX6_keep z2 (fun u => ∀ z3 : wSt, z3 = u → (post (w_i z3 25) z3)))) ∧ (r1 = 0 → (post (-2 : Int32) z2)))))))
set_option maxHeartbeats 4000000 in
set_option maxRecDepth 100000 in
theorem cX6_goOn_c {l : Launch} {G : wG} {h : Nat → Nat} {sz : Nat} {x1 : Int32} {post : Int32 → (wSt) → Prop} {z0 : wSt}  (hw : wpX6_goOn x1 z0 post) : Met l yX6_goOn (.code yX6_goOn cX6_goOn 2 (some .int) :: BIG) { frames := 2, cells := 0, slots := 0, locals := 45 } (xPw G [.ref (h 0), .int x1] (wsM G h z0) sz) (xQi G post (fun q => (wsM G h q)) (va_A (wsM G h z0) sz)) 0 0 (va_A (wsM G h z0) sz) := by
  refine xm_wi (by decide) (Nat.le_of_ble_eq_true rfl) (fun p e s m args below meth c A ls R Q hC hK hA hP hD hS hl hF hL hret => ?_)
  have hx := hC.1
  have hb := hC.2.1
  have hl : lv_has ls 2 [(0, .ref (h 0)), (1, .int x1)] := hl
  unfold wpX6_goOn at hw
  refine lv_aload_n hx hb dX6_goOn_0 rfl (lv_at hl 0 rfl) ?_
  refine xc_wv (S := wSt) (wsz := fun q => (wsM G h q)) (f := fun u => u) (xr_V hC (cX6_begin_c (h := h) hw) ⟨rfl, rfl⟩ bw_789 calX6_begin ⟨Nat.le_trans (Nat.le_of_ble_eq_true rfl) hF, Nat.le_trans (Nat.le_of_ble_eq_true rfl) hL⟩ (rest := []) (xpV hK (cut_all_M) hP hD rfl rfl) rfl hl rfl (Nat.le_of_ble_eq_true rfl) dX6_goOn_1 ⟨Nat.zero_le _, Nat.zero_le _⟩) (cut_all_M) hP hD hS hA (fun u z1 H locs hz1 hw hP hD hS => ?_)
  have hw := hw z1 hz1
  refine lv_aload_n hx hb dX6_goOn_4 rfl (lv_at hl 0 rfl) ?_
  refine lv_iload_n hx hb dX6_goOn_5 rfl (lv_at hl 1 rfl) ?_
  refine xc_wi (S := wSt) (wsz := fun q => (wsM G h q)) (f := fun u => u) (xr_V hC (cX6_tryOne_c (h := h) hw) ⟨rfl, rfl⟩ bw_793 calX6_tryOne ⟨Nat.le_trans (Nat.le_of_ble_eq_true rfl) hF, Nat.le_trans (Nat.le_of_ble_eq_true rfl) hL⟩ (rest := []) (xpV hK (cut_all_M) hP hD rfl rfl) rfl hl rfl (Nat.le_of_ble_eq_true rfl) dX6_goOn_6 ⟨Nat.zero_le _, Nat.zero_le _⟩) (cut_all_M) hP hD hS hA (fun r1 u z2 H locs hz1 hw hP hD hS => ?_)
  have hw := hw z2 hz1
  refine lv_if_ne (tgt := 15) hx hb dX6_goOn_9 (by decide) (fun hc => ?_) (fun hc => ?_)
  · have hw := And.left hw hc
    refine lv_aload_n hx hb dX6_goOn_15 rfl (lv_at hl 0 rfl) ?_
    refine xc_wv (S := wSt) (wsz := fun q => (wsM G h q)) (f := fun u => u) (xr_V hC (cX6_keep_c (h := h) hw) ⟨rfl, rfl⟩ bw_816 calX6_keep ⟨Nat.le_trans (Nat.le_of_ble_eq_true rfl) hF, Nat.le_trans (Nat.le_of_ble_eq_true rfl) hL⟩ (rest := []) (xpV hK (cut_all_M) hP hD rfl rfl) rfl hl rfl (Nat.le_of_ble_eq_true rfl) dX6_goOn_16 ⟨Nat.zero_le _, Nat.zero_le _⟩) (cut_all_M) hP hD hS hA (fun u z3 H locs hz1 hw hP hD hS => ?_)
    have hw := hw z3 hz1
    refine lv_aload_n hx hb dX6_goOn_19 rfl (lv_at hl 0 rfl) ?_
    refine rg_M_X6_0_25 hC hK hP dX6_goOn_20 ?_
    exact hret _ _ _ _ _ _ hw hP hD hS dX6_goOn_23
  · have hw := And.right hw hc
    refine lv_bipush (v := (-2 : Int32)) hx hb dX6_goOn_12 (by decide) ?_
    exact hret _ _ _ _ _ _ hw hP hD hS dX6_goOn_14
def wpX6_may_33 (k4 : Int32 → Int32 → Prop) (z0 : wSt) (post : Int32 → Prop) (x2 : Int32) (t0 : Int32) (t1 : Int32) : Prop := (k4 (t1 ||| t0) (x2 + (1 : Int32)))
def wpX6_may_4 (k4 : Int32 → Int32 → Prop) (z0 : wSt) (post : Int32 → Prop) (x1 : Int32) (x2 : Int32) : Prop := (((w_i z0 5) ≤ x2 → (post x1)) ∧ (¬ (w_i z0 5) ≤ x2 → (vp_in x2 6 ∧ (((w_i z0 11) < ((w_a z0 4) x2.toNatClampNeg) → (wpX6_may_33 k4 z0 post x2 (0 : Int32) x1)) ∧ (¬ (w_i z0 11) < ((w_a z0 4) x2.toNatClampNeg) → (wpX6_may_33 k4 z0 post x2 ((1 : Int32) <<< (x2 &&& 31)) x1))))))
def wpX6_may_L4  (z0 : wSt) (post : Int32 → Prop) : Nat → Int32 → Int32 → Prop
  | 0 => fun _ _ => False
  | n + 1 => fun x1 x2 => wpX6_may_4  (wpX6_may_L4  z0 post n) z0 post x1 x2
def wpX6_may (z0 : wSt) (post : Int32 → Prop) : Prop := (∃ n, wpX6_may_L4  z0 post n (0 : Int32) (0 : Int32))
set_option maxHeartbeats 4000000 in
set_option maxRecDepth 100000 in
theorem cX6_may_c {l : Launch} {G : wG} {h : Nat → Nat}  {post : Int32 → Prop} {z0 : wSt}  (hw : wpX6_may z0 post) : Met l yX6_may (.code yX6_may cX6_may 3 (some .int) :: BIG) { frames := 0, cells := 0, slots := 0, locals := 0 } (xPr G [.ref (h 0)] (wsM G h z0)) (vp_Si post) 0 0 (fun _ => False) := by
  refine xm_ri (by decide) (Nat.le_of_ble_eq_true rfl) (fun p e s m args below meth c ls R Q hC hK hP hl hF hL hret => ?_)
  have hx := hC.1
  have hb := hC.2.1
  have hl : lv_has ls 3 [(0, .ref (h 0))] := hl
  have B4 : ∀ n4 : Nat, ∀ (x1 : Int32) (x2 : Int32) (ls : Array Slot), wpX6_may_L4  z0 post n4 x1 x2 → lv_has ls 3 [(0, .ref (h 0)), (1, .int x1), (2, .int x2)] → W p l e R s m args below meth c s.heap [] 0 0 Q (F0 m 4 ls []) := by
    intro n4
    induction n4 with
    | zero => intro x1 x2 ls hw hl; exact False.elim hw
    | succ n4 I4 =>
      have B33 : ∀ (x2 : Int32) (t0 : Int32) (t1 : Int32) (ls : Array Slot), wpX6_may_33 (wpX6_may_L4  z0 post n4) z0 post x2 t0 t1 → lv_has ls 3 [(0, .ref (h 0)), (2, .int x2)] → W p l e R s m args below meth c s.heap [] 0 0 Q (F0 m 33 ls [.int t0, .int t1]) := by
        intro x2 t0 t1 ls hw hl
        unfold wpX6_may_33 at hw
        refine lv_ior hx hb dX6_may_33 ?_
        refine lv_istore_n (lv' := [(1, .int (t1 ||| t0)), (0, .ref (h 0)), (2, .int x2)]) hx hb dX6_may_34 rfl hl (by decide) rfl (fun ls hl => ?_)
        refine lv_iinc (v := (x2 + (1 : Int32))) (lv' := [(2, .int (x2 + (1 : Int32))), (1, .int (t1 ||| t0)), (0, .ref (h 0))]) hx hb dX6_may_35 hl (k := 2) rfl rfl (by decide) rfl (fun ls hl => ?_)
        refine lv_goto (tgt := 4) hx hb dX6_may_38 (by decide) ?_
        exact I4 (t1 ||| t0) (x2 + (1 : Int32)) _ hw (lv_sub hl [2, 1, 0] rfl)
      intro x1 x2 ls hw hl
      have hw : wpX6_may_4  (wpX6_may_L4  z0 post n4) z0 post x1 x2 := hw
      unfold wpX6_may_4 at hw
      refine lv_iload_n hx hb dX6_may_4 rfl (lv_at hl 2 rfl) ?_
      refine lv_aload_n hx hb dX6_may_5 rfl (lv_at hl 0 rfl) ?_
      refine rg_M_X6_0_5 hC hK hP dX6_may_6 ?_
      refine lv_icmp_ge (tgt := 41) hx hb dX6_may_9 (by decide) (fun hc => ?_) (fun hc => ?_)
      · have hw := And.left hw hc
        refine lv_iload_n hx hb dX6_may_41 rfl (lv_at hl 1 rfl) ?_
        exact hret _ _ _ hw dX6_may_42
      · have hw := And.right hw hc
        refine lv_iload_n hx hb dX6_may_12 rfl (lv_at hl 1 rfl) ?_
        refine lv_aload_n hx hb dX6_may_13 rfl (lv_at hl 0 rfl) ?_
        refine rg_M_X6_0_4 hC hK hP dX6_may_14 ?_
        refine lv_iload_n hx hb dX6_may_17 rfl (lv_at hl 2 rfl) ?_
        refine rl_M_5 hC hK hP (And.left hw) dX6_may_18 ?_
        have hw := And.right hw
        refine lv_aload_n hx hb dX6_may_19 rfl (lv_at hl 0 rfl) ?_
        refine rg_M_X6_0_11 hC hK hP dX6_may_20 ?_
        refine lv_icmp_gt (tgt := 32) hx hb dX6_may_23 (by decide) (fun hc => ?_) (fun hc => ?_)
        · have hw := And.left hw hc
          refine lv_iconst (v := (0 : Int32)) hx hb dX6_may_32 (by decide) ?_
          exact B33 x2 (0 : Int32) x1 _ hw (lv_sub hl [0, 2] rfl)
        · have hw := And.right hw hc
          refine lv_iconst (v := (1 : Int32)) hx hb dX6_may_26 (by decide) ?_
          refine lv_iload_n hx hb dX6_may_27 rfl (lv_at hl 2 rfl) ?_
          refine lv_ishl hx hb dX6_may_28 ?_
          refine lv_goto (tgt := 33) hx hb dX6_may_29 (by decide) ?_
          exact B33 x2 ((1 : Int32) <<< (x2 &&& 31)) x1 _ hw (lv_sub hl [0, 2] rfl)
  unfold wpX6_may at hw
  refine lv_iconst (v := (0 : Int32)) hx hb dX6_may_0 (by decide) ?_
  refine lv_istore_n (lv' := [(1, .int (0 : Int32)), (0, .ref (h 0))]) hx hb dX6_may_1 rfl hl (by decide) rfl (fun ls hl => ?_)
  refine lv_iconst (v := (0 : Int32)) hx hb dX6_may_2 (by decide) ?_
  refine lv_istore_n (lv' := [(2, .int (0 : Int32)), (1, .int (0 : Int32)), (0, .ref (h 0))]) hx hb dX6_may_3 rfl hl (by decide) rfl (fun ls hl => ?_)
  obtain ⟨j4, hw⟩ := hw
  exact B4 j4 (0 : Int32) (0 : Int32) _ hw (lv_sub hl [2, 1, 0] rfl)
def wpX6_draw_38  (post : Int32 → (wSt) → Prop) (x1 : Int32) (z0 : wSt) : Prop := ((¬ (w_i z0 11) = (9999 : Int32) → (wpX6_goOn x1 z0 (fun r1 u => ∀ z1 : wSt, z1 = u → (post r1 z1)))) ∧ ((w_i z0 11) = (9999 : Int32) → (post (-3 : Int32) z0)))
def wpX6_draw_16  (post : Int32 → (wSt) → Prop) (x1 : Int32) (z0 : wSt) : Prop := ((x1 = (9 : Int32) → (wpX6_draw_38  post x1 z0)) ∧ (¬ x1 = (9 : Int32) → (vp_in x1 6 ∧ ((((w_a z0 4) x1.toNatClampNeg) ≤ (w_i z0 11) → (wpX6_draw_38  post x1 z0)) ∧ (¬ ((w_a z0 4) x1.toNatClampNeg) ≤ (w_i z0 11) → (post (-2 : Int32) z0))))))
def wpX6_draw (x1 : Int32) (z0 : wSt) (post : Int32 → (wSt) → Prop) : Prop := ((x1 = (9 : Int32) → (wpX6_draw_16  post x1 z0)) ∧ (¬ x1 = (9 : Int32) → (wpX6_isOne x1 z0 (fun r1 => ((¬ r1 = 0 → (wpX6_draw_16  post x1 z0)) ∧ (r1 = 0 → (post (-1 : Int32) z0)))))))
set_option maxHeartbeats 4000000 in
set_option maxRecDepth 100000 in
theorem cX6_draw_c {l : Launch} {G : wG} {h : Nat → Nat} {sz : Nat} {x1 : Int32} {post : Int32 → (wSt) → Prop} {z0 : wSt}  (hw : wpX6_draw x1 z0 post) : Met l yX6_draw (.code yX6_draw cX6_draw 2 (some .int) :: BIG) { frames := 3, cells := 0, slots := 0, locals := 66 } (xPw G [.ref (h 0), .int x1] (wsM G h z0) sz) (xQi G post (fun q => (wsM G h q)) (va_A (wsM G h z0) sz)) 0 0 (va_A (wsM G h z0) sz) := by
  refine xm_wi (by decide) (Nat.le_of_ble_eq_true rfl) (fun p e s m args below meth c A ls R Q hC hK hA hP hD hS hl hF hL hret => ?_)
  have hx := hC.1
  have hb := hC.2.1
  have hl : lv_has ls 2 [(0, .ref (h 0)), (1, .int x1)] := hl
  have B38 : ∀ (x1 : Int32) (z0 : wSt) (H : Heap) (locs : List Loc) (ls : Array Slot), wpX6_draw_38  post x1 z0 → va_P G.1 vwCl (wsM G h z0) H → va_D A (wsM G h z0) → va_S A s.heap H locs → lv_has ls 2 [(0, .ref (h 0)), (1, .int x1)] → W p l e R s m args below meth c H locs 0 0 Q (F0 m 38 ls []) := by
    intro x1 z0 H locs ls hw hP hD hS hl
    unfold wpX6_draw_38 at hw
    refine lv_aload_n hx hb dX6_draw_38 rfl (lv_at hl 0 rfl) ?_
    refine rg_M_X6_0_11 hC hK hP dX6_draw_39 ?_
    refine lv_sipush (v := (9999 : Int32)) hx hb dX6_draw_42 (by decide) ?_
    refine lv_icmp_ne (tgt := 53) hx hb dX6_draw_45 (by decide) (fun hc => ?_) (fun hc => ?_)
    · have hw := And.left hw hc
      refine lv_aload_n hx hb dX6_draw_53 rfl (lv_at hl 0 rfl) ?_
      refine lv_iload_n hx hb dX6_draw_54 rfl (lv_at hl 1 rfl) ?_
      refine xc_wi (S := wSt) (wsz := fun q => (wsM G h q)) (f := fun u => u) (xr_V hC (cX6_goOn_c (h := h) hw) ⟨rfl, rfl⟩ bw_785 calX6_goOn ⟨Nat.le_trans (Nat.le_of_ble_eq_true rfl) hF, Nat.le_trans (Nat.le_of_ble_eq_true rfl) hL⟩ (rest := []) (xpV hK (cut_all_M) hP hD rfl rfl) rfl hl rfl (Nat.le_of_ble_eq_true rfl) dX6_draw_55 ⟨Nat.zero_le _, Nat.zero_le _⟩) (cut_all_M) hP hD hS hA (fun r1 u z1 H locs hz1 hw hP hD hS => ?_)
      have hw := hw z1 hz1
      exact hret _ _ _ _ _ _ hw hP hD hS dX6_draw_58
    · have hw := And.right hw hc
      refine lv_bipush (v := (-3 : Int32)) hx hb dX6_draw_48 (by decide) ?_
      refine lv_goto (tgt := 58) hx hb dX6_draw_50 (by decide) ?_
      exact hret _ _ _ _ _ _ hw hP hD hS dX6_draw_58
  have B16 : ∀ (x1 : Int32) (z0 : wSt) (H : Heap) (locs : List Loc) (ls : Array Slot), wpX6_draw_16  post x1 z0 → va_P G.1 vwCl (wsM G h z0) H → va_D A (wsM G h z0) → va_S A s.heap H locs → lv_has ls 2 [(0, .ref (h 0)), (1, .int x1)] → W p l e R s m args below meth c H locs 0 0 Q (F0 m 16 ls []) := by
    intro x1 z0 H locs ls hw hP hD hS hl
    unfold wpX6_draw_16 at hw
    refine lv_iload_n hx hb dX6_draw_16 rfl (lv_at hl 1 rfl) ?_
    refine lv_bipush (v := (9 : Int32)) hx hb dX6_draw_17 (by decide) ?_
    refine lv_icmp_eq (tgt := 38) hx hb dX6_draw_19 (by decide) (fun hc => ?_) (fun hc => ?_)
    · have hw := And.left hw hc
      exact B38 x1 z0 _ _ _ hw hP hD hS (lv_sub hl [0, 1] rfl)
    · have hw := And.right hw hc
      refine lv_aload_n hx hb dX6_draw_22 rfl (lv_at hl 0 rfl) ?_
      refine rg_M_X6_0_4 hC hK hP dX6_draw_23 ?_
      refine lv_iload_n hx hb dX6_draw_26 rfl (lv_at hl 1 rfl) ?_
      refine rl_M_5 hC hK hP (And.left hw) dX6_draw_27 ?_
      have hw := And.right hw
      refine lv_aload_n hx hb dX6_draw_28 rfl (lv_at hl 0 rfl) ?_
      refine rg_M_X6_0_11 hC hK hP dX6_draw_29 ?_
      refine lv_icmp_le (tgt := 38) hx hb dX6_draw_32 (by decide) (fun hc => ?_) (fun hc => ?_)
      · have hw := And.left hw hc
        exact B38 x1 z0 _ _ _ hw hP hD hS (lv_sub hl [0, 1] rfl)
      · have hw := And.right hw hc
        refine lv_bipush (v := (-2 : Int32)) hx hb dX6_draw_35 (by decide) ?_
        exact hret _ _ _ _ _ _ hw hP hD hS dX6_draw_37
  unfold wpX6_draw at hw
  refine lv_iload_n hx hb dX6_draw_0 rfl (lv_at hl 1 rfl) ?_
  refine lv_bipush (v := (9 : Int32)) hx hb dX6_draw_1 (by decide) ?_
  refine lv_icmp_eq (tgt := 16) hx hb dX6_draw_3 (by decide) (fun hc => ?_) (fun hc => ?_)
  · have hw := And.left hw hc
    exact B16 x1 z0 _ _ _ hw hP hD hS (lv_sub hl [0, 1] rfl)
  · have hw := And.right hw hc
    refine lv_aload_n hx hb dX6_draw_6 rfl (lv_at hl 0 rfl) ?_
    refine lv_iload_n hx hb dX6_draw_7 rfl (lv_at hl 1 rfl) ?_
    refine vp_callSi (xro (xr_V hC (cX6_isOne_c (h := h) hw) ⟨rfl, rfl⟩ bw_713 calX6_isOne ⟨Nat.le_trans (Nat.le_of_ble_eq_true rfl) hF, Nat.le_trans (Nat.le_of_ble_eq_true rfl) hL⟩ (rest := []) (xpR hK hP rfl rfl) rfl hl rfl (Nat.le_of_ble_eq_true rfl) dX6_draw_8 ⟨Nat.zero_le _, Nat.zero_le _⟩)) (fun r1 hw => ?_)
    refine lv_if_ne (tgt := 16) hx hb dX6_draw_11 (by decide) (fun hc => ?_) (fun hc => ?_)
    · have hw := And.left hw hc
      exact B16 x1 z0 _ _ _ hw hP hD hS (lv_sub hl [0, 1] rfl)
    · have hw := And.right hw hc
      refine lv_iconst (v := (-1 : Int32)) hx hb dX6_draw_14 (by decide) ?_
      exact hret _ _ _ _ _ _ hw hP hD hS dX6_draw_15
def wpX6_pass_31 (k31 : Int32 → Int32 → (wSt) → Prop) (post : Int32 → (wSt) → Prop) (x1 : Int32) (x2 : Int32) (z0 : wSt) : Prop := ((x1 ≤ x2 → (post (w_i z0 11) z0)) ∧ (¬ x1 ≤ x2 → (wpX6_goOn (9 : Int32) z0 (fun r1 u => ∀ z1 : wSt, z1 = u → (k31 x1 (x2 + (1 : Int32)) z1)))))
def wpX6_pass_L31  (post : Int32 → (wSt) → Prop) : Nat → Int32 → Int32 → (wSt) → Prop
  | 0 => fun _ _ _ => False
  | n + 1 => fun x1 x2 z0 => wpX6_pass_31  (wpX6_pass_L31  post n) post x1 x2 z0
def wpX6_pass (x1 : Int32) (z0 : wSt) (post : Int32 → (wSt) → Prop) : Prop := (wpX6_in (x1.toInt64) (1 : Int64) (60 : Int64) (fun r1 => ((¬ r1 = 0 → ((((w_i z0 11) + x1) ≤ (9999 : Int32) → (∃ n, wpX6_pass_L31  post n x1 (0 : Int32) z0)) ∧ (¬ ((w_i z0 11) + x1) ≤ (9999 : Int32) → (post (-3 : Int32) z0)))) ∧ (r1 = 0 → (post (-1 : Int32) z0)))))
set_option maxHeartbeats 4000000 in
set_option maxRecDepth 100000 in
theorem cX6_pass_c {l : Launch} {G : wG} {h : Nat → Nat} {sz : Nat} {x1 : Int32} {post : Int32 → (wSt) → Prop} {z0 : wSt}  (hw : wpX6_pass x1 z0 post) : Met l yX6_pass (.code yX6_pass cX6_pass 3 (some .int) :: BIG) { frames := 3, cells := 0, slots := 0, locals := 66 } (xPw G [.ref (h 0), .int x1] (wsM G h z0) sz) (xQi G post (fun q => (wsM G h q)) (va_A (wsM G h z0) sz)) 0 0 (va_A (wsM G h z0) sz) := by
  refine xm_wi (by decide) (Nat.le_of_ble_eq_true rfl) (fun p e s m args below meth c A ls R Q hC hK hA hP hD hS hl hF hL hret => ?_)
  have hx := hC.1
  have hb := hC.2.1
  have hl : lv_has ls 3 [(0, .ref (h 0)), (1, .int x1)] := hl
  have B31 : ∀ n31 : Nat, ∀ (x1 : Int32) (x2 : Int32) (z0 : wSt) (H : Heap) (locs : List Loc) (ls : Array Slot), wpX6_pass_L31  post n31 x1 x2 z0 → va_P G.1 vwCl (wsM G h z0) H → va_D A (wsM G h z0) → va_S A s.heap H locs → lv_has ls 3 [(0, .ref (h 0)), (1, .int x1), (2, .int x2)] → W p l e R s m args below meth c H locs 0 0 Q (F0 m 31 ls []) := by
    intro n31
    induction n31 with
    | zero => intro x1 x2 z0 H locs ls hw hP hD hS hl; exact False.elim hw
    | succ n31 I31 =>
      intro x1 x2 z0 H locs ls hw hP hD hS hl
      have hw : wpX6_pass_31  (wpX6_pass_L31  post n31) post x1 x2 z0 := hw
      unfold wpX6_pass_31 at hw
      refine lv_iload_n hx hb dX6_pass_31 rfl (lv_at hl 2 rfl) ?_
      refine lv_iload_n hx hb dX6_pass_32 rfl (lv_at hl 1 rfl) ?_
      refine lv_icmp_ge (tgt := 49) hx hb dX6_pass_33 (by decide) (fun hc => ?_) (fun hc => ?_)
      · have hw := And.left hw hc
        refine lv_aload_n hx hb dX6_pass_49 rfl (lv_at hl 0 rfl) ?_
        refine rg_M_X6_0_11 hC hK hP dX6_pass_50 ?_
        exact hret _ _ _ _ _ _ hw hP hD hS dX6_pass_53
      · have hw := And.right hw hc
        refine lv_aload_n hx hb dX6_pass_36 rfl (lv_at hl 0 rfl) ?_
        refine lv_bipush (v := (9 : Int32)) hx hb dX6_pass_37 (by decide) ?_
        refine xc_wi (S := wSt) (wsz := fun q => (wsM G h q)) (f := fun u => u) (xr_V hC (cX6_goOn_c (h := h) hw) ⟨rfl, rfl⟩ bw_785 calX6_goOn ⟨Nat.le_trans (Nat.le_of_ble_eq_true rfl) hF, Nat.le_trans (Nat.le_of_ble_eq_true rfl) hL⟩ (rest := []) (xpV hK (cut_all_M) hP hD rfl rfl) rfl hl rfl (Nat.le_of_ble_eq_true rfl) dX6_pass_39 ⟨Nat.zero_le _, Nat.zero_le _⟩) (cut_all_M) hP hD hS hA (fun r1 u z1 H locs hz1 hw hP hD hS => ?_)
        have hw := hw z1 hz1
        refine lv_pop hx hb dX6_pass_42 rfl ?_
        refine lv_iinc (v := (x2 + (1 : Int32))) (lv' := [(2, .int (x2 + (1 : Int32))), (0, .ref (h 0)), (1, .int x1)]) hx hb dX6_pass_43 hl (k := 2) rfl rfl (by decide) rfl (fun ls hl => ?_)
        refine lv_goto (tgt := 31) hx hb dX6_pass_46 (by decide) ?_
        exact I31 x1 (x2 + (1 : Int32)) z1 _ _ _ hw hP hD hS (lv_sub hl [1, 2, 0] rfl)
  unfold wpX6_pass at hw
  refine lv_iload_n hx hb dX6_pass_0 rfl (lv_at hl 1 rfl) ?_
  refine lv_i2l (v := (x1.toInt64)) hx hb dX6_pass_1 rfl ?_
  refine lv_lconst (v := (1 : Int64)) hx hb dX6_pass_2 (by decide) ?_
  refine lv_ldc2 (v := (60 : Int64)) hx hb hC.2.2.2.1 (hC.2.2.2.2 _ bw_824) dX6_pass_3 ?_
  refine vp_callSi (xro (xr_S hC (cX6_in_c hw) ⟨rfl, rfl⟩ bw_700 calX6_in ⟨Nat.le_trans (Nat.le_of_ble_eq_true rfl) hF, Nat.le_trans (Nat.le_of_ble_eq_true rfl) hL⟩ (rest := []) (xpS hK) rfl hl rfl (Nat.le_of_ble_eq_true rfl) dX6_pass_6 ⟨Nat.zero_le _, Nat.zero_le _⟩)) (fun r1 hw => ?_)
  refine lv_if_ne (tgt := 14) hx hb dX6_pass_9 (by decide) (fun hc => ?_) (fun hc => ?_)
  · have hw := And.left hw hc
    refine lv_aload_n hx hb dX6_pass_14 rfl (lv_at hl 0 rfl) ?_
    refine rg_M_X6_0_11 hC hK hP dX6_pass_15 ?_
    refine lv_iload_n hx hb dX6_pass_18 rfl (lv_at hl 1 rfl) ?_
    refine lv_iadd hx hb dX6_pass_19 ?_
    refine lv_sipush (v := (9999 : Int32)) hx hb dX6_pass_20 (by decide) ?_
    refine lv_icmp_le (tgt := 29) hx hb dX6_pass_23 (by decide) (fun hc => ?_) (fun hc => ?_)
    · have hw := And.left hw hc
      refine lv_iconst (v := (0 : Int32)) hx hb dX6_pass_29 (by decide) ?_
      refine lv_istore_n (lv' := [(2, .int (0 : Int32)), (0, .ref (h 0)), (1, .int x1)]) hx hb dX6_pass_30 rfl hl (by decide) rfl (fun ls hl => ?_)
      obtain ⟨j31, hw⟩ := hw
      exact B31 j31 x1 (0 : Int32) z0 _ _ _ hw hP hD hS (lv_sub hl [1, 2, 0] rfl)
    · have hw := And.right hw hc
      refine lv_bipush (v := (-3 : Int32)) hx hb dX6_pass_26 (by decide) ?_
      exact hret _ _ _ _ _ _ hw hP hD hS dX6_pass_28
  · have hw := And.right hw hc
    refine lv_iconst (v := (-1 : Int32)) hx hb dX6_pass_12 (by decide) ?_
    exact hret _ _ _ _ _ _ hw hP hD hS dX6_pass_13
def wpX6_run_20 (k20 : Int32 → (wSt) → Prop) (post : Int32 → (wSt) → Prop) (x1 : Int32) (z0 : wSt) : Prop := (((w_i z0 14) ≤ x1 → (post x1 z0)) ∧ (¬ (w_i z0 14) ≤ x1 → (vp_in x1 24 ∧ (wpX6_goOn ((w_a z0 13) x1.toNatClampNeg) z0 (fun r1 u => ∀ z1 : wSt, z1 = u → ((r1 < 0 → (post x1 z1)) ∧ (¬ r1 < 0 → (k20 (x1 + (1 : Int32)) z1))))))))
def wpX6_run_L20  (post : Int32 → (wSt) → Prop) : Nat → Int32 → (wSt) → Prop
  | 0 => fun _ _ => False
  | n + 1 => fun x1 z0 => wpX6_run_20  (wpX6_run_L20  post n) post x1 z0
def wpX6_run (z0 : wSt) (post : Int32 → (wSt) → Prop) : Prop := ((((w_i z0 11) + (w_i z0 14)) ≤ (9999 : Int32) → (∃ n, wpX6_run_L20  post n (0 : Int32) z0)) ∧ (¬ ((w_i z0 11) + (w_i z0 14)) ≤ (9999 : Int32) → (post (-3 : Int32) z0)))
set_option maxHeartbeats 4000000 in
set_option maxRecDepth 100000 in
theorem cX6_run_c {l : Launch} {G : wG} {h : Nat → Nat} {sz : Nat}  {post : Int32 → (wSt) → Prop} {z0 : wSt}  (hw : wpX6_run z0 post) : Met l yX6_run (.code yX6_run cX6_run 2 (some .int) :: BIG) { frames := 3, cells := 0, slots := 0, locals := 66 } (xPw G [.ref (h 0)] (wsM G h z0) sz) (xQi G post (fun q => (wsM G h q)) (va_A (wsM G h z0) sz)) 0 0 (va_A (wsM G h z0) sz) := by
  refine xm_wi (by decide) (Nat.le_of_ble_eq_true rfl) (fun p e s m args below meth c A ls R Q hC hK hA hP hD hS hl hF hL hret => ?_)
  have hx := hC.1
  have hb := hC.2.1
  have hl : lv_has ls 2 [(0, .ref (h 0))] := hl
  have B20 : ∀ n20 : Nat, ∀ (x1 : Int32) (z0 : wSt) (H : Heap) (locs : List Loc) (ls : Array Slot), wpX6_run_L20  post n20 x1 z0 → va_P G.1 vwCl (wsM G h z0) H → va_D A (wsM G h z0) → va_S A s.heap H locs → lv_has ls 2 [(0, .ref (h 0)), (1, .int x1)] → W p l e R s m args below meth c H locs 0 0 Q (F0 m 20 ls []) := by
    intro n20
    induction n20 with
    | zero => intro x1 z0 H locs ls hw hP hD hS hl; exact False.elim hw
    | succ n20 I20 =>
      intro x1 z0 H locs ls hw hP hD hS hl
      have hw : wpX6_run_20  (wpX6_run_L20  post n20) post x1 z0 := hw
      unfold wpX6_run_20 at hw
      refine lv_iload_n hx hb dX6_run_20 rfl (lv_at hl 1 rfl) ?_
      refine lv_aload_n hx hb dX6_run_21 rfl (lv_at hl 0 rfl) ?_
      refine rg_M_X6_0_14 hC hK hP dX6_run_22 ?_
      refine lv_icmp_ge (tgt := 47) hx hb dX6_run_25 (by decide) (fun hc => ?_) (fun hc => ?_)
      · have hw := And.left hw hc
        refine lv_iload_n hx hb dX6_run_47 rfl (lv_at hl 1 rfl) ?_
        exact hret _ _ _ _ _ _ hw hP hD hS dX6_run_48
      · have hw := And.right hw hc
        refine lv_aload_n hx hb dX6_run_28 rfl (lv_at hl 0 rfl) ?_
        refine lv_aload_n hx hb dX6_run_29 rfl (lv_at hl 0 rfl) ?_
        refine rg_M_X6_0_13 hC hK hP dX6_run_30 ?_
        refine lv_iload_n hx hb dX6_run_33 rfl (lv_at hl 1 rfl) ?_
        refine rl_M_6 hC hK hP (And.left hw) dX6_run_34 ?_
        have hw := And.right hw
        refine xc_wi (S := wSt) (wsz := fun q => (wsM G h q)) (f := fun u => u) (xr_V hC (cX6_goOn_c (h := h) hw) ⟨rfl, rfl⟩ bw_785 calX6_goOn ⟨Nat.le_trans (Nat.le_of_ble_eq_true rfl) hF, Nat.le_trans (Nat.le_of_ble_eq_true rfl) hL⟩ (rest := []) (xpV hK (cut_all_M) hP hD rfl rfl) rfl hl rfl (Nat.le_of_ble_eq_true rfl) dX6_run_35 ⟨Nat.zero_le _, Nat.zero_le _⟩) (cut_all_M) hP hD hS hA (fun r1 u z1 H locs hz1 hw hP hD hS => ?_)
        have hw := hw z1 hz1
        refine lv_if_lt (tgt := 47) hx hb dX6_run_38 (by decide) (fun hc => ?_) (fun hc => ?_)
        · have hw := And.left hw hc
          refine lv_iload_n hx hb dX6_run_47 rfl (lv_at hl 1 rfl) ?_
          exact hret _ _ _ _ _ _ hw hP hD hS dX6_run_48
        · have hw := And.right hw hc
          refine lv_iinc (v := (x1 + (1 : Int32))) (lv' := [(1, .int (x1 + (1 : Int32))), (0, .ref (h 0))]) hx hb dX6_run_41 hl (k := 1) rfl rfl (by decide) rfl (fun ls hl => ?_)
          refine lv_goto (tgt := 20) hx hb dX6_run_44 (by decide) ?_
          exact I20 (x1 + (1 : Int32)) z1 _ _ _ hw hP hD hS (lv_sub hl [1, 0] rfl)
  unfold wpX6_run at hw
  refine lv_aload_n hx hb dX6_run_0 rfl (lv_at hl 0 rfl) ?_
  refine rg_M_X6_0_11 hC hK hP dX6_run_1 ?_
  refine lv_aload_n hx hb dX6_run_4 rfl (lv_at hl 0 rfl) ?_
  refine rg_M_X6_0_14 hC hK hP dX6_run_5 ?_
  refine lv_iadd hx hb dX6_run_8 ?_
  refine lv_sipush (v := (9999 : Int32)) hx hb dX6_run_9 (by decide) ?_
  refine lv_icmp_le (tgt := 18) hx hb dX6_run_12 (by decide) (fun hc => ?_) (fun hc => ?_)
  · have hw := And.left hw hc
    refine lv_iconst (v := (0 : Int32)) hx hb dX6_run_18 (by decide) ?_
    refine lv_istore_n (lv' := [(1, .int (0 : Int32)), (0, .ref (h 0))]) hx hb dX6_run_19 rfl hl (by decide) rfl (fun ls hl => ?_)
    obtain ⟨j20, hw⟩ := hw
    exact B20 j20 (0 : Int32) z0 _ _ _ hw hP hD hS (lv_sub hl [1, 0] rfl)
  · have hw := And.right hw hc
    refine lv_bipush (v := (-3 : Int32)) hx hb dX6_run_15 (by decide) ?_
    exact hret _ _ _ _ _ _ hw hP hD hS dX6_run_17
def wpX6_nextRow_4 (k4 : Int32 → (wSt) → Prop) (post : Int32 → (wSt) → Prop) (x2 : Int32) (z0 : wSt) : Prop := ((x2 < 0 → (post (0 : Int32) z0)) ∧ (¬ x2 < 0 → (vp_in x2 5 ∧ (vp_in x2 5 ∧ ∀ z1 : wSt, z1 = (w_sa z0 28 (upd (w_a z0 28) x2.toNatClampNeg (((w_a z0 28) x2.toNatClampNeg) + (1 : Int32)))) → (vp_in x2 5 ∧ (((w_i z1 5) < ((w_a z1 28) x2.toNatClampNeg) → (vp_in x2 5 ∧ ∀ z2 : wSt, z2 = (w_sa z1 28 (upd (w_a z1 28) x2.toNatClampNeg (0 : Int32))) → (k4 (x2 + (-1 : Int32)) z2))) ∧ (¬ (w_i z1 5) < ((w_a z1 28) x2.toNatClampNeg) → (post (1 : Int32) z1))))))))
def wpX6_nextRow_L4  (post : Int32 → (wSt) → Prop) : Nat → Int32 → (wSt) → Prop
  | 0 => fun _ _ => False
  | n + 1 => fun x2 z0 => wpX6_nextRow_4  (wpX6_nextRow_L4  post n) post x2 z0
def wpX6_nextRow (x1 : Int32) (z0 : wSt) (post : Int32 → (wSt) → Prop) : Prop := (∃ n, wpX6_nextRow_L4  post n (x1 - (1 : Int32)) z0)
set_option maxHeartbeats 4000000 in
set_option maxRecDepth 100000 in
theorem cX6_nextRow_c {l : Launch} {G : wG} {h : Nat → Nat} {sz : Nat} {x1 : Int32} {post : Int32 → (wSt) → Prop} {z0 : wSt}  (hw : wpX6_nextRow x1 z0 post) : Met l yX6_nextRow (.code yX6_nextRow cX6_nextRow 3 (some .boolean) :: BIG) { frames := 0, cells := 0, slots := 0, locals := 0 } (xPw G [.ref (h 0), .int x1] (wsM G h z0) sz) (xQi G post (fun q => (wsM G h q)) (va_A (wsM G h z0) sz)) 0 0 (va_A (wsM G h z0) sz) := by
  refine xm_wz (by decide) (Nat.le_of_ble_eq_true rfl) (fun p e s m args below meth c A ls R Q hC hK hA hP hD hS hl hF hL hret => ?_)
  have hx := hC.1
  have hb := hC.2.1
  have hl : lv_has ls 3 [(0, .ref (h 0)), (1, .int x1)] := hl
  have B4 : ∀ n4 : Nat, ∀ (x2 : Int32) (z0 : wSt) (H : Heap) (locs : List Loc) (ls : Array Slot), wpX6_nextRow_L4  post n4 x2 z0 → va_P G.1 vwCl (wsM G h z0) H → va_D A (wsM G h z0) → va_S A s.heap H locs → lv_has ls 3 [(0, .ref (h 0)), (2, .int x2)] → W p l e R s m args below meth c H locs 0 0 Q (F0 m 4 ls []) := by
    intro n4
    induction n4 with
    | zero => intro x2 z0 H locs ls hw hP hD hS hl; exact False.elim hw
    | succ n4 I4 =>
      intro x2 z0 H locs ls hw hP hD hS hl
      have hw : wpX6_nextRow_4  (wpX6_nextRow_L4  post n4) post x2 z0 := hw
      unfold wpX6_nextRow_4 at hw
      refine lv_iload_n hx hb dX6_nextRow_4 rfl (lv_at hl 1 rfl) ?_
      refine lv_if_lt (tgt := 46) hx hb dX6_nextRow_5 (by decide) (fun hc => ?_) (fun hc => ?_)
      · have hw := And.left hw hc
        refine lv_iconst (v := (0 : Int32)) hx hb dX6_nextRow_46 (by decide) ?_
        exact hret _ _ _ _ _ _ rfl hw hP hD hS dX6_nextRow_47
      · have hw := And.right hw hc
        refine lv_aload_n hx hb dX6_nextRow_8 rfl (lv_at hl 0 rfl) ?_
        refine rg_M_X6_0_28 hC hK hP dX6_nextRow_9 ?_
        refine lv_iload_n hx hb dX6_nextRow_12 rfl (lv_at hl 1 rfl) ?_
        refine lv_dup2_11 hx hb dX6_nextRow_13 rfl rfl ?_
        refine rl_M_10 hC hK hP (And.left hw) dX6_nextRow_14 ?_
        have hw := And.right hw
        refine lv_iconst (v := (1 : Int32)) hx hb dX6_nextRow_15 (by decide) ?_
        refine lv_iadd hx hb dX6_nextRow_16 ?_
        refine rs_M_10 hC hK hP hD hS (And.left hw) dX6_nextRow_17 (fun z1 H locs hz1 hP hD hS => ?_)
        have hw := And.right hw z1 hz1
        refine lv_aload_n hx hb dX6_nextRow_18 rfl (lv_at hl 0 rfl) ?_
        refine rg_M_X6_0_28 hC hK hP dX6_nextRow_19 ?_
        refine lv_iload_n hx hb dX6_nextRow_22 rfl (lv_at hl 1 rfl) ?_
        refine rl_M_10 hC hK hP (And.left hw) dX6_nextRow_23 ?_
        have hw := And.right hw
        refine lv_aload_n hx hb dX6_nextRow_24 rfl (lv_at hl 0 rfl) ?_
        refine rg_M_X6_0_5 hC hK hP dX6_nextRow_25 ?_
        refine lv_icmp_gt (tgt := 33) hx hb dX6_nextRow_28 (by decide) (fun hc => ?_) (fun hc => ?_)
        · have hw := And.left hw hc
          refine lv_aload_n hx hb dX6_nextRow_33 rfl (lv_at hl 0 rfl) ?_
          refine rg_M_X6_0_28 hC hK hP dX6_nextRow_34 ?_
          refine lv_iload_n hx hb dX6_nextRow_37 rfl (lv_at hl 1 rfl) ?_
          refine lv_iconst (v := (0 : Int32)) hx hb dX6_nextRow_38 (by decide) ?_
          refine rs_M_10 hC hK hP hD hS (And.left hw) dX6_nextRow_39 (fun z2 H locs hz1 hP hD hS => ?_)
          have hw := And.right hw z2 hz1
          refine lv_iinc (v := (x2 + (-1 : Int32))) (lv' := [(2, .int (x2 + (-1 : Int32))), (0, .ref (h 0))]) hx hb dX6_nextRow_40 hl (k := 1) rfl rfl (by decide) rfl (fun ls hl => ?_)
          refine lv_goto (tgt := 4) hx hb dX6_nextRow_43 (by decide) ?_
          exact I4 (x2 + (-1 : Int32)) z2 _ _ _ hw hP hD hS (lv_sub hl [1, 0] rfl)
        · have hw := And.right hw hc
          refine lv_iconst (v := (1 : Int32)) hx hb dX6_nextRow_31 (by decide) ?_
          exact hret _ _ _ _ _ _ rfl hw hP hD hS dX6_nextRow_32
  unfold wpX6_nextRow at hw
  refine lv_iload_n hx hb dX6_nextRow_0 rfl (lv_at hl 1 rfl) ?_
  refine lv_iconst (v := (1 : Int32)) hx hb dX6_nextRow_1 (by decide) ?_
  refine lv_isub hx hb dX6_nextRow_2 ?_
  refine lv_istore_n (lv' := [(2, .int (x1 - (1 : Int32))), (0, .ref (h 0)), (1, .int x1)]) hx hb dX6_nextRow_3 rfl hl (by decide) rfl (fun ls hl => ?_)
  obtain ⟨j4, hw⟩ := hw
  exact B4 j4 (x1 - (1 : Int32)) z0 _ _ _ hw hP hD hS (lv_sub hl [1, 0] rfl)
