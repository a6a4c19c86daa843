def wpX6_findMost_184 (k25 : Int32 → Int32 → Int32 → Int32 → (wSt) → Prop) (post : Int32 → (wSt) → Prop) (x1 : Int32) (x2 : Int32) (x3 : Int32) (z0 : wSt) : Prop := (wpX6_nextRow x1 z0 (fun r1 u => ∀ z1 : wSt, z1 = u → (k25 x1 x2 x3 r1 z1)))
def wpX6_findMost_177 (k25 : Int32 → Int32 → Int32 → Int32 → (wSt) → Prop) (k139 : Int32 → Int32 → Int32 → Int32 → (wSt) → Prop) (post : Int32 → (wSt) → Prop) (x1 : Int32) (x2 : Int32) (x3 : Int32) (x7 : Int32) (t0 : Int32) (t1 : Int32) (z0 : wSt) : Prop := (vp_in t1 5 ∧ ∀ z1 : wSt, z1 = (w_sa z0 29 (upd (w_a z0 29) t1.toNatClampNeg t0)) → (k139 x1 x2 x3 (x7 + (1 : Int32)) z1))
def wpX6_findMost_139 (k25 : Int32 → Int32 → Int32 → Int32 → (wSt) → Prop) (k139 : Int32 → Int32 → Int32 → Int32 → (wSt) → Prop) (post : Int32 → (wSt) → Prop) (x1 : Int32) (x2 : Int32) (x3 : Int32) (x7 : Int32) (z0 : wSt) : Prop := ((x1 ≤ x7 → (wpX6_findMost_184 k25 post x1 x2 x3 z0)) ∧ (¬ x1 ≤ x7 → (vp_in x7 5 ∧ ((¬ ((w_a z0 28) x7.toNatClampNeg) = (w_i z0 5) → (vp_in x7 5 ∧ (wpX6_findMost_177 k25 k139 post x1 x2 x3 x7 ((w_a z0 28) x7.toNatClampNeg) x7 z0))) ∧ (((w_a z0 28) x7.toNatClampNeg) = (w_i z0 5) → (wpX6_findMost_177 k25 k139 post x1 x2 x3 x7 (9 : Int32) x7 z0))))))
def wpX6_findMost_L139 (k25 : Int32 → Int32 → Int32 → Int32 → (wSt) → Prop) (post : Int32 → (wSt) → Prop) : Nat → Int32 → Int32 → Int32 → Int32 → (wSt) → Prop
  | 0 => fun _ _ _ _ _ => False
  | n + 1 => fun x1 x2 x3 x7 z0 => wpX6_findMost_139 k25 (wpX6_findMost_L139 k25 post n) post x1 x2 x3 x7 z0
def wpX6_findMost_122 (k25 : Int32 → Int32 → Int32 → Int32 → (wSt) → Prop) (post : Int32 → (wSt) → Prop) (x1 : Int32) (x2 : Int32) (x3 : Int32) (x5 : Int32) (x6 : Int32) (z0 : wSt) : Prop := ((x6 = 0 → (wpX6_findMost_184 k25 post x1 x2 x3 z0)) ∧ (¬ x6 = 0 → ((x5 ≤ x3 → (wpX6_findMost_184 k25 post x1 x2 x3 z0)) ∧ (¬ x5 ≤ x3 → (∃ n, wpX6_findMost_L139 k25 post n x1 x2 x5 (0 : Int32) z0)))))
def wpX6_findMost_113 (k25 : Int32 → Int32 → Int32 → Int32 → (wSt) → Prop) (k48 : Int32 → Int32 → Int32 → Int32 → Int32 → Int32 → (wSt) → Prop) (post : Int32 → (wSt) → Prop) (x1 : Int32) (x2 : Int32) (x3 : Int32) (x6 : Int32) (x7 : Int32) (t0 : Int32) (t1 : Int32) (z0 : wSt) : Prop := (k48 x1 x2 x3 (t1 + t0) x6 (x7 + (1 : Int32)) z0)
def wpX6_findMost_112 (k25 : Int32 → Int32 → Int32 → Int32 → (wSt) → Prop) (k48 : Int32 → Int32 → Int32 → Int32 → Int32 → Int32 → (wSt) → Prop) (post : Int32 → (wSt) → Prop) (x1 : Int32) (x2 : Int32) (x3 : Int32) (x6 : Int32) (x7 : Int32) (t0 : Int32) (z0 : wSt) : Prop := (wpX6_findMost_113 k25 k48 post x1 x2 x3 x6 x7 (0 : Int32) t0 z0)
def wpX6_findMost_86 (k25 : Int32 → Int32 → Int32 → Int32 → (wSt) → Prop) (k48 : Int32 → Int32 → Int32 → Int32 → Int32 → Int32 → (wSt) → Prop) (post : Int32 → (wSt) → Prop) (x1 : Int32) (x2 : Int32) (x3 : Int32) (x5 : Int32) (x7 : Int32) (t0 : Int32) (z0 : wSt) : Prop := (wpX6_tryOne t0 z0 (fun r1 u => ∀ z1 : wSt, z1 = u → ((r1 = 0 → (wpX6_findMost_112 k25 k48 post x1 x2 x3 r1 x7 x5 z1)) ∧ (¬ r1 = 0 → (((w_i z1 26) = 0 → (wpX6_findMost_112 k25 k48 post x1 x2 x3 r1 x7 x5 z1)) ∧ (¬ (w_i z1 26) = 0 → (wpX6_findMost_113 k25 k48 post x1 x2 x3 r1 x7 (w_i z1 25) x5 z1)))))))
def wpX6_findMost_48 (k25 : Int32 → Int32 → Int32 → Int32 → (wSt) → Prop) (k48 : Int32 → Int32 → Int32 → Int32 → Int32 → Int32 → (wSt) → Prop) (post : Int32 → (wSt) → Prop) (x1 : Int32) (x2 : Int32) (x3 : Int32) (x5 : Int32) (x6 : Int32) (x7 : Int32) (z0 : wSt) : Prop := ((x1 ≤ x7 → (wpX6_findMost_122 k25 post x1 x2 x3 x5 x6 z0)) ∧ (¬ x1 ≤ x7 → ((x6 = 0 → (wpX6_findMost_122 k25 post x1 x2 x3 x5 x6 z0)) ∧ (¬ x6 = 0 → (vp_in x7 5 ∧ ((¬ ((w_a z0 28) x7.toNatClampNeg) = (w_i z0 5) → (vp_in x7 5 ∧ (wpX6_findMost_86 k25 k48 post x1 x2 x3 x5 x7 ((w_a z0 28) x7.toNatClampNeg) z0))) ∧ (((w_a z0 28) x7.toNatClampNeg) = (w_i z0 5) → (wpX6_findMost_86 k25 k48 post x1 x2 x3 x5 x7 (9 : Int32) z0))))))))
def wpX6_findMost_L48 (k25 : Int32 → Int32 → Int32 → Int32 → (wSt) → Prop) (post : Int32 → (wSt) → Prop) : Nat → Int32 → Int32 → Int32 → Int32 → Int32 → Int32 → (wSt) → Prop
  | 0 => fun _ _ _ _ _ _ _ => False
  | n + 1 => fun x1 x2 x3 x5 x6 x7 z0 => wpX6_findMost_48 k25 (wpX6_findMost_L48 k25 post n) post x1 x2 x3 x5 x6 x7 z0
def wpX6_findMost_25 (k25 : Int32 → Int32 → Int32 → Int32 → (wSt) → Prop) (post : Int32 → (wSt) → Prop) (x1 : Int32) (x2 : Int32) (x3 : Int32) (x4 : Int32) (z0 : wSt) : Prop := ((x4 = 0 → (post x3 z0)) ∧ (¬ x4 = 0 → (wpX6_begin z0 (fun u => ∀ z1 : wSt, z1 = u → (∀ z2 : wSt, z2 = (w_si z1 21 x2) → (∃ n, wpX6_findMost_L48 k25 post n x1 x2 x3 (0 : Int32) (1 : Int32) (0 : Int32) z2))))))
def wpX6_findMost_L25  (post : Int32 → (wSt) → Prop) : Nat → Int32 → Int32 → Int32 → Int32 → (wSt) → Prop
  | 0 => fun _ _ _ _ _ => False
  | n + 1 => fun x1 x2 x3 x4 z0 => wpX6_findMost_25  (wpX6_findMost_L25  post n) post x1 x2 x3 x4 z0
def wpX6_findMost_2 (k2 : Int32 → Int32 → Int32 → (wSt) → Prop) (post : Int32 → (wSt) → Prop) (x1 : Int32) (x2 : Int32) (x3 : Int32) (z0 : wSt) : Prop := ((x1 ≤ x3 → (∃ n, wpX6_findMost_L25  post n x1 x2 (-1 : Int32) (1 : Int32) z0)) ∧ (¬ x1 ≤ x3 → (vp_in x3 5 ∧ ∀ z1 : wSt, z1 = (w_sa z0 28 (upd (w_a z0 28) x3.toNatClampNeg (0 : Int32))) → (k2 x1 x2 (x3 + (1 : Int32)) z1))))
def wpX6_findMost_L2  (post : Int32 → (wSt) → Prop) : Nat → Int32 → Int32 → Int32 → (wSt) → Prop
  | 0 => fun _ _ _ _ => False
  | n + 1 => fun x1 x2 x3 z0 => wpX6_findMost_2  (wpX6_findMost_L2  post n) post x1 x2 x3 z0
def wpX6_findMost (x1 : Int32) (x2 : Int32) (z0 : wSt) (post : Int32 → (wSt) → Prop) : Prop := (∃ n, wpX6_findMost_L2  post n x1 x2 (0 : Int32) z0)
set_option maxHeartbeats 4000000 in
set_option maxRecDepth 100000 in
theorem cX6_findMost_c {l : Launch} {G : wG} {h : Nat → Nat} {sz : Nat} {x1 : Int32} {x2 : Int32} {post : Int32 → (wSt) → Prop} {z0 : wSt}  (hw : wpX6_findMost x1 x2 z0 post) : Met l yX6_findMost (.code yX6_findMost cX6_findMost 8 (some .int) :: BIG) { frames := 2, cells := 0, slots := 0, locals := 45 } (xPw G [.ref (h 0), .int x1, .int x2] (wsM G h z0) sz) (xQi G post (fun q => (wsM G h q)) (va_A (wsM G h z0) sz)) 0 0 (va_A (wsM G h z0) sz) := by
  refine xm_wi (by decide) (Nat.le_of_ble_eq_true rfl) (fun p e s m args below meth c A ls R Q hC hK hA hP hD hS hl hF hL hret => ?_)
  have hx := hC.1
  have hb := hC.2.1
  have hl : lv_has ls 8 [(0, .ref (h 0)), (1, .int x1), (2, .int x2)] := hl
  have B25 : ∀ n25 : Nat, ∀ (x1 : Int32) (x2 : Int32) (x3 : Int32) (x4 : Int32) (z0 : wSt) (H : Heap) (locs : List Loc) (ls : Array Slot), wpX6_findMost_L25  post n25 x1 x2 x3 x4 z0 → va_P G.1 vwCl (wsM G h z0) H → va_D A (wsM G h z0) → va_S A s.heap H locs → lv_has ls 8 [(0, .ref (h 0)), (1, .int x1), (2, .int x2), (3, .int x3), (4, .int x4)] → W p l e R s m args below meth c H locs 0 0 Q (F0 m 25 ls []) := by
    intro n25
    induction n25 with
    | zero => intro x1 x2 x3 x4 z0 H locs ls hw hP hD hS hl; exact False.elim hw
    | succ n25 I25 =>
      have B184 : ∀ (x1 : Int32) (x2 : Int32) (x3 : Int32) (z0 : wSt) (H : Heap) (locs : List Loc) (ls : Array Slot), wpX6_findMost_184 (wpX6_findMost_L25  post n25) post x1 x2 x3 z0 → va_P G.1 vwCl (wsM G h z0) H → va_D A (wsM G h z0) → va_S A s.heap H locs → lv_has ls 8 [(0, .ref (h 0)), (1, .int x1), (2, .int x2), (3, .int x3)] → W p l e R s m args below meth c H locs 0 0 Q (F0 m 184 ls []) := by
        intro x1 x2 x3 z0 H locs ls hw hP hD hS hl
        unfold wpX6_findMost_184 at hw
        refine lv_aload_n hx hb dX6_findMost_184 rfl (lv_at hl 0 rfl) ?_
        refine lv_iload_n hx hb dX6_findMost_185 rfl (lv_at hl 1 rfl) ?_
        refine xc_wi (S := wSt) (wsz := fun q => (wsM G h q)) (f := fun u => u) (xr_V hC (cX6_nextRow_c (h := h) hw) ⟨rfl, rfl⟩ bw_838 calX6_nextRow ⟨Nat.le_trans (Nat.le_of_ble_eq_true rfl) hF, Nat.le_trans (Nat.le_of_ble_eq_true rfl) hL⟩ (rest := []) (xpV hK (cut_all_M) hP hD rfl rfl) rfl hl rfl (Nat.le_of_ble_eq_true rfl) dX6_findMost_186 ⟨Nat.zero_le _, Nat.zero_le _⟩) (cut_all_M) hP hD hS hA (fun r1 u z1 H locs hz1 hw hP hD hS => ?_)
        have hw := hw z1 hz1
        refine lv_istore (lv' := [(4, .int r1), (0, .ref (h 0)), (1, .int x1), (2, .int x2), (3, .int x3)]) hx hb dX6_findMost_189 hl (by decide) rfl (fun ls hl => ?_)
        refine lv_goto (tgt := 25) hx hb dX6_findMost_191 (by decide) ?_
        exact I25 x1 x2 x3 r1 z1 _ _ _ hw hP hD hS (lv_sub hl [1, 2, 3, 4, 0] rfl)
      have B139 : ∀ n139 : Nat, ∀ (x1 : Int32) (x2 : Int32) (x3 : Int32) (x7 : Int32) (z0 : wSt) (H : Heap) (locs : List Loc) (ls : Array Slot), wpX6_findMost_L139 (wpX6_findMost_L25  post n25) post n139 x1 x2 x3 x7 z0 → va_P G.1 vwCl (wsM G h z0) H → va_D A (wsM G h z0) → va_S A s.heap H locs → lv_has ls 8 [(0, .ref (h 0)), (1, .int x1), (2, .int x2), (3, .int x3), (7, .int x7)] → W p l e R s m args below meth c H locs 0 0 Q (F0 m 139 ls []) := by
        intro n139
        induction n139 with
        | zero => intro x1 x2 x3 x7 z0 H locs ls hw hP hD hS hl; exact False.elim hw
        | succ n139 I139 =>
          have B177 : ∀ (x1 : Int32) (x2 : Int32) (x3 : Int32) (x7 : Int32) (t0 : Int32) (t1 : Int32) (z0 : wSt) (H : Heap) (locs : List Loc) (ls : Array Slot), wpX6_findMost_177 (wpX6_findMost_L25  post n25) (wpX6_findMost_L139 (wpX6_findMost_L25  post n25) post n139) post x1 x2 x3 x7 t0 t1 z0 → va_P G.1 vwCl (wsM G h z0) H → va_D A (wsM G h z0) → va_S A s.heap H locs → lv_has ls 8 [(0, .ref (h 0)), (1, .int x1), (2, .int x2), (3, .int x3), (7, .int x7)] → W p l e R s m args below meth c H locs 0 0 Q (F0 m 177 ls [.int t0, .int t1, .ref (h 11)]) := by
            intro x1 x2 x3 x7 t0 t1 z0 H locs ls hw hP hD hS hl
            unfold wpX6_findMost_177 at hw
            refine rs_M_11 hC hK hP hD hS (And.left hw) dX6_findMost_177 (fun z1 H locs hz1 hP hD hS => ?_)
            have hw := And.right hw z1 hz1
            refine lv_iinc (v := (x7 + (1 : Int32))) (lv' := [(7, .int (x7 + (1 : Int32))), (0, .ref (h 0)), (1, .int x1), (2, .int x2), (3, .int x3)]) hx hb dX6_findMost_178 hl (k := 4) rfl rfl (by decide) rfl (fun ls hl => ?_)
            refine lv_goto (tgt := 139) hx hb dX6_findMost_181 (by decide) ?_
            exact I139 x1 x2 x3 (x7 + (1 : Int32)) z1 _ _ _ hw hP hD hS (lv_sub hl [1, 2, 3, 4, 0] rfl)
          intro x1 x2 x3 x7 z0 H locs ls hw hP hD hS hl
          have hw : wpX6_findMost_139 (wpX6_findMost_L25  post n25) (wpX6_findMost_L139 (wpX6_findMost_L25  post n25) post n139) post x1 x2 x3 x7 z0 := hw
          unfold wpX6_findMost_139 at hw
          refine lv_iload hx hb dX6_findMost_139 (lv_at hl 4 rfl) ?_
          refine lv_iload_n hx hb dX6_findMost_141 rfl (lv_at hl 1 rfl) ?_
          refine lv_icmp_ge (tgt := 184) hx hb dX6_findMost_142 (by decide) (fun hc => ?_) (fun hc => ?_)
          · have hw := And.left hw hc
            exact B184 x1 x2 x3 z0 _ _ _ hw hP hD hS (lv_sub hl [0, 1, 2, 3] rfl)
          · have hw := And.right hw hc
            refine lv_aload_n hx hb dX6_findMost_145 rfl (lv_at hl 0 rfl) ?_
            refine rg_M_X6_0_29 hC hK hP dX6_findMost_146 ?_
            refine lv_iload hx hb dX6_findMost_149 (lv_at hl 4 rfl) ?_
            refine lv_aload_n hx hb dX6_findMost_151 rfl (lv_at hl 0 rfl) ?_
            refine rg_M_X6_0_28 hC hK hP dX6_findMost_152 ?_
            refine lv_iload hx hb dX6_findMost_155 (lv_at hl 4 rfl) ?_
            refine rl_M_10 hC hK hP (And.left hw) dX6_findMost_157 ?_
            have hw := And.right hw
            refine lv_aload_n hx hb dX6_findMost_158 rfl (lv_at hl 0 rfl) ?_
            refine rg_M_X6_0_5 hC hK hP dX6_findMost_159 ?_
            refine lv_icmp_ne (tgt := 170) hx hb dX6_findMost_162 (by decide) (fun hc => ?_) (fun hc => ?_)
            · have hw := And.left hw hc
              refine lv_aload_n hx hb dX6_findMost_170 rfl (lv_at hl 0 rfl) ?_
              refine rg_M_X6_0_28 hC hK hP dX6_findMost_171 ?_
              refine lv_iload hx hb dX6_findMost_174 (lv_at hl 4 rfl) ?_
              refine rl_M_10 hC hK hP (And.left hw) dX6_findMost_176 ?_
              have hw := And.right hw
              exact B177 x1 x2 x3 x7 ((w_a z0 28) x7.toNatClampNeg) x7 z0 _ _ _ hw hP hD hS (lv_sub hl [0, 1, 2, 3, 4] rfl)
            · have hw := And.right hw hc
              refine lv_bipush (v := (9 : Int32)) hx hb dX6_findMost_165 (by decide) ?_
              refine lv_goto (tgt := 177) hx hb dX6_findMost_167 (by decide) ?_
              exact B177 x1 x2 x3 x7 (9 : Int32) x7 z0 _ _ _ hw hP hD hS (lv_sub hl [0, 1, 2, 3, 4] rfl)
      have B122 : ∀ (x1 : Int32) (x2 : Int32) (x3 : Int32) (x5 : Int32) (x6 : Int32) (z0 : wSt) (H : Heap) (locs : List Loc) (ls : Array Slot), wpX6_findMost_122 (wpX6_findMost_L25  post n25) post x1 x2 x3 x5 x6 z0 → va_P G.1 vwCl (wsM G h z0) H → va_D A (wsM G h z0) → va_S A s.heap H locs → lv_has ls 8 [(0, .ref (h 0)), (1, .int x1), (2, .int x2), (3, .int x3), (5, .int x5), (6, .int x6)] → W p l e R s m args below meth c H locs 0 0 Q (F0 m 122 ls []) := by
        intro x1 x2 x3 x5 x6 z0 H locs ls hw hP hD hS hl
        unfold wpX6_findMost_122 at hw
        refine lv_iload hx hb dX6_findMost_122 (lv_at hl 5 rfl) ?_
        refine lv_if_eq (tgt := 184) hx hb dX6_findMost_124 (by decide) (fun hc => ?_) (fun hc => ?_)
        · have hw := And.left hw hc
          exact B184 x1 x2 x3 z0 _ _ _ hw hP hD hS (lv_sub hl [0, 1, 2, 3] rfl)
        · have hw := And.right hw hc
          refine lv_iload hx hb dX6_findMost_127 (lv_at hl 4 rfl) ?_
          refine lv_iload_n hx hb dX6_findMost_129 rfl (lv_at hl 3 rfl) ?_
          refine lv_icmp_le (tgt := 184) hx hb dX6_findMost_130 (by decide) (fun hc => ?_) (fun hc => ?_)
          · have hw := And.left hw hc
            exact B184 x1 x2 x3 z0 _ _ _ hw hP hD hS (lv_sub hl [0, 1, 2, 3] rfl)
          · have hw := And.right hw hc
            refine lv_iload hx hb dX6_findMost_133 (lv_at hl 4 rfl) ?_
            refine lv_istore_n (lv' := [(3, .int x5), (0, .ref (h 0)), (1, .int x1), (2, .int x2), (5, .int x5), (6, .int x6)]) hx hb dX6_findMost_135 rfl hl (by decide) rfl (fun ls hl => ?_)
            refine lv_iconst (v := (0 : Int32)) hx hb dX6_findMost_136 (by decide) ?_
            refine lv_istore (lv' := [(7, .int (0 : Int32)), (3, .int x5), (0, .ref (h 0)), (1, .int x1), (2, .int x2), (5, .int x5), (6, .int x6)]) hx hb dX6_findMost_137 hl (by decide) rfl (fun ls hl => ?_)
            obtain ⟨j139, hw⟩ := hw
            exact B139 j139 x1 x2 x5 (0 : Int32) z0 _ _ _ hw hP hD hS (lv_sub hl [2, 3, 4, 1, 0] rfl)
      have B48 : ∀ n48 : Nat, ∀ (x1 : Int32) (x2 : Int32) (x3 : Int32) (x5 : Int32) (x6 : Int32) (x7 : Int32) (z0 : wSt) (H : Heap) (locs : List Loc) (ls : Array Slot), wpX6_findMost_L48 (wpX6_findMost_L25  post n25) post n48 x1 x2 x3 x5 x6 x7 z0 → va_P G.1 vwCl (wsM G h z0) H → va_D A (wsM G h z0) → va_S A s.heap H locs → lv_has ls 8 [(0, .ref (h 0)), (1, .int x1), (2, .int x2), (3, .int x3), (5, .int x5), (6, .int x6), (7, .int x7)] → W p l e R s m args below meth c H locs 0 0 Q (F0 m 48 ls []) := by
        intro n48
        induction n48 with
        | zero => intro x1 x2 x3 x5 x6 x7 z0 H locs ls hw hP hD hS hl; exact False.elim hw
        | succ n48 I48 =>
          have B113 : ∀ (x1 : Int32) (x2 : Int32) (x3 : Int32) (x6 : Int32) (x7 : Int32) (t0 : Int32) (t1 : Int32) (z0 : wSt) (H : Heap) (locs : List Loc) (ls : Array Slot), wpX6_findMost_113 (wpX6_findMost_L25  post n25) (wpX6_findMost_L48 (wpX6_findMost_L25  post n25) post n48) post x1 x2 x3 x6 x7 t0 t1 z0 → va_P G.1 vwCl (wsM G h z0) H → va_D A (wsM G h z0) → va_S A s.heap H locs → lv_has ls 8 [(0, .ref (h 0)), (1, .int x1), (2, .int x2), (3, .int x3), (6, .int x6), (7, .int x7)] → W p l e R s m args below meth c H locs 0 0 Q (F0 m 113 ls [.int t0, .int t1]) := by
            intro x1 x2 x3 x6 x7 t0 t1 z0 H locs ls hw hP hD hS hl
            unfold wpX6_findMost_113 at hw
            refine lv_iadd hx hb dX6_findMost_113 ?_
            refine lv_istore (lv' := [(5, .int (t1 + t0)), (0, .ref (h 0)), (1, .int x1), (2, .int x2), (3, .int x3), (6, .int x6), (7, .int x7)]) hx hb dX6_findMost_114 hl (by decide) rfl (fun ls hl => ?_)
            refine lv_iinc (v := (x7 + (1 : Int32))) (lv' := [(7, .int (x7 + (1 : Int32))), (5, .int (t1 + t0)), (0, .ref (h 0)), (1, .int x1), (2, .int x2), (3, .int x3), (6, .int x6)]) hx hb dX6_findMost_116 hl (k := 6) rfl rfl (by decide) rfl (fun ls hl => ?_)
            refine lv_goto (tgt := 48) hx hb dX6_findMost_119 (by decide) ?_
            exact I48 x1 x2 x3 (t1 + t0) x6 (x7 + (1 : Int32)) z0 _ _ _ hw hP hD hS (lv_sub hl [2, 3, 4, 5, 1, 6, 0] rfl)
          have B112 : ∀ (x1 : Int32) (x2 : Int32) (x3 : Int32) (x6 : Int32) (x7 : Int32) (t0 : Int32) (z0 : wSt) (H : Heap) (locs : List Loc) (ls : Array Slot), wpX6_findMost_112 (wpX6_findMost_L25  post n25) (wpX6_findMost_L48 (wpX6_findMost_L25  post n25) post n48) post x1 x2 x3 x6 x7 t0 z0 → va_P G.1 vwCl (wsM G h z0) H → va_D A (wsM G h z0) → va_S A s.heap H locs → lv_has ls 8 [(0, .ref (h 0)), (1, .int x1), (2, .int x2), (3, .int x3), (6, .int x6), (7, .int x7)] → W p l e R s m args below meth c H locs 0 0 Q (F0 m 112 ls [.int t0]) := by
            intro x1 x2 x3 x6 x7 t0 z0 H locs ls hw hP hD hS hl
            unfold wpX6_findMost_112 at hw
            refine lv_iconst (v := (0 : Int32)) hx hb dX6_findMost_112 (by decide) ?_
            exact B113 x1 x2 x3 x6 x7 (0 : Int32) t0 z0 _ _ _ hw hP hD hS (lv_sub hl [0, 1, 2, 3, 4, 5] rfl)
          have B86 : ∀ (x1 : Int32) (x2 : Int32) (x3 : Int32) (x5 : Int32) (x7 : Int32) (t0 : Int32) (z0 : wSt) (H : Heap) (locs : List Loc) (ls : Array Slot), wpX6_findMost_86 (wpX6_findMost_L25  post n25) (wpX6_findMost_L48 (wpX6_findMost_L25  post n25) post n48) post x1 x2 x3 x5 x7 t0 z0 → va_P G.1 vwCl (wsM G h z0) H → va_D A (wsM G h z0) → va_S A s.heap H locs → lv_has ls 8 [(0, .ref (h 0)), (1, .int x1), (2, .int x2), (3, .int x3), (5, .int x5), (7, .int x7)] → W p l e R s m args below meth c H locs 0 0 Q (F0 m 86 ls [.int t0, .ref (h 0)]) := by
            intro x1 x2 x3 x5 x7 t0 z0 H locs ls hw hP hD hS hl
            unfold wpX6_findMost_86 at hw
            refine xc_wi (S := wSt) (wsz := fun q => (wsM G h q)) (f := fun u => u) (xr_V hC (cX6_tryOne_c (h := h) hw) ⟨rfl, rfl⟩ bw_793 calX6_tryOne ⟨Nat.le_trans (Nat.le_of_ble_eq_true rfl) hF, Nat.le_trans (Nat.le_of_ble_eq_true rfl) hL⟩ (rest := []) (xpV hK (cut_all_M) hP hD rfl rfl) rfl hl rfl (Nat.le_of_ble_eq_true rfl) dX6_findMost_86 ⟨Nat.zero_le _, Nat.zero_le _⟩) (cut_all_M) hP hD hS hA (fun r1 u z1 H locs hz1 hw hP hD hS => ?_)
            have hw := hw z1 hz1
            refine lv_istore (lv' := [(6, .int r1), (0, .ref (h 0)), (1, .int x1), (2, .int x2), (3, .int x3), (5, .int x5), (7, .int x7)]) hx hb dX6_findMost_89 hl (by decide) rfl (fun ls hl => ?_)
            refine lv_iload hx hb dX6_findMost_91 (lv_at hl 5 rfl) ?_
            refine lv_iload hx hb dX6_findMost_93 (lv_at hl 0 rfl) ?_
            refine lv_if_eq (tgt := 112) hx hb dX6_findMost_95 (by decide) (fun hc => ?_) (fun hc => ?_)
            · have hw := And.left hw hc
              exact B112 x1 x2 x3 r1 x7 x5 z1 _ _ _ hw hP hD hS (lv_sub hl [1, 2, 3, 4, 0, 6] rfl)
            · have hw := And.right hw hc
              refine lv_aload_n hx hb dX6_findMost_98 rfl (lv_at hl 1 rfl) ?_
              refine rg_M_X6_0_26 hC hK hP dX6_findMost_99 ?_
              refine lv_if_eq (tgt := 112) hx hb dX6_findMost_102 (by decide) (fun hc => ?_) (fun hc => ?_)
              · have hw := And.left hw hc
                exact B112 x1 x2 x3 r1 x7 x5 z1 _ _ _ hw hP hD hS (lv_sub hl [1, 2, 3, 4, 0, 6] rfl)
              · have hw := And.right hw hc
                refine lv_aload_n hx hb dX6_findMost_105 rfl (lv_at hl 1 rfl) ?_
                refine rg_M_X6_0_25 hC hK hP dX6_findMost_106 ?_
                refine lv_goto (tgt := 113) hx hb dX6_findMost_109 (by decide) ?_
                exact B113 x1 x2 x3 r1 x7 (w_i z1 25) x5 z1 _ _ _ hw hP hD hS (lv_sub hl [1, 2, 3, 4, 0, 6] rfl)
          intro x1 x2 x3 x5 x6 x7 z0 H locs ls hw hP hD hS hl
          have hw : wpX6_findMost_48 (wpX6_findMost_L25  post n25) (wpX6_findMost_L48 (wpX6_findMost_L25  post n25) post n48) post x1 x2 x3 x5 x6 x7 z0 := hw
          unfold wpX6_findMost_48 at hw
          refine lv_iload hx hb dX6_findMost_48 (lv_at hl 6 rfl) ?_
          refine lv_iload_n hx hb dX6_findMost_50 rfl (lv_at hl 1 rfl) ?_
          refine lv_icmp_ge (tgt := 122) hx hb dX6_findMost_51 (by decide) (fun hc => ?_) (fun hc => ?_)
          · have hw := And.left hw hc
            exact B122 x1 x2 x3 x5 x6 z0 _ _ _ hw hP hD hS (lv_sub hl [0, 1, 2, 3, 4, 5] rfl)
          · have hw := And.right hw hc
            refine lv_iload hx hb dX6_findMost_54 (lv_at hl 5 rfl) ?_
            refine lv_if_eq (tgt := 122) hx hb dX6_findMost_56 (by decide) (fun hc => ?_) (fun hc => ?_)
            · have hw := And.left hw hc
              exact B122 x1 x2 x3 x5 x6 z0 _ _ _ hw hP hD hS (lv_sub hl [0, 1, 2, 3, 4, 5] rfl)
            · have hw := And.right hw hc
              refine lv_aload_n hx hb dX6_findMost_59 rfl (lv_at hl 0 rfl) ?_
              refine lv_aload_n hx hb dX6_findMost_60 rfl (lv_at hl 0 rfl) ?_
              refine rg_M_X6_0_28 hC hK hP dX6_findMost_61 ?_
              refine lv_iload hx hb dX6_findMost_64 (lv_at hl 6 rfl) ?_
              refine rl_M_10 hC hK hP (And.left hw) dX6_findMost_66 ?_
              have hw := And.right hw
              refine lv_aload_n hx hb dX6_findMost_67 rfl (lv_at hl 0 rfl) ?_
              refine rg_M_X6_0_5 hC hK hP dX6_findMost_68 ?_
              refine lv_icmp_ne (tgt := 79) hx hb dX6_findMost_71 (by decide) (fun hc => ?_) (fun hc => ?_)
              · have hw := And.left hw hc
                refine lv_aload_n hx hb dX6_findMost_79 rfl (lv_at hl 0 rfl) ?_
                refine rg_M_X6_0_28 hC hK hP dX6_findMost_80 ?_
                refine lv_iload hx hb dX6_findMost_83 (lv_at hl 6 rfl) ?_
                refine rl_M_10 hC hK hP (And.left hw) dX6_findMost_85 ?_
                have hw := And.right hw
                exact B86 x1 x2 x3 x5 x7 ((w_a z0 28) x7.toNatClampNeg) z0 _ _ _ hw hP hD hS (lv_sub hl [0, 1, 2, 3, 4, 6] rfl)
              · have hw := And.right hw hc
                refine lv_bipush (v := (9 : Int32)) hx hb dX6_findMost_74 (by decide) ?_
                refine lv_goto (tgt := 86) hx hb dX6_findMost_76 (by decide) ?_
                exact B86 x1 x2 x3 x5 x7 (9 : Int32) z0 _ _ _ hw hP hD hS (lv_sub hl [0, 1, 2, 3, 4, 6] rfl)
      intro x1 x2 x3 x4 z0 H locs ls hw hP hD hS hl
      have hw : wpX6_findMost_25  (wpX6_findMost_L25  post n25) post x1 x2 x3 x4 z0 := hw
      unfold wpX6_findMost_25 at hw
      refine lv_iload hx hb dX6_findMost_25 (lv_at hl 4 rfl) ?_
      refine lv_if_eq (tgt := 194) hx hb dX6_findMost_27 (by decide) (fun hc => ?_) (fun hc => ?_)
      · have hw := And.left hw hc
        refine lv_iload_n hx hb dX6_findMost_194 rfl (lv_at hl 3 rfl) ?_
        exact hret _ _ _ _ _ _ hw hP hD hS dX6_findMost_195
      · have hw := And.right hw hc
        refine lv_aload_n hx hb dX6_findMost_30 rfl (lv_at hl 0 rfl) ?_
        refine xc_wv (S := wSt) (wsz := fun q => (wsM G h q)) (f := fun u => u) (xr_V hC (cX6_begin_c (h := h) hw) ⟨rfl, rfl⟩ bw_789 calX6_begin ⟨Nat.le_trans (Nat.le_of_ble_eq_true rfl) hF, Nat.le_trans (Nat.le_of_ble_eq_true rfl) hL⟩ (rest := []) (xpV hK (cut_all_M) hP hD rfl rfl) rfl hl rfl (Nat.le_of_ble_eq_true rfl) dX6_findMost_31 ⟨Nat.zero_le _, Nat.zero_le _⟩) (cut_all_M) hP hD hS hA (fun u z1 H locs hz1 hw hP hD hS => ?_)
        have hw := hw z1 hz1
        refine lv_aload_n hx hb dX6_findMost_34 rfl (lv_at hl 0 rfl) ?_
        refine lv_iload_n hx hb dX6_findMost_35 rfl (lv_at hl 2 rfl) ?_
        refine rp_M_X6_0_21 hC hK hP hD hS dX6_findMost_36 (fun z2 H locs hz1 hP hD hS => ?_)
        have hw := hw z2 hz1
        refine lv_iconst (v := (0 : Int32)) hx hb dX6_findMost_39 (by decide) ?_
        refine lv_istore (lv' := [(5, .int (0 : Int32)), (0, .ref (h 0)), (1, .int x1), (2, .int x2), (3, .int x3), (4, .int x4)]) hx hb dX6_findMost_40 hl (by decide) rfl (fun ls hl => ?_)
        refine lv_iconst (v := (1 : Int32)) hx hb dX6_findMost_42 (by decide) ?_
        refine lv_istore (lv' := [(6, .int (1 : Int32)), (5, .int (0 : Int32)), (0, .ref (h 0)), (1, .int x1), (2, .int x2), (3, .int x3), (4, .int x4)]) hx hb dX6_findMost_43 hl (by decide) rfl (fun ls hl => ?_)
        refine lv_iconst (v := (0 : Int32)) hx hb dX6_findMost_45 (by decide) ?_
        refine lv_istore (lv' := [(7, .int (0 : Int32)), (6, .int (1 : Int32)), (5, .int (0 : Int32)), (0, .ref (h 0)), (1, .int x1), (2, .int x2), (3, .int x3), (4, .int x4)]) hx hb dX6_findMost_46 hl (by decide) rfl (fun ls hl => ?_)
        obtain ⟨j48, hw⟩ := hw
        exact B48 j48 x1 x2 x3 (0 : Int32) (1 : Int32) (0 : Int32) z2 _ _ _ hw hP hD hS (lv_sub hl [3, 4, 5, 6, 2, 1, 0] rfl)
  have B2 : ∀ n2 : Nat, ∀ (x1 : Int32) (x2 : Int32) (x3 : Int32) (z0 : wSt) (H : Heap) (locs : List Loc) (ls : Array Slot), wpX6_findMost_L2  post n2 x1 x2 x3 z0 → va_P G.1 vwCl (wsM G h z0) H → va_D A (wsM G h z0) → va_S A s.heap H locs → lv_has ls 8 [(0, .ref (h 0)), (1, .int x1), (2, .int x2), (3, .int x3)] → W p l e R s m args below meth c H locs 0 0 Q (F0 m 2 ls []) := by
    intro n2
    induction n2 with
    | zero => intro x1 x2 x3 z0 H locs ls hw hP hD hS hl; exact False.elim hw
    | succ n2 I2 =>
      intro x1 x2 x3 z0 H locs ls hw hP hD hS hl
      have hw : wpX6_findMost_2  (wpX6_findMost_L2  post n2) post x1 x2 x3 z0 := hw
      unfold wpX6_findMost_2 at hw
      refine lv_iload_n hx hb dX6_findMost_2 rfl (lv_at hl 3 rfl) ?_
      refine lv_iload_n hx hb dX6_findMost_3 rfl (lv_at hl 1 rfl) ?_
      refine lv_icmp_ge (tgt := 20) hx hb dX6_findMost_4 (by decide) (fun hc => ?_) (fun hc => ?_)
      · have hw := And.left hw hc
        refine lv_iconst (v := (-1 : Int32)) hx hb dX6_findMost_20 (by decide) ?_
        refine lv_istore_n (lv' := [(3, .int (-1 : Int32)), (0, .ref (h 0)), (1, .int x1), (2, .int x2)]) hx hb dX6_findMost_21 rfl hl (by decide) rfl (fun ls hl => ?_)
        refine lv_iconst (v := (1 : Int32)) hx hb dX6_findMost_22 (by decide) ?_
        refine lv_istore (lv' := [(4, .int (1 : Int32)), (3, .int (-1 : Int32)), (0, .ref (h 0)), (1, .int x1), (2, .int x2)]) hx hb dX6_findMost_23 hl (by decide) rfl (fun ls hl => ?_)
        obtain ⟨j25, hw⟩ := hw
        exact B25 j25 x1 x2 (-1 : Int32) (1 : Int32) z0 _ _ _ hw hP hD hS (lv_sub hl [2, 3, 4, 1, 0] rfl)
      · have hw := And.right hw hc
        refine lv_aload_n hx hb dX6_findMost_7 rfl (lv_at hl 0 rfl) ?_
        refine rg_M_X6_0_28 hC hK hP dX6_findMost_8 ?_
        refine lv_iload_n hx hb dX6_findMost_11 rfl (lv_at hl 3 rfl) ?_
        refine lv_iconst (v := (0 : Int32)) hx hb dX6_findMost_12 (by decide) ?_
        refine rs_M_10 hC hK hP hD hS (And.left hw) dX6_findMost_13 (fun z1 H locs hz1 hP hD hS => ?_)
        have hw := And.right hw z1 hz1
        refine lv_iinc (v := (x3 + (1 : Int32))) (lv' := [(3, .int (x3 + (1 : Int32))), (0, .ref (h 0)), (1, .int x1), (2, .int x2)]) hx hb dX6_findMost_14 hl (k := 3) rfl rfl (by decide) rfl (fun ls hl => ?_)
        refine lv_goto (tgt := 2) hx hb dX6_findMost_17 (by decide) ?_
        exact I2 x1 x2 (x3 + (1 : Int32)) z1 _ _ _ hw hP hD hS (lv_sub hl [1, 2, 3, 0] rfl)
  unfold wpX6_findMost at hw
  refine lv_iconst (v := (0 : Int32)) hx hb dX6_findMost_0 (by decide) ?_
  refine lv_istore_n (lv' := [(3, .int (0 : Int32)), (0, .ref (h 0)), (1, .int x1), (2, .int x2)]) hx hb dX6_findMost_1 rfl hl (by decide) rfl (fun ls hl => ?_)
  obtain ⟨j2, hw⟩ := hw
  exact B2 j2 x1 x2 (0 : Int32) z0 _ _ _ hw hP hD hS (lv_sub hl [1, 2, 3, 0] rfl)
def wpX6_most (x1 : Int32) (z0 : wSt) (post : Int32 → (wSt) → Prop) : Prop := (wpX6_in (x1.toInt64) (1 : Int64) (5 : Int64) (fun r1 => ((r1 = 0 → (post (-1 : Int32) z0)) ∧ (¬ r1 = 0 → (wpX6_findMost x1 (w_i z0 6) z0 (fun r2 u => ∀ z1 : wSt, z1 = u → (post r2 z1)))))))
set_option maxHeartbeats 4000000 in
set_option maxRecDepth 100000 in
theorem cX6_most_c {l : Launch} {G : wG} {h : Nat → Nat} {sz : Nat} {x1 : Int32} {post : Int32 → (wSt) → Prop} {z0 : wSt}  (hw : wpX6_most x1 z0 post) : Met l yX6_most (.code yX6_most cX6_most 2 (some .int) :: BIG) { frames := 3, cells := 0, slots := 0, locals := 72 } (xPw G [.ref (h 0), .int x1] (wsM G h z0) sz) (xQi G post (fun q => (wsM G h q)) (va_A (wsM G h z0) sz)) 0 0 (va_A (wsM G h z0) sz) := by
  refine xm_wi (by decide) (Nat.le_of_ble_eq_true rfl) (fun p e s m args below meth c A ls R Q hC hK hA hP hD hS hl hF hL hret => ?_)
  have hx := hC.1
  have hb := hC.2.1
  have hl : lv_has ls 2 [(0, .ref (h 0)), (1, .int x1)] := hl
  unfold wpX6_most at hw
  refine lv_iload_n hx hb dX6_most_0 rfl (lv_at hl 1 rfl) ?_
  refine lv_i2l (v := (x1.toInt64)) hx hb dX6_most_1 rfl ?_
  refine lv_lconst (v := (1 : Int64)) hx hb dX6_most_2 (by decide) ?_
  refine lv_ldc2 (v := (5 : Int64)) hx hb hC.2.2.2.1 (hC.2.2.2.2 _ bw_833) dX6_most_3 ?_
  refine vp_callSi (xro (xr_S hC (cX6_in_c hw) ⟨rfl, rfl⟩ bw_700 calX6_in ⟨Nat.le_trans (Nat.le_of_ble_eq_true rfl) hF, Nat.le_trans (Nat.le_of_ble_eq_true rfl) hL⟩ (rest := []) (xpS hK) rfl hl rfl (Nat.le_of_ble_eq_true rfl) dX6_most_6 ⟨Nat.zero_le _, Nat.zero_le _⟩)) (fun r1 hw => ?_)
  refine lv_if_eq (tgt := 24) hx hb dX6_most_9 (by decide) (fun hc => ?_) (fun hc => ?_)
  · have hw := And.left hw hc
    refine lv_iconst (v := (-1 : Int32)) hx hb dX6_most_24 (by decide) ?_
    exact hret _ _ _ _ _ _ hw hP hD hS dX6_most_25
  · have hw := And.right hw hc
    refine lv_aload_n hx hb dX6_most_12 rfl (lv_at hl 0 rfl) ?_
    refine lv_iload_n hx hb dX6_most_13 rfl (lv_at hl 1 rfl) ?_
    refine lv_aload_n hx hb dX6_most_14 rfl (lv_at hl 0 rfl) ?_
    refine rg_M_X6_0_6 hC hK hP dX6_most_15 ?_
    refine xc_wi (S := wSt) (wsz := fun q => (wsM G h q)) (f := fun u => u) (xr_V hC (cX6_findMost_c (h := h) hw) ⟨rfl, rfl⟩ bw_834 calX6_findMost ⟨Nat.le_trans (Nat.le_of_ble_eq_true rfl) hF, Nat.le_trans (Nat.le_of_ble_eq_true rfl) hL⟩ (rest := []) (xpV hK (cut_all_M) hP hD rfl rfl) rfl hl rfl (Nat.le_of_ble_eq_true rfl) dX6_most_18 ⟨Nat.zero_le _, Nat.zero_le _⟩) (cut_all_M) hP hD hS hA (fun r2 u z1 H locs hz1 hw hP hD hS => ?_)
    have hw := hw z1 hz1
    refine lv_goto (tgt := 25) hx hb dX6_most_21 (by decide) ?_
    exact hret _ _ _ _ _ _ hw hP hD hS dX6_most_25
def wpX6_row (x1 : Int32) (x2 : Int32) (z0 : wSt) (post : Int32 → (wSt) → Prop) : Prop := (wpX6_in (x1.toInt64) (1 : Int64) (5 : Int64) (fun r1 => ((r1 = 0 → (post (-1 : Int32) z0)) ∧ (¬ r1 = 0 → (wpX6_in (x2.toInt64) (0 : Int64) ((x1 - (1 : Int32)).toInt64) (fun r2 => ((¬ r2 = 0 → (wpX6_findMost x1 (w_i z0 6) z0 (fun r3 u => ∀ z1 : wSt, z1 = u → (vp_in x2 5 ∧ (post ((w_a z1 29) x2.toNatClampNeg) z1))))) ∧ (r2 = 0 → (post (-1 : Int32) z0)))))))))
set_option maxHeartbeats 4000000 in
set_option maxRecDepth 100000 in
theorem cX6_row_c {l : Launch} {G : wG} {h : Nat → Nat} {sz : Nat} {x1 : Int32} {x2 : Int32} {post : Int32 → (wSt) → Prop} {z0 : wSt}  (hw : wpX6_row x1 x2 z0 post) : Met l yX6_row (.code yX6_row cX6_row 3 (some .int) :: BIG) { frames := 3, cells := 0, slots := 0, locals := 72 } (xPw G [.ref (h 0), .int x1, .int x2] (wsM G h z0) sz) (xQi G post (fun q => (wsM G h q)) (va_A (wsM G h z0) sz)) 0 0 (va_A (wsM G h z0) sz) := by
  refine xm_wi (by decide) (Nat.le_of_ble_eq_true rfl) (fun p e s m args below meth c A ls R Q hC hK hA hP hD hS hl hF hL hret => ?_)
  have hx := hC.1
  have hb := hC.2.1
  have hl : lv_has ls 3 [(0, .ref (h 0)), (1, .int x1), (2, .int x2)] := hl
  unfold wpX6_row at hw
  refine lv_iload_n hx hb dX6_row_0 rfl (lv_at hl 1 rfl) ?_
  refine lv_i2l (v := (x1.toInt64)) hx hb dX6_row_1 rfl ?_
  refine lv_lconst (v := (1 : Int64)) hx hb dX6_row_2 (by decide) ?_
  refine lv_ldc2 (v := (5 : Int64)) hx hb hC.2.2.2.1 (hC.2.2.2.2 _ bw_833) dX6_row_3 ?_
  refine vp_callSi (xro (xr_S hC (cX6_in_c hw) ⟨rfl, rfl⟩ bw_700 calX6_in ⟨Nat.le_trans (Nat.le_of_ble_eq_true rfl) hF, Nat.le_trans (Nat.le_of_ble_eq_true rfl) hL⟩ (rest := []) (xpS hK) rfl hl rfl (Nat.le_of_ble_eq_true rfl) dX6_row_6 ⟨Nat.zero_le _, Nat.zero_le _⟩)) (fun r1 hw => ?_)
  refine lv_if_eq (tgt := 25) hx hb dX6_row_9 (by decide) (fun hc => ?_) (fun hc => ?_)
  · have hw := And.left hw hc
    refine lv_iconst (v := (-1 : Int32)) hx hb dX6_row_25 (by decide) ?_
    exact hret _ _ _ _ _ _ hw hP hD hS dX6_row_26
  · have hw := And.right hw hc
    refine lv_iload_n hx hb dX6_row_12 rfl (lv_at hl 2 rfl) ?_
    refine lv_i2l (v := (x2.toInt64)) hx hb dX6_row_13 rfl ?_
    refine lv_lconst (v := (0 : Int64)) hx hb dX6_row_14 (by decide) ?_
    refine lv_iload_n hx hb dX6_row_15 rfl (lv_at hl 1 rfl) ?_
    refine lv_iconst (v := (1 : Int32)) hx hb dX6_row_16 (by decide) ?_
    refine lv_isub hx hb dX6_row_17 ?_
    refine lv_i2l (v := ((x1 - (1 : Int32)).toInt64)) hx hb dX6_row_18 rfl ?_
    refine vp_callSi (xro (xr_S hC (cX6_in_c hw) ⟨rfl, rfl⟩ bw_700 calX6_in ⟨Nat.le_trans (Nat.le_of_ble_eq_true rfl) hF, Nat.le_trans (Nat.le_of_ble_eq_true rfl) hL⟩ (rest := []) (xpS hK) rfl hl rfl (Nat.le_of_ble_eq_true rfl) dX6_row_19 ⟨Nat.zero_le _, Nat.zero_le _⟩)) (fun r2 hw => ?_)
    refine lv_if_ne (tgt := 27) hx hb dX6_row_22 (by decide) (fun hc => ?_) (fun hc => ?_)
    · have hw := And.left hw hc
      refine lv_aload_n hx hb dX6_row_27 rfl (lv_at hl 0 rfl) ?_
      refine lv_iload_n hx hb dX6_row_28 rfl (lv_at hl 1 rfl) ?_
      refine lv_aload_n hx hb dX6_row_29 rfl (lv_at hl 0 rfl) ?_
      refine rg_M_X6_0_6 hC hK hP dX6_row_30 ?_
      refine xc_wi (S := wSt) (wsz := fun q => (wsM G h q)) (f := fun u => u) (xr_V hC (cX6_findMost_c (h := h) hw) ⟨rfl, rfl⟩ bw_834 calX6_findMost ⟨Nat.le_trans (Nat.le_of_ble_eq_true rfl) hF, Nat.le_trans (Nat.le_of_ble_eq_true rfl) hL⟩ (rest := []) (xpV hK (cut_all_M) hP hD rfl rfl) rfl hl rfl (Nat.le_of_ble_eq_true rfl) dX6_row_33 ⟨Nat.zero_le _, Nat.zero_le _⟩) (cut_all_M) hP hD hS hA (fun r3 u z1 H locs hz1 hw hP hD hS => ?_)
      have hw := hw z1 hz1
      refine lv_pop hx hb dX6_row_36 rfl ?_
      refine lv_aload_n hx hb dX6_row_37 rfl (lv_at hl 0 rfl) ?_
      refine rg_M_X6_0_29 hC hK hP dX6_row_38 ?_
      refine lv_iload_n hx hb dX6_row_41 rfl (lv_at hl 2 rfl) ?_
      refine rl_M_11 hC hK hP (And.left hw) dX6_row_42 ?_
      have hw := And.right hw
      exact hret _ _ _ _ _ _ hw hP hD hS dX6_row_43
    · have hw := And.right hw hc
      refine lv_iconst (v := (-1 : Int32)) hx hb dX6_row_25 (by decide) ?_
      exact hret _ _ _ _ _ _ hw hP hD hS dX6_row_26
def wpX6_fewest_22 (k22 : Int32 → Int32 → (wSt) → Prop) (post : Int32 → (wSt) → Prop) (x1 : Int32) (x2 : Int32) (z0 : wSt) : Prop := (((5 : Int32) < x2 → (post (-4 : Int32) z0)) ∧ (¬ (5 : Int32) < x2 → (wpX6_findMost x2 (w_i z0 6) z0 (fun r1 u => ∀ z1 : wSt, z1 = u → ((r1 < x1 → (k22 x1 (x2 + (1 : Int32)) z1)) ∧ (¬ r1 < x1 → (post x2 z1)))))))
def wpX6_fewest_L22  (post : Int32 → (wSt) → Prop) : Nat → Int32 → Int32 → (wSt) → Prop
  | 0 => fun _ _ _ => False
  | n + 1 => fun x1 x2 z0 => wpX6_fewest_22  (wpX6_fewest_L22  post n) post x1 x2 z0
def wpX6_fewest (x1 : Int32) (z0 : wSt) (post : Int32 → (wSt) → Prop) : Prop := (wpX6_in (x1.toInt64) (0 : Int64) (99 : Int64) (fun r1 => ((¬ r1 = 0 → ((¬ x1 = 0 → (∃ n, wpX6_fewest_L22  post n x1 (1 : Int32) z0)) ∧ (x1 = 0 → (post (0 : Int32) z0)))) ∧ (r1 = 0 → (post (-1 : Int32) z0)))))
set_option maxHeartbeats 4000000 in
set_option maxRecDepth 100000 in
theorem cX6_fewest_c {l : Launch} {G : wG} {h : Nat → Nat} {sz : Nat} {x1 : Int32} {post : Int32 → (wSt) → Prop} {z0 : wSt}  (hw : wpX6_fewest x1 z0 post) : Met l yX6_fewest (.code yX6_fewest cX6_fewest 3 (some .int) :: BIG) { frames := 3, cells := 0, slots := 0, locals := 72 } (xPw G [.ref (h 0), .int x1] (wsM G h z0) sz) (xQi G post (fun q => (wsM G h q)) (va_A (wsM G h z0) sz)) 0 0 (va_A (wsM G h z0) sz) := by
  refine xm_wi (by decide) (Nat.le_of_ble_eq_true rfl) (fun p e s m args below meth c A ls R Q hC hK hA hP hD hS hl hF hL hret => ?_)
  have hx := hC.1
  have hb := hC.2.1
  have hl : lv_has ls 3 [(0, .ref (h 0)), (1, .int x1)] := hl
  have B22 : ∀ n22 : Nat, ∀ (x1 : Int32) (x2 : Int32) (z0 : wSt) (H : Heap) (locs : List Loc) (ls : Array Slot), wpX6_fewest_L22  post n22 x1 x2 z0 → va_P G.1 vwCl (wsM G h z0) H → va_D A (wsM G h z0) → va_S A s.heap H locs → lv_has ls 3 [(0, .ref (h 0)), (1, .int x1), (2, .int x2)] → W p l e R s m args below meth c H locs 0 0 Q (F0 m 22 ls []) := by
    intro n22
    induction n22 with
    | zero => intro x1 x2 z0 H locs ls hw hP hD hS hl; exact False.elim hw
    | succ n22 I22 =>
      intro x1 x2 z0 H locs ls hw hP hD hS hl
      have hw : wpX6_fewest_22  (wpX6_fewest_L22  post n22) post x1 x2 z0 := hw
      unfold wpX6_fewest_22 at hw
      refine lv_iload_n hx hb dX6_fewest_22 rfl (lv_at hl 2 rfl) ?_
      refine lv_iconst (v := (5 : Int32)) hx hb dX6_fewest_23 (by decide) ?_
      refine lv_icmp_gt (tgt := 48) hx hb dX6_fewest_24 (by decide) (fun hc => ?_) (fun hc => ?_)
      · have hw := And.left hw hc
        refine lv_bipush (v := (-4 : Int32)) hx hb dX6_fewest_48 (by decide) ?_
        exact hret _ _ _ _ _ _ hw hP hD hS dX6_fewest_50
      · have hw := And.right hw hc
        refine lv_aload_n hx hb dX6_fewest_27 rfl (lv_at hl 0 rfl) ?_
        refine lv_iload_n hx hb dX6_fewest_28 rfl (lv_at hl 2 rfl) ?_
        refine lv_aload_n hx hb dX6_fewest_29 rfl (lv_at hl 0 rfl) ?_
        refine rg_M_X6_0_6 hC hK hP dX6_fewest_30 ?_
        refine xc_wi (S := wSt) (wsz := fun q => (wsM G h q)) (f := fun u => u) (xr_V hC (cX6_findMost_c (h := h) hw) ⟨rfl, rfl⟩ bw_834 calX6_findMost ⟨Nat.le_trans (Nat.le_of_ble_eq_true rfl) hF, Nat.le_trans (Nat.le_of_ble_eq_true rfl) hL⟩ (rest := []) (xpV hK (cut_all_M) hP hD rfl rfl) rfl hl rfl (Nat.le_of_ble_eq_true rfl) dX6_fewest_33 ⟨Nat.zero_le _, Nat.zero_le _⟩) (cut_all_M) hP hD hS hA (fun r1 u z1 H locs hz1 hw hP hD hS => ?_)
        have hw := hw z1 hz1
        refine lv_iload_n hx hb dX6_fewest_36 rfl (lv_at hl 1 rfl) ?_
        refine lv_icmp_lt (tgt := 42) hx hb dX6_fewest_37 (by decide) (fun hc => ?_) (fun hc => ?_)
        · have hw := And.left hw hc
          refine lv_iinc (v := (x2 + (1 : Int32))) (lv' := [(2, .int (x2 + (1 : Int32))), (0, .ref (h 0)), (1, .int x1)]) hx hb dX6_fewest_42 hl (k := 2) rfl rfl (by decide) rfl (fun ls hl => ?_)
          refine lv_goto (tgt := 22) hx hb dX6_fewest_45 (by decide) ?_
          exact I22 x1 (x2 + (1 : Int32)) z1 _ _ _ hw hP hD hS (lv_sub hl [1, 2, 0] rfl)
        · have hw := And.right hw hc
          refine lv_iload_n hx hb dX6_fewest_40 rfl (lv_at hl 2 rfl) ?_
          exact hret _ _ _ _ _ _ hw hP hD hS dX6_fewest_41
  unfold wpX6_fewest at hw
  refine lv_iload_n hx hb dX6_fewest_0 rfl (lv_at hl 1 rfl) ?_
  refine lv_i2l (v := (x1.toInt64)) hx hb dX6_fewest_1 rfl ?_
  refine lv_lconst (v := (0 : Int64)) hx hb dX6_fewest_2 (by decide) ?_
  refine lv_ldc2 (v := (99 : Int64)) hx hb hC.2.2.2.1 (hC.2.2.2.2 _ bw_850) dX6_fewest_3 ?_
  refine vp_callSi (xro (xr_S hC (cX6_in_c hw) ⟨rfl, rfl⟩ bw_700 calX6_in ⟨Nat.le_trans (Nat.le_of_ble_eq_true rfl) hF, Nat.le_trans (Nat.le_of_ble_eq_true rfl) hL⟩ (rest := []) (xpS hK) rfl hl rfl (Nat.le_of_ble_eq_true rfl) dX6_fewest_6 ⟨Nat.zero_le _, Nat.zero_le _⟩)) (fun r1 hw => ?_)
  refine lv_if_ne (tgt := 14) hx hb dX6_fewest_9 (by decide) (fun hc => ?_) (fun hc => ?_)
  · have hw := And.left hw hc
    refine lv_iload_n hx hb dX6_fewest_14 rfl (lv_at hl 1 rfl) ?_
    refine lv_if_ne (tgt := 20) hx hb dX6_fewest_15 (by decide) (fun hc => ?_) (fun hc => ?_)
    · have hw := And.left hw hc
      refine lv_iconst (v := (1 : Int32)) hx hb dX6_fewest_20 (by decide) ?_
      refine lv_istore_n (lv' := [(2, .int (1 : Int32)), (0, .ref (h 0)), (1, .int x1)]) hx hb dX6_fewest_21 rfl hl (by decide) rfl (fun ls hl => ?_)
      obtain ⟨j22, hw⟩ := hw
      exact B22 j22 x1 (1 : Int32) z0 _ _ _ hw hP hD hS (lv_sub hl [1, 2, 0] rfl)
    · have hw := And.right hw hc
      refine lv_iconst (v := (0 : Int32)) hx hb dX6_fewest_18 (by decide) ?_
      exact hret _ _ _ _ _ _ hw hP hD hS dX6_fewest_19
  · have hw := And.right hw hc
    refine lv_iconst (v := (-1 : Int32)) hx hb dX6_fewest_12 (by decide) ?_
    exact hret _ _ _ _ _ _ hw hP hD hS dX6_fewest_13
def wpX6_peace_127 (k15 : Int32 → Int32 → Int32 → (wSt) → Prop) (post : Int32 → (wSt) → Prop) (x1 : Int32) (x2 : Int32) (x3 : Int32) (z0 : wSt) : Prop := (k15 x1 x2 (x3 + (1 : Int32)) z0)
def wpX6_peace_126 (k15 : Int32 → Int32 → Int32 → (wSt) → Prop) (post : Int32 → (wSt) → Prop) (x2 : Int32) (x3 : Int32) (t0 : Int32) (z0 : wSt) : Prop := (wpX6_peace_127 k15 post t0 x2 x3 z0)
def wpX6_peace_113 (k15 : Int32 → Int32 → Int32 → (wSt) → Prop) (post : Int32 → (wSt) → Prop) (x1 : Int32) (x3 : Int32) (x6 : Int32) (t0 : Int32) (z0 : wSt) : Prop := ((x6 ≤ x1 → (wpX6_peace_126 k15 post t0 x3 x1 z0)) ∧ (¬ x6 ≤ x1 → (wpX6_peace_126 k15 post t0 x3 x6 z0)))
def wpX6_peace_15 (k15 : Int32 → Int32 → Int32 → (wSt) → Prop) (post : Int32 → (wSt) → Prop) (x1 : Int32) (x2 : Int32) (x3 : Int32) (z0 : wSt) : Prop := ((((w_i z0 5) * (w_i z0 5)) ≤ x3 → (post x2 z0)) ∧ (¬ ((w_i z0 5) * (w_i z0 5)) ≤ x3 → (¬ (w_i z0 5) = 0 ∧ (¬ (w_i z0 5) = 0 ∧ (((x3 - x3 / (w_i z0 5) * (w_i z0 5)) ≤ (x3 / (w_i z0 5)) → (wpX6_peace_127 k15 post x1 x2 x3 z0)) ∧ (¬ (x3 - x3 / (w_i z0 5) * (w_i z0 5)) ≤ (x3 / (w_i z0 5)) → (vp_in (x3 / (w_i z0 5)) 6 ∧ (wpX6_has ((w_a z0 3) (x3 / (w_i z0 5)).toNatClampNeg) (x3 - x3 / (w_i z0 5) * (w_i z0 5)) (fun r1 => ((r1 = 0 → (wpX6_peace_127 k15 post x1 x2 x3 z0)) ∧ (¬ r1 = 0 → (wpX6_setQuarrel (x3 / (w_i z0 5)) (x3 - x3 / (w_i z0 5) * (w_i z0 5)) (0 : Int32) z0 (fun u => ∀ z1 : wSt, z1 = u → (wpX6_findMost (4 : Int32) (w_i z1 6) z1 (fun r2 u => ∀ z2 : wSt, z2 = u → (wpX6_setQuarrel (x3 / (w_i z0 5)) (x3 - x3 / (w_i z0 5) * (w_i z0 5)) (1 : Int32) z2 (fun u => ∀ z3 : wSt, z3 = u → ((r2 ≤ x1 → (wpX6_peace_113 k15 post x1 x3 r2 x2 z3)) ∧ (¬ r2 ≤ x1 → (wpX6_peace_113 k15 post x1 x3 r2 (((10 : Int32) * (x3 / (w_i z0 5))) + (x3 - x3 / (w_i z0 5) * (w_i z0 5))) z3))))))))))))))))))))
def wpX6_peace_L15  (post : Int32 → (wSt) → Prop) : Nat → Int32 → Int32 → Int32 → (wSt) → Prop
  | 0 => fun _ _ _ _ => False
  | n + 1 => fun x1 x2 x3 z0 => wpX6_peace_15  (wpX6_peace_L15  post n) post x1 x2 x3 z0
def wpX6_peace (z0 : wSt) (post : Int32 → (wSt) → Prop) : Prop := (wpX6_findMost (4 : Int32) (w_i z0 6) z0 (fun r1 u => ∀ z1 : wSt, z1 = u → (∃ n, wpX6_peace_L15  post n r1 (-4 : Int32) (0 : Int32) z1)))
set_option maxHeartbeats 4000000 in
set_option maxRecDepth 100000 in
theorem cX6_peace_c {l : Launch} {G : wG} {h : Nat → Nat} {sz : Nat}  {post : Int32 → (wSt) → Prop} {z0 : wSt}  (hw : wpX6_peace z0 post) : Met l yX6_peace (.code yX6_peace cX6_peace 7 (some .int) :: BIG) { frames := 3, cells := 0, slots := 0, locals := 72 } (xPw G [.ref (h 0)] (wsM G h z0) sz) (xQi G post (fun q => (wsM G h q)) (va_A (wsM G h z0) sz)) 0 0 (va_A (wsM G h z0) sz) := by
  refine xm_wi (by decide) (Nat.le_of_ble_eq_true rfl) (fun p e s m args below meth c A ls R Q hC hK hA hP hD hS hl hF hL hret => ?_)
  have hx := hC.1
  have hb := hC.2.1
  have hl : lv_has ls 7 [(0, .ref (h 0))] := hl
  have B15 : ∀ n15 : Nat, ∀ (x1 : Int32) (x2 : Int32) (x3 : Int32) (z0 : wSt) (H : Heap) (locs : List Loc) (ls : Array Slot), wpX6_peace_L15  post n15 x1 x2 x3 z0 → va_P G.1 vwCl (wsM G h z0) H → va_D A (wsM G h z0) → va_S A s.heap H locs → lv_has ls 7 [(0, .ref (h 0)), (1, .int x1), (2, .int x2), (3, .int x3)] → W p l e R s m args below meth c H locs 0 0 Q (F0 m 15 ls []) := by
    intro n15
    induction n15 with
    | zero => intro x1 x2 x3 z0 H locs ls hw hP hD hS hl; exact False.elim hw
    | succ n15 I15 =>
      have B127 : ∀ (x1 : Int32) (x2 : Int32) (x3 : Int32) (z0 : wSt) (H : Heap) (locs : List Loc) (ls : Array Slot), wpX6_peace_127 (wpX6_peace_L15  post n15) post x1 x2 x3 z0 → va_P G.1 vwCl (wsM G h z0) H → va_D A (wsM G h z0) → va_S A s.heap H locs → lv_has ls 7 [(0, .ref (h 0)), (1, .int x1), (2, .int x2), (3, .int x3)] → W p l e R s m args below meth c H locs 0 0 Q (F0 m 127 ls []) := by
        intro x1 x2 x3 z0 H locs ls hw hP hD hS hl
        unfold wpX6_peace_127 at hw
        refine lv_iinc (v := (x3 + (1 : Int32))) (lv' := [(3, .int (x3 + (1 : Int32))), (0, .ref (h 0)), (1, .int x1), (2, .int x2)]) hx hb dX6_peace_127 hl (k := 3) rfl rfl (by decide) rfl (fun ls hl => ?_)
        refine lv_goto (tgt := 15) hx hb dX6_peace_130 (by decide) ?_
        exact I15 x1 x2 (x3 + (1 : Int32)) z0 _ _ _ hw hP hD hS (lv_sub hl [1, 2, 3, 0] rfl)
      have B126 : ∀ (x2 : Int32) (x3 : Int32) (t0 : Int32) (z0 : wSt) (H : Heap) (locs : List Loc) (ls : Array Slot), wpX6_peace_126 (wpX6_peace_L15  post n15) post x2 x3 t0 z0 → va_P G.1 vwCl (wsM G h z0) H → va_D A (wsM G h z0) → va_S A s.heap H locs → lv_has ls 7 [(0, .ref (h 0)), (2, .int x2), (3, .int x3)] → W p l e R s m args below meth c H locs 0 0 Q (F0 m 126 ls [.int t0]) := by
        intro x2 x3 t0 z0 H locs ls hw hP hD hS hl
        unfold wpX6_peace_126 at hw
        refine lv_istore_n (lv' := [(1, .int t0), (0, .ref (h 0)), (2, .int x2), (3, .int x3)]) hx hb dX6_peace_126 rfl hl (by decide) rfl (fun ls hl => ?_)
        exact B127 t0 x2 x3 z0 _ _ _ hw hP hD hS (lv_sub hl [1, 0, 2, 3] rfl)
      have B113 : ∀ (x1 : Int32) (x3 : Int32) (x6 : Int32) (t0 : Int32) (z0 : wSt) (H : Heap) (locs : List Loc) (ls : Array Slot), wpX6_peace_113 (wpX6_peace_L15  post n15) post x1 x3 x6 t0 z0 → va_P G.1 vwCl (wsM G h z0) H → va_D A (wsM G h z0) → va_S A s.heap H locs → lv_has ls 7 [(0, .ref (h 0)), (1, .int x1), (3, .int x3), (6, .int x6)] → W p l e R s m args below meth c H locs 0 0 Q (F0 m 113 ls [.int t0]) := by
        intro x1 x3 x6 t0 z0 H locs ls hw hP hD hS hl
        unfold wpX6_peace_113 at hw
        refine lv_istore_n (lv' := [(2, .int t0), (0, .ref (h 0)), (1, .int x1), (3, .int x3), (6, .int x6)]) hx hb dX6_peace_113 rfl hl (by decide) rfl (fun ls hl => ?_)
        refine lv_iload hx hb dX6_peace_114 (lv_at hl 4 rfl) ?_
        refine lv_iload_n hx hb dX6_peace_116 rfl (lv_at hl 2 rfl) ?_
        refine lv_icmp_le (tgt := 125) hx hb dX6_peace_117 (by decide) (fun hc => ?_) (fun hc => ?_)
        · have hw := And.left hw hc
          refine lv_iload_n hx hb dX6_peace_125 rfl (lv_at hl 2 rfl) ?_
          exact B126 t0 x3 x1 z0 _ _ _ hw hP hD hS (lv_sub hl [1, 0, 3] rfl)
        · have hw := And.right hw hc
          refine lv_iload hx hb dX6_peace_120 (lv_at hl 4 rfl) ?_
          refine lv_goto (tgt := 126) hx hb dX6_peace_122 (by decide) ?_
          exact B126 t0 x3 x6 z0 _ _ _ hw hP hD hS (lv_sub hl [1, 0, 3] rfl)
      intro x1 x2 x3 z0 H locs ls hw hP hD hS hl
      have hw : wpX6_peace_15  (wpX6_peace_L15  post n15) post x1 x2 x3 z0 := hw
      unfold wpX6_peace_15 at hw
      refine lv_iload_n hx hb dX6_peace_15 rfl (lv_at hl 3 rfl) ?_
      refine lv_aload_n hx hb dX6_peace_16 rfl (lv_at hl 0 rfl) ?_
      refine rg_M_X6_0_5 hC hK hP dX6_peace_17 ?_
      refine lv_aload_n hx hb dX6_peace_20 rfl (lv_at hl 0 rfl) ?_
      refine rg_M_X6_0_5 hC hK hP dX6_peace_21 ?_
      refine lv_imul hx hb dX6_peace_24 ?_
      refine lv_icmp_ge (tgt := 133) hx hb dX6_peace_25 (by decide) (fun hc => ?_) (fun hc => ?_)
      · have hw := And.left hw hc
        refine lv_iload_n hx hb dX6_peace_133 rfl (lv_at hl 2 rfl) ?_
        exact hret _ _ _ _ _ _ hw hP hD hS dX6_peace_134
      · have hw := And.right hw hc
        refine lv_iload_n hx hb dX6_peace_28 rfl (lv_at hl 3 rfl) ?_
        refine lv_aload_n hx hb dX6_peace_29 rfl (lv_at hl 0 rfl) ?_
        refine rg_M_X6_0_5 hC hK hP dX6_peace_30 ?_
        refine lv_idiv hx hb dX6_peace_33 (And.left hw) ?_
        have hw := And.right hw
        refine lv_istore (lv' := [(4, .int (x3 / (w_i z0 5))), (0, .ref (h 0)), (1, .int x1), (2, .int x2), (3, .int x3)]) hx hb dX6_peace_34 hl (by decide) rfl (fun ls hl => ?_)
        refine lv_iload_n hx hb dX6_peace_36 rfl (lv_at hl 4 rfl) ?_
        refine lv_aload_n hx hb dX6_peace_37 rfl (lv_at hl 1 rfl) ?_
        refine rg_M_X6_0_5 hC hK hP dX6_peace_38 ?_
        refine lv_irem hx hb dX6_peace_41 (And.left hw) ?_
        have hw := And.right hw
        refine lv_istore (lv' := [(5, .int (x3 - x3 / (w_i z0 5) * (w_i z0 5))), (4, .int (x3 / (w_i z0 5))), (0, .ref (h 0)), (1, .int x1), (2, .int x2), (3, .int x3)]) hx hb dX6_peace_42 hl (by decide) rfl (fun ls hl => ?_)
        refine lv_iload hx hb dX6_peace_44 (lv_at hl 1 rfl) ?_
        refine lv_iload hx hb dX6_peace_46 (lv_at hl 0 rfl) ?_
        refine lv_icmp_ge (tgt := 127) hx hb dX6_peace_48 (by decide) (fun hc => ?_) (fun hc => ?_)
        · have hw := And.left hw hc
          exact B127 x1 x2 x3 z0 _ _ _ hw hP hD hS (lv_sub hl [2, 3, 4, 5] rfl)
        · have hw := And.right hw hc
          refine lv_aload_n hx hb dX6_peace_51 rfl (lv_at hl 2 rfl) ?_
          refine rg_M_X6_0_3 hC hK hP dX6_peace_52 ?_
          refine lv_iload hx hb dX6_peace_55 (lv_at hl 1 rfl) ?_
          refine rl_M_4 hC hK hP (And.left hw) dX6_peace_57 ?_
          have hw := And.right hw
          refine lv_iload hx hb dX6_peace_58 (lv_at hl 0 rfl) ?_
          refine vp_callSi (xro (xr_S hC (cX6_has_c hw) ⟨rfl, rfl⟩ bw_797 calX6_has ⟨Nat.le_trans (Nat.le_of_ble_eq_true rfl) hF, Nat.le_trans (Nat.le_of_ble_eq_true rfl) hL⟩ (rest := []) (xpS hK) rfl hl rfl (Nat.le_of_ble_eq_true rfl) dX6_peace_60 ⟨Nat.zero_le _, Nat.zero_le _⟩)) (fun r1 hw => ?_)
          refine lv_if_eq (tgt := 127) hx hb dX6_peace_63 (by decide) (fun hc => ?_) (fun hc => ?_)
          · have hw := And.left hw hc
            exact B127 x1 x2 x3 z0 _ _ _ hw hP hD hS (lv_sub hl [2, 3, 4, 5] rfl)
          · have hw := And.right hw hc
            refine lv_aload_n hx hb dX6_peace_66 rfl (lv_at hl 2 rfl) ?_
            refine lv_iload hx hb dX6_peace_67 (lv_at hl 1 rfl) ?_
            refine lv_iload hx hb dX6_peace_69 (lv_at hl 0 rfl) ?_
            refine lv_iconst (v := (0 : Int32)) hx hb dX6_peace_71 (by decide) ?_
            refine xc_wv (S := wSt) (wsz := fun q => (wsM G h q)) (f := fun u => u) (xr_V hC (cX6_setQuarrel_c (h := h) hw) ⟨rfl, rfl⟩ bw_723 calX6_setQuarrel ⟨Nat.le_trans (Nat.le_of_ble_eq_true rfl) hF, Nat.le_trans (Nat.le_of_ble_eq_true rfl) hL⟩ (rest := []) (xpV hK (cut_all_M) hP hD rfl rfl) rfl hl rfl (Nat.le_of_ble_eq_true rfl) dX6_peace_72 ⟨Nat.zero_le _, Nat.zero_le _⟩) (cut_all_M) hP hD hS hA (fun u z1 H locs hz1 hw hP hD hS => ?_)
            have hw := hw z1 hz1
            refine lv_aload_n hx hb dX6_peace_75 rfl (lv_at hl 2 rfl) ?_
            refine lv_iconst (v := (4 : Int32)) hx hb dX6_peace_76 (by decide) ?_
            refine lv_aload_n hx hb dX6_peace_77 rfl (lv_at hl 2 rfl) ?_
            refine rg_M_X6_0_6 hC hK hP dX6_peace_78 ?_
            refine xc_wi (S := wSt) (wsz := fun q => (wsM G h q)) (f := fun u => u) (xr_V hC (cX6_findMost_c (h := h) hw) ⟨rfl, rfl⟩ bw_834 calX6_findMost ⟨Nat.le_trans (Nat.le_of_ble_eq_true rfl) hF, Nat.le_trans (Nat.le_of_ble_eq_true rfl) hL⟩ (rest := []) (xpV hK (cut_all_M) hP hD rfl rfl) rfl hl rfl (Nat.le_of_ble_eq_true rfl) dX6_peace_81 ⟨Nat.zero_le _, Nat.zero_le _⟩) (cut_all_M) hP hD hS hA (fun r2 u z2 H locs hz1 hw hP hD hS => ?_)
            have hw := hw z2 hz1
            refine lv_istore (lv' := [(6, .int r2), (5, .int (x3 - x3 / (w_i z0 5) * (w_i z0 5))), (4, .int (x3 / (w_i z0 5))), (0, .ref (h 0)), (1, .int x1), (2, .int x2), (3, .int x3)]) hx hb dX6_peace_84 hl (by decide) rfl (fun ls hl => ?_)
            refine lv_aload_n hx hb dX6_peace_86 rfl (lv_at hl 3 rfl) ?_
            refine lv_iload hx hb dX6_peace_87 (lv_at hl 2 rfl) ?_
            refine lv_iload hx hb dX6_peace_89 (lv_at hl 1 rfl) ?_
            refine lv_iconst (v := (1 : Int32)) hx hb dX6_peace_91 (by decide) ?_
            refine xc_wv (S := wSt) (wsz := fun q => (wsM G h q)) (f := fun u => u) (xr_V hC (cX6_setQuarrel_c (h := h) hw) ⟨rfl, rfl⟩ bw_723 calX6_setQuarrel ⟨Nat.le_trans (Nat.le_of_ble_eq_true rfl) hF, Nat.le_trans (Nat.le_of_ble_eq_true rfl) hL⟩ (rest := []) (xpV hK (cut_all_M) hP hD rfl rfl) rfl hl rfl (Nat.le_of_ble_eq_true rfl) dX6_peace_92 ⟨Nat.zero_le _, Nat.zero_le _⟩) (cut_all_M) hP hD hS hA (fun u z3 H locs hz1 hw hP hD hS => ?_)
            have hw := hw z3 hz1
            refine lv_iload hx hb dX6_peace_95 (lv_at hl 0 rfl) ?_
            refine lv_iload_n hx hb dX6_peace_97 rfl (lv_at hl 4 rfl) ?_
            refine lv_icmp_le (tgt := 112) hx hb dX6_peace_98 (by decide) (fun hc => ?_) (fun hc => ?_)
            · have hw := And.left hw hc
              refine lv_iload_n hx hb dX6_peace_112 rfl (lv_at hl 5 rfl) ?_
              exact B113 x1 x3 r2 x2 z3 _ _ _ hw hP hD hS (lv_sub hl [3, 4, 6, 0] rfl)
            · have hw := And.right hw hc
              refine lv_bipush (v := (10 : Int32)) hx hb dX6_peace_101 (by decide) ?_
              refine lv_iload hx hb dX6_peace_103 (lv_at hl 2 rfl) ?_
              refine lv_imul hx hb dX6_peace_105 ?_
              refine lv_iload hx hb dX6_peace_106 (lv_at hl 1 rfl) ?_
              refine lv_iadd hx hb dX6_peace_108 ?_
              refine lv_goto (tgt := 113) hx hb dX6_peace_109 (by decide) ?_
              exact B113 x1 x3 r2 (((10 : Int32) * (x3 / (w_i z0 5))) + (x3 - x3 / (w_i z0 5) * (w_i z0 5))) z3 _ _ _ hw hP hD hS (lv_sub hl [3, 4, 6, 0] rfl)
  unfold wpX6_peace at hw
  refine lv_aload_n hx hb dX6_peace_0 rfl (lv_at hl 0 rfl) ?_
  refine lv_iconst (v := (4 : Int32)) hx hb dX6_peace_1 (by decide) ?_
  refine lv_aload_n hx hb dX6_peace_2 rfl (lv_at hl 0 rfl) ?_
  refine rg_M_X6_0_6 hC hK hP dX6_peace_3 ?_
  refine xc_wi (S := wSt) (wsz := fun q => (wsM G h q)) (f := fun u => u) (xr_V hC (cX6_findMost_c (h := h) hw) ⟨rfl, rfl⟩ bw_834 calX6_findMost ⟨Nat.le_trans (Nat.le_of_ble_eq_true rfl) hF, Nat.le_trans (Nat.le_of_ble_eq_true rfl) hL⟩ (rest := []) (xpV hK (cut_all_M) hP hD rfl rfl) rfl hl rfl (Nat.le_of_ble_eq_true rfl) dX6_peace_6 ⟨Nat.zero_le _, Nat.zero_le _⟩) (cut_all_M) hP hD hS hA (fun r1 u z1 H locs hz1 hw hP hD hS => ?_)
  have hw := hw z1 hz1
  refine lv_istore_n (lv' := [(1, .int r1), (0, .ref (h 0))]) hx hb dX6_peace_9 rfl hl (by decide) rfl (fun ls hl => ?_)
  refine lv_bipush (v := (-4 : Int32)) hx hb dX6_peace_10 (by decide) ?_
  refine lv_istore_n (lv' := [(2, .int (-4 : Int32)), (1, .int r1), (0, .ref (h 0))]) hx hb dX6_peace_12 rfl hl (by decide) rfl (fun ls hl => ?_)
  refine lv_iconst (v := (0 : Int32)) hx hb dX6_peace_13 (by decide) ?_
  refine lv_istore_n (lv' := [(3, .int (0 : Int32)), (2, .int (-4 : Int32)), (1, .int r1), (0, .ref (h 0))]) hx hb dX6_peace_14 rfl hl (by decide) rfl (fun ls hl => ?_)
  obtain ⟨j15, hw⟩ := hw
  exact B15 j15 r1 (-4 : Int32) (0 : Int32) z1 _ _ _ hw hP hD hS (lv_sub hl [3, 2, 1, 0] rfl)
def wpX6_other (x1 : Int32) (z0 : wSt) (post : Int32 → (wSt) → Prop) : Prop := (wpX6_in (x1.toInt64) (1 : Int64) (5 : Int64) (fun r1 => ((r1 = 0 → (post (-1 : Int32) z0)) ∧ (¬ r1 = 0 → (wpX6_findMost x1 (-(w_i z0 6)) z0 (fun r2 u => ∀ z1 : wSt, z1 = u → (post r2 z1)))))))
set_option maxHeartbeats 4000000 in
set_option maxRecDepth 100000 in
theorem cX6_other_c {l : Launch} {G : wG} {h : Nat → Nat} {sz : Nat} {x1 : Int32} {post : Int32 → (wSt) → Prop} {z0 : wSt}  (hw : wpX6_other x1 z0 post) : Met l yX6_other (.code yX6_other cX6_other 2 (some .int) :: BIG) { frames := 3, cells := 0, slots := 0, locals := 72 } (xPw G [.ref (h 0), .int x1] (wsM G h z0) sz) (xQi G post (fun q => (wsM G h q)) (va_A (wsM G h z0) sz)) 0 0 (va_A (wsM G h z0) sz) := by
  refine xm_wi (by decide) (Nat.le_of_ble_eq_true rfl) (fun p e s m args below meth c A ls R Q hC hK hA hP hD hS hl hF hL hret => ?_)
  have hx := hC.1
  have hb := hC.2.1
  have hl : lv_has ls 2 [(0, .ref (h 0)), (1, .int x1)] := hl
  unfold wpX6_other at hw
  refine lv_iload_n hx hb dX6_other_0 rfl (lv_at hl 1 rfl) ?_
  refine lv_i2l (v := (x1.toInt64)) hx hb dX6_other_1 rfl ?_
  refine lv_lconst (v := (1 : Int64)) hx hb dX6_other_2 (by decide) ?_
  refine lv_ldc2 (v := (5 : Int64)) hx hb hC.2.2.2.1 (hC.2.2.2.2 _ bw_833) dX6_other_3 ?_
  refine vp_callSi (xro (xr_S hC (cX6_in_c hw) ⟨rfl, rfl⟩ bw_700 calX6_in ⟨Nat.le_trans (Nat.le_of_ble_eq_true rfl) hF, Nat.le_trans (Nat.le_of_ble_eq_true rfl) hL⟩ (rest := []) (xpS hK) rfl hl rfl (Nat.le_of_ble_eq_true rfl) dX6_other_6 ⟨Nat.zero_le _, Nat.zero_le _⟩)) (fun r1 hw => ?_)
  refine lv_if_eq (tgt := 25) hx hb dX6_other_9 (by decide) (fun hc => ?_) (fun hc => ?_)
  · have hw := And.left hw hc
    refine lv_iconst (v := (-1 : Int32)) hx hb dX6_other_25 (by decide) ?_
    exact hret _ _ _ _ _ _ hw hP hD hS dX6_other_26
  · have hw := And.right hw hc
    refine lv_aload_n hx hb dX6_other_12 rfl (lv_at hl 0 rfl) ?_
    refine lv_iload_n hx hb dX6_other_13 rfl (lv_at hl 1 rfl) ?_
    refine lv_aload_n hx hb dX6_other_14 rfl (lv_at hl 0 rfl) ?_
    refine rg_M_X6_0_6 hC hK hP dX6_other_15 ?_
    refine lv_ineg hx hb dX6_other_18 ?_
    refine xc_wi (S := wSt) (wsz := fun q => (wsM G h q)) (f := fun u => u) (xr_V hC (cX6_findMost_c (h := h) hw) ⟨rfl, rfl⟩ bw_834 calX6_findMost ⟨Nat.le_trans (Nat.le_of_ble_eq_true rfl) hF, Nat.le_trans (Nat.le_of_ble_eq_true rfl) hL⟩ (rest := []) (xpV hK (cut_all_M) hP hD rfl rfl) rfl hl rfl (Nat.le_of_ble_eq_true rfl) dX6_other_19 ⟨Nat.zero_le _, Nat.zero_le _⟩) (cut_all_M) hP hD hS hA (fun r2 u z1 H locs hz1 hw hP hD hS => ?_)
    have hw := hw z1 hz1
    refine lv_goto (tgt := 26) hx hb dX6_other_22 (by decide) ?_
    exact hret _ _ _ _ _ _ hw hP hD hS dX6_other_26
def wpX6_givesOf_46  (z0 : wSt) (post : Int32 → Prop) (t0 : Int32) (t1 : Int32) : Prop := (post (t1 + t0))
def wpX6_givesOf_27  (z0 : wSt) (post : Int32 → Prop) (x1 : Int32) (x2 : Int32) (t0 : Int32) : Prop := (vp_in x1 6 ∧ (wpX6_isSweet ((w_a z0 0) x1.toNatClampNeg) x2 (fun r1 => ((r1 = 0 → (wpX6_givesOf_46  z0 post (10 : Int32) t0)) ∧ (¬ r1 = 0 → (wpX6_givesOf_46  z0 post (0 : Int32) t0))))))
def wpX6_givesOf (x1 : Int32) (x2 : Int32) (z0 : wSt) (post : Int32 → Prop) : Prop := (vp_in x1 6 ∧ (wpX6_pailsOf ((w_a z0 0) x1.toNatClampNeg) x2 (fun r1 => (((w_i z0 7) ≤ r1 → (wpX6_givesOf_27  z0 post x1 x2 (w_i z0 7))) ∧ (¬ (w_i z0 7) ≤ r1 → (wpX6_givesOf_27  z0 post x1 x2 r1))))))
set_option maxHeartbeats 4000000 in
set_option maxRecDepth 100000 in
theorem cX6_givesOf_c {l : Launch} {G : wG} {h : Nat → Nat} {x1 : Int32} {x2 : Int32} {post : Int32 → Prop} {z0 : wSt}  (hw : wpX6_givesOf x1 x2 z0 post) : Met l yX6_givesOf (.code yX6_givesOf cX6_givesOf 4 (some .int) :: BIG) { frames := 1, cells := 0, slots := 0, locals := 22 } (xPr G [.ref (h 0), .int x1, .int x2] (wsM G h z0)) (vp_Si post) 0 0 (fun _ => False) := by
  refine xm_ri (by decide) (Nat.le_of_ble_eq_true rfl) (fun p e s m args below meth c ls R Q hC hK hP hl hF hL hret => ?_)
  have hx := hC.1
  have hb := hC.2.1
  have hl : lv_has ls 4 [(0, .ref (h 0)), (1, .int x1), (2, .int x2)] := hl
  have B46 : ∀ (t0 : Int32) (t1 : Int32) (ls : Array Slot), wpX6_givesOf_46  z0 post t0 t1 → lv_has ls 4 [] → W p l e R s m args below meth c s.heap [] 0 0 Q (F0 m 46 ls [.int t0, .int t1]) := by
    intro t0 t1 ls hw hl
    unfold wpX6_givesOf_46 at hw
    refine lv_iadd hx hb dX6_givesOf_46 ?_
    exact hret _ _ _ hw dX6_givesOf_47
  have B27 : ∀ (x1 : Int32) (x2 : Int32) (t0 : Int32) (ls : Array Slot), wpX6_givesOf_27  z0 post x1 x2 t0 → lv_has ls 4 [(0, .ref (h 0)), (1, .int x1), (2, .int x2)] → W p l e R s m args below meth c s.heap [] 0 0 Q (F0 m 27 ls [.int t0]) := by
    intro x1 x2 t0 ls hw hl
    unfold wpX6_givesOf_27 at hw
    refine lv_aload_n hx hb dX6_givesOf_27 rfl (lv_at hl 0 rfl) ?_
    refine rg_M_X6_0_0 hC hK hP dX6_givesOf_28 ?_
    refine lv_iload_n hx hb dX6_givesOf_31 rfl (lv_at hl 1 rfl) ?_
    refine rl_M_1 hC hK hP (And.left hw) dX6_givesOf_32 ?_
    have hw := And.right hw
    refine lv_iload_n hx hb dX6_givesOf_33 rfl (lv_at hl 2 rfl) ?_
    refine vp_callSi (xro (xr_S hC (cX6_isSweet_c hw) ⟨rfl, rfl⟩ bw_803 calX6_isSweet ⟨Nat.le_trans (Nat.le_of_ble_eq_true rfl) hF, Nat.le_trans (Nat.le_of_ble_eq_true rfl) hL⟩ (rest := [.int t0]) (xpS hK) rfl hl rfl (Nat.le_of_ble_eq_true rfl) dX6_givesOf_34 ⟨Nat.zero_le _, Nat.zero_le _⟩)) (fun r1 hw => ?_)
    refine lv_if_eq (tgt := 44) hx hb dX6_givesOf_37 (by decide) (fun hc => ?_) (fun hc => ?_)
    · have hw := And.left hw hc
      refine lv_bipush (v := (10 : Int32)) hx hb dX6_givesOf_44 (by decide) ?_
      exact B46 (10 : Int32) t0 _ hw (lv_sub hl [] rfl)
    · have hw := And.right hw hc
      refine lv_iconst (v := (0 : Int32)) hx hb dX6_givesOf_40 (by decide) ?_
      refine lv_goto (tgt := 46) hx hb dX6_givesOf_41 (by decide) ?_
      exact B46 (0 : Int32) t0 _ hw (lv_sub hl [] rfl)
  unfold wpX6_givesOf at hw
  refine lv_aload_n hx hb dX6_givesOf_0 rfl (lv_at hl 0 rfl) ?_
  refine rg_M_X6_0_0 hC hK hP dX6_givesOf_1 ?_
  refine lv_iload_n hx hb dX6_givesOf_4 rfl (lv_at hl 1 rfl) ?_
  refine rl_M_1 hC hK hP (And.left hw) dX6_givesOf_5 ?_
  have hw := And.right hw
  refine lv_iload_n hx hb dX6_givesOf_6 rfl (lv_at hl 2 rfl) ?_
  refine vp_callSi (xro (xr_S hC (cX6_pailsOf_c hw) ⟨rfl, rfl⟩ bw_800 calX6_pailsOf ⟨Nat.le_trans (Nat.le_of_ble_eq_true rfl) hF, Nat.le_trans (Nat.le_of_ble_eq_true rfl) hL⟩ (rest := []) (xpS hK) rfl hl rfl (Nat.le_of_ble_eq_true rfl) dX6_givesOf_7 ⟨Nat.zero_le _, Nat.zero_le _⟩)) (fun r1 hw => ?_)
  refine lv_istore_n (lv' := [(3, .int r1), (0, .ref (h 0)), (1, .int x1), (2, .int x2)]) hx hb dX6_givesOf_10 rfl hl (by decide) rfl (fun ls hl => ?_)
  refine lv_iload_n hx hb dX6_givesOf_11 rfl (lv_at hl 0 rfl) ?_
  refine lv_aload_n hx hb dX6_givesOf_12 rfl (lv_at hl 1 rfl) ?_
  refine rg_M_X6_0_7 hC hK hP dX6_givesOf_13 ?_
  refine lv_icmp_ge (tgt := 23) hx hb dX6_givesOf_16 (by decide) (fun hc => ?_) (fun hc => ?_)
  · have hw := And.left hw hc
    refine lv_aload_n hx hb dX6_givesOf_23 rfl (lv_at hl 1 rfl) ?_
    refine rg_M_X6_0_7 hC hK hP dX6_givesOf_24 ?_
    exact B27 x1 x2 (w_i z0 7) _ hw (lv_sub hl [1, 2, 3] rfl)
  · have hw := And.right hw hc
    refine lv_iload_n hx hb dX6_givesOf_19 rfl (lv_at hl 0 rfl) ?_
    refine lv_goto (tgt := 27) hx hb dX6_givesOf_20 (by decide) ?_
    exact B27 x1 x2 r1 _ hw (lv_sub hl [1, 2, 3] rfl)
def wpX6_gives (x1 : Int32) (x2 : Int32) (z0 : wSt) (post : Int32 → Prop) : Prop := (wpX6_isOne x1 z0 (fun r1 => ((r1 = 0 → (post (-1 : Int32))) ∧ (¬ r1 = 0 → (wpX6_isMood x2 (fun r2 => ((r2 = 0 → (post (-1 : Int32))) ∧ (¬ r2 = 0 → (wpX6_givesOf x1 x2 z0 (fun r3 => (post r3)))))))))))
set_option maxHeartbeats 4000000 in
set_option maxRecDepth 100000 in
theorem cX6_gives_c {l : Launch} {G : wG} {h : Nat → Nat} {x1 : Int32} {x2 : Int32} {post : Int32 → Prop} {z0 : wSt}  (hw : wpX6_gives x1 x2 z0 post) : Met l yX6_gives (.code yX6_gives cX6_gives 3 (some .int) :: BIG) { frames := 2, cells := 0, slots := 0, locals := 46 } (xPr G [.ref (h 0), .int x1, .int x2] (wsM G h z0)) (vp_Si post) 0 0 (fun _ => False) := by
  refine xm_ri (by decide) (Nat.le_of_ble_eq_true rfl) (fun p e s m args below meth c ls R Q hC hK hP hl hF hL hret => ?_)
  have hx := hC.1
  have hb := hC.2.1
  have hl : lv_has ls 3 [(0, .ref (h 0)), (1, .int x1), (2, .int x2)] := hl
  unfold wpX6_gives at hw
  refine lv_aload_n hx hb dX6_gives_0 rfl (lv_at hl 0 rfl) ?_
  refine lv_iload_n hx hb dX6_gives_1 rfl (lv_at hl 1 rfl) ?_
  refine vp_callSi (xro (xr_V hC (cX6_isOne_c (h := h) hw) ⟨rfl, rfl⟩ bw_713 calX6_isOne ⟨Nat.le_trans (Nat.le_of_ble_eq_true rfl) hF, Nat.le_trans (Nat.le_of_ble_eq_true rfl) hL⟩ (rest := []) (xpR hK hP rfl rfl) rfl hl rfl (Nat.le_of_ble_eq_true rfl) dX6_gives_2 ⟨Nat.zero_le _, Nat.zero_le _⟩)) (fun r1 hw => ?_)
  refine lv_if_eq (tgt := 24) hx hb dX6_gives_5 (by decide) (fun hc => ?_) (fun hc => ?_)
  · have hw := And.left hw hc
    refine lv_iconst (v := (-1 : Int32)) hx hb dX6_gives_24 (by decide) ?_
    exact hret _ _ _ hw dX6_gives_25
  · have hw := And.right hw hc
    refine lv_iload_n hx hb dX6_gives_8 rfl (lv_at hl 2 rfl) ?_
    refine vp_callSi (xro (xr_S hC (cX6_isMood_c hw) ⟨rfl, rfl⟩ bw_732 calX6_isMood ⟨Nat.le_trans (Nat.le_of_ble_eq_true rfl) hF, Nat.le_trans (Nat.le_of_ble_eq_true rfl) hL⟩ (rest := []) (xpS hK) rfl hl rfl (Nat.le_of_ble_eq_true rfl) dX6_gives_9 ⟨Nat.zero_le _, Nat.zero_le _⟩)) (fun r2 hw => ?_)
    refine lv_if_eq (tgt := 24) hx hb dX6_gives_12 (by decide) (fun hc => ?_) (fun hc => ?_)
    · have hw := And.left hw hc
      refine lv_iconst (v := (-1 : Int32)) hx hb dX6_gives_24 (by decide) ?_
      exact hret _ _ _ hw dX6_gives_25
    · have hw := And.right hw hc
      refine lv_aload_n hx hb dX6_gives_15 rfl (lv_at hl 0 rfl) ?_
      refine lv_iload_n hx hb dX6_gives_16 rfl (lv_at hl 1 rfl) ?_
      refine lv_iload_n hx hb dX6_gives_17 rfl (lv_at hl 2 rfl) ?_
      refine vp_callSi (xro (xr_V hC (cX6_givesOf_c (h := h) hw) ⟨rfl, rfl⟩ bw_863 calX6_givesOf ⟨Nat.le_trans (Nat.le_of_ble_eq_true rfl) hF, Nat.le_trans (Nat.le_of_ble_eq_true rfl) hL⟩ (rest := []) (xpR hK hP rfl rfl) rfl hl rfl (Nat.le_of_ble_eq_true rfl) dX6_gives_18 ⟨Nat.zero_le _, Nat.zero_le _⟩)) (fun r3 hw => ?_)
      refine lv_goto (tgt := 25) hx hb dX6_gives_21 (by decide) ?_
      exact hret _ _ _ hw dX6_gives_25
