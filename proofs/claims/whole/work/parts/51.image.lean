-- one well becomes another
def CP (k w : wP2) : Prop := (w_i (w_f k) 4 = w_i (w_f w) 4 ∧ ∀ q j : Nat, q < 4 → j < 6 → w_a (w_f k) q j = w_a (w_f w) q j) ∧ (∀ q : Nat, 3 ≤ q → q ≤ 11 → w_i (w_o k) q = w_i (w_o w) q) ∧ (∀ j : Nat, j < 6 → w_a (w_o k) 1 j = w_a (w_o w) 1 j) ∧ ∀ j : Nat, j < 24 → w_a (w_o k) 2 j = w_a (w_o w) 2 j
def TC (t t' : wSt) : Prop := (w_i t' 5 = w_i t 5 ∧ w_i t' 6 = w_i t 6 ∧ w_i t' 7 = w_i t 7 ∧ w_i t' 8 = w_i t 8 ∧ w_i t' 9 = w_i t 9 ∧ w_i t' 10 = w_i t 10 ∧ w_i t' 11 = w_i t 11 ∧ w_i t' 12 = w_i t 12 ∧ w_i t' 14 = w_i t 14 ∧ w_i t' 15 = w_i t 15) ∧ (∀ q j : Nat, q < 5 → j < 6 → w_a t' q j = w_a t q j) ∧ ∀ j : Nat, j < 24 → w_a t' 13 j = w_a t 13 j
theorem WR.cpy {k w : wP2} {t t' : wSt} (h : WR w t) (c : CP k w) (e : TC t t') : WR k t' := by
  obtain ⟨⟨hFK, h4, heq, hsym, hout⟩, ⟨hA1, hA2⟩, ⟨o4, o5, o6, o7, o8, o9, o10, o3, o11⟩, hRG, hRP⟩ := h
  obtain ⟨⟨c4, cF⟩, ci, cw, cp⟩ := c
  obtain ⟨⟨e5, e6, e7, e8, e9, e10, e11, e12, e14, e15⟩, ea, e13⟩ := e
  have h6 : 0 ≤ (w_i t 5).toInt ∧ (w_i t 5).toInt ≤ 6 := by rw [← h4]; exact hFK.1
  refine ⟨⟨⟨?_, fun i hi => ?_⟩, ?_, fun i hi => ?_, fun i j hi hj => ?_, fun i j hi hj => ?_⟩, ⟨fun i hi => ?_, fun i hi => ?_⟩, ⟨?_, ?_, ?_, ?_, ?_, ?_, ?_, ?_, ?_⟩, ?_, fun i hi => ?_⟩
  · rw [c4]; exact hFK.1
  · rw [c4] at hi
    have i6 : i < 6 := by have := hFK.1; omega
    rw [cF 0 i (by omega) i6, cF 1 i (by omega) i6, cF 2 i (by omega) i6]
    exact hFK.2 i hi
  · rw [c4, h4, e5]
  · rw [e5] at hi
    have i6 : i < 6 := by omega
    rw [cF 0 i (by omega) i6, cF 1 i (by omega) i6, cF 2 i (by omega) i6, cF 3 i (by omega) i6, ea 0 i (by omega) i6, ea 1 i (by omega) i6, ea 2 i (by omega) i6, ea 3 i (by omega) i6]
    exact heq i hi
  · rw [e5] at hi hj
    rw [ea 3 i (by omega) (by omega), ea 3 j (by omega) (by omega)]
    exact hsym i j hi hj
  · rw [e5] at hi hj
    rw [ea 3 i (by omega) (by omega)]
    exact hout i j hi hj
  · rw [cw i hi, e5, ea 4 i (by omega) hi, e11]
    exact hA1 i hi
  · rw [e5] at hi
    rw [ea 4 i (by omega) (by omega), e11]
    exact hA2 i hi
  · rw [ci 4 (by omega) (by omega), o4, e6]
  · rw [ci 5 (by omega) (by omega), o5, e7]
  · rw [ci 6 (by omega) (by omega), o6, e8]
  · rw [ci 7 (by omega) (by omega), o7, e9]
  · rw [ci 8 (by omega) (by omega), o8, e10]
  · rw [ci 9 (by omega) (by omega), o9, e11]
  · rw [ci 10 (by omega) (by omega), o10, e12]
  · rw [ci 3 (by omega) (by omega), o3, e14]
  · rw [ci 11 (by omega) (by omega), o11, e15]
  · unfold RG at *
    rw [e5, e6, e7, e8, e11, e12, e14, e15]
    exact hRG
  · rw [e14] at hi
    have := hRG.2.2.2.2.2.1
    rw [cp i (by omega), e13 i (by omega), e5]
    exact hRP i hi
-- the class' folk become others
theorem q_become0L {b : wSt} {post : wSt × wSt → Prop} : ∀ (k i : Nat) (a : wSt), i + k = 6 → (∀ q j : Nat, q < 4 → j < i → w_a a q j = w_a b q j) → (∀ a' : wSt, w_i a' 4 = w_i b 4 → (∀ q j : Nat, q < 4 → j < 6 → w_a a' q j = w_a b q j) → post (a', b)) → ∃ f, wpX0_become_L2 post f (nI i) (a, b) := by
  intro k
  induction k with
  | zero =>
    intro i a hi ha h
    refine ⟨1, ?_⟩
    show wpX0_become_2 _ post _ _
    unfold wpX0_become_2
    rw [t_le, tn6, nI_toInt (by omega)]
    refine ⟨fun _ => ?_, fun q => by exfalso; omega⟩
    rintro z1 rfl
    exact h _ rfl (fun q j hq hj => ha q j hq (by omega))
  | succ k ih =>
    intro i a hi ha h
    have ei : (nI i).toInt = (i : Int) := nI_toInt (by omega)
    have hin : vp_in (nI i) 6 := t_in (by omega)
    obtain ⟨f, hf⟩ := ih (i + 1) (w_sa (w_sa (w_sa (w_sa a 0 (upd (w_a a 0) i (w_a b 0 i))) 1 (upd (w_a a 1) i (w_a b 1 i))) 2 (upd (w_a a 2) i (w_a b 2 i))) 3 (upd (w_a a 3) i (w_a b 3 i))) (by omega) (fun q j hq hj => by
      have e : ∀ q : Nat, q < 4 → w_a (w_sa (w_sa (w_sa (w_sa a 0 (upd (w_a a 0) i (w_a b 0 i))) 1 (upd (w_a a 1) i (w_a b 1 i))) 2 (upd (w_a a 2) i (w_a b 2 i))) 3 (upd (w_a a 3) i (w_a b 3 i))) q j = if j = i then w_a b q i else w_a a q j := fun q hq => by
        have : q = 0 ∨ q = 1 ∨ q = 2 ∨ q = 3 := by omega
        rcases this with rfl | rfl | rfl | rfl <;> rfl
      rw [e q hq]
      by_cases c : j = i
      · rw [if_pos c, c]
      · rw [if_neg c]; exact ha q j hq (by omega)) h
    refine ⟨f + 1, ?_⟩
    show wpX0_become_2 _ post _ _
    unfold wpX0_become_2
    rw [t_le, tn6, ei, t_cl ei]
    refine ⟨fun q => by exfalso; omega, fun _ => ⟨hin, hin, ?_⟩⟩
    rintro z1 rfl
    refine ⟨hin, hin, ?_⟩
    rintro z2 rfl
    refine ⟨hin, hin, ?_⟩
    rintro z3 rfl
    refine ⟨hin, hin, ?_⟩
    rintro z4 rfl
    rw [nI_1]
    exact hf
theorem q_become0 {a b : wSt} {post : wSt × wSt → Prop} (h : ∀ a' : wSt, w_i a' 4 = w_i b 4 → (∀ q j : Nat, q < 4 → j < 6 → w_a a' q j = w_a b q j) → post (a', b)) : wpX0_become (a, b) post :=
  q_become0L 6 0 a (by omega) (fun q j _ hj => by omega) h
theorem cpy_at {f g : Nat → Int32} {n j : Nat} (hj : j < n) : va_cpy f g 0 0 n j = f j := by
  unfold va_cpy
  rw [if_pos ⟨by omega, by omega⟩]
  congr 1; omega
theorem q_become4 {k w : wP2} {post : wP2 × wP2 → Prop} (h : ∀ k', CP k' w → post (k', w)) : wpX4_become (k, w) post := by
  have n0 : (0 : Int32).toNatClampNeg = 0 := by decide
  have n6 : (6 : Int32).toNatClampNeg = 6 := by decide
  have n24 : (24 : Int32).toNatClampNeg = 24 := by decide
  unfold wpX4_become
  refine q_become0 (fun a' h4 ha => ?_)
  rintro z1 rfl
  obtain ⟨K, eK⟩ : ∃ K : wP2, K = w_sf k a' := ⟨_, rfl⟩
  have eW : w_sf w (w_f w) = w := rfl
  simp only [eW, ← eK]
  refine ⟨by decide, by decide, by decide, by decide, by decide, ?_⟩
  rintro z2 rfl
  simp only []
  refine ⟨by decide, by decide, by decide, by decide, by decide, ?_⟩
  rintro z3 rfl
  simp only [g_oo, w_so_so]
  rintro z4 rfl
  simp only [g_oo, w_so_so]
  rintro z5 rfl
  simp only [g_oo, w_so_so]
  rintro z6 rfl
  simp only [g_oo, w_so_so]
  rintro z7 rfl
  simp only [g_oo, w_so_so]
  rintro z8 rfl
  simp only [g_oo, w_so_so]
  rintro z9 rfl
  simp only [g_oo, w_so_so]
  rintro z10 rfl
  simp only [g_oo, w_so_so]
  rintro z11 rfl
  simp only [g_oo, w_so_so]
  rintro z12 rfl
  try simp only [g_oo, w_so_so]
  rw [n0, n6, n24]
  subst eK
  refine h _ ⟨⟨h4, ha⟩, fun q h3 h11 => ?_, fun j hj => ?_, fun j hj => ?_⟩
  · have : q = 3 ∨ q = 4 ∨ q = 5 ∨ q = 6 ∨ q = 7 ∨ q = 8 ∨ q = 9 ∨ q = 10 ∨ q = 11 := by omega
    rcases this with rfl | rfl | rfl | rfl | rfl | rfl | rfl | rfl | rfl <;> rfl
  · show va_cpy (w_a (w_o w) 1) (w_a (w_o k) 1) 0 0 6 j = _
    exact cpy_at hj
  · show va_cpy (w_a (w_o w) 2) (w_a (w_o k) 2) 0 0 24 j = _
    exact cpy_at hj
-- the reference carries one value
theorem upd_self (f : Nat → Int32) (i : Nat) : upd f i (f i) = f := by
  funext j
  rw [g_u]
  by_cases e : j = i
  · rw [if_pos e, e]
  · rw [if_neg e]
theorem w_sa_us {z : wSt} {k i : Nat} : w_sa z k (upd (w_a z k) i (w_a z k i)) = z := by rw [upd_self, w_sa_self]
theorem k156 {x4 x5 t0 : Int32} {z : wSt} {q i : Nat} {post : Int32 → wSt → Prop} (h4 : x4.toInt = (i : Int)) (hi : i < 6) (h5 : x5.toInt = (q : Int)) (hq : q < 5) (h : post (w_a (w_sa z 4 (upd (w_a z 4) i t0)) q i) (w_sa z 4 (upd (w_a z 4) i t0))) : wpX6_carried_156 post x4 x5 t0 x4 z := by
  have hin : vp_in x4 6 := t_in (by omega)
  unfold wpX6_carried_156
  rw [t_cl h4]
  refine ⟨hin, ?_⟩
  rintro z1 rfl
  simp only [t_eq, tn0, tn1, tn2, tn3, h5]
  have : q = 0 ∨ q = 1 ∨ q = 2 ∨ q = 3 ∨ q = 4 := by omega
  rcases this with rfl | rfl | rfl | rfl | rfl <;> refine ⟨fun a => ⟨fun b => ⟨fun c => ⟨fun d => ⟨hin, ?_⟩, fun d => ⟨hin, ?_⟩⟩, fun c => ⟨hin, ?_⟩⟩, fun b => ⟨hin, ?_⟩⟩, fun a => ⟨hin, ?_⟩⟩ <;> first | exact h | (exfalso; omega)
theorem k149 {x4 x5 : Int32} {z : wSt} {q i : Nat} {post : Int32 → wSt → Prop} (h4 : x4.toInt = (i : Int)) (hi : i < 6) (h5 : x5.toInt = (q : Int)) (hq : q < 5) (h : post (w_a z q i) z) : wpX6_carried_149 post x4 x5 x4 z := by
  unfold wpX6_carried_149
  refine ⟨t_in (by omega), k156 h4 hi h5 hq ?_⟩
  rw [t_cl h4, w_sa_us]
  exact h
theorem k128 {x2 x3 x4 x5 t0 : Int32} {z z1 : wSt} {i : Nat} {post : Int32 → wSt → Prop} (h4 : x4.toInt = (i : Int)) (hi : i < 6) (e : w_sa z 3 (upd (w_a z 3) i t0) = z1) (a : (x3 = 0 ∨ x5.toInt ≠ 4) → wpX6_carried_149 post x4 x5 x4 z1) (b : x3 ≠ 0 → x5.toInt = 4 → wpX6_carried_156 post x4 x5 x2 x4 z1) : wpX6_carried_128 post x2 x3 x4 x5 t0 x4 z := by
  unfold wpX6_carried_128
  rw [t_cl h4]
  refine ⟨t_in (by omega), ?_⟩
  rintro z2 rfl
  rw [e]
  exact ⟨fun c => a (Or.inl c), fun c => ⟨fun d => a (Or.inr (fun q => d (t_eq.mpr (by rw [q, tn4])))), fun d => b c (by rw [d, tn4])⟩⟩
theorem k100 {x2 x3 x4 x5 t0 : Int32} {z z1 : wSt} {i : Nat} {post : Int32 → wSt → Prop} (h4 : x4.toInt = (i : Int)) (hi : i < 6) (e : w_sa z 2 (upd (w_a z 2) i t0) = z1) (a : (x3 = 0 ∨ x5.toInt ≠ 3) → wpX6_carried_121 post x2 x3 x4 x5 x4 z1) (b : x3 ≠ 0 → x5.toInt = 3 → wpX6_carried_128 post x2 x3 x4 x5 x2 x4 z1) : wpX6_carried_100 post x2 x3 x4 x5 t0 x4 z := by
  unfold wpX6_carried_100
  rw [t_cl h4]
  refine ⟨t_in (by omega), ?_⟩
  rintro z2 rfl
  rw [e]
  exact ⟨fun c => a (Or.inl c), fun c => ⟨fun d => a (Or.inr (fun q => d (t_eq.mpr (by rw [q, tn3])))), fun d => b c (by rw [d, tn3])⟩⟩
theorem k72 {x2 x3 x4 x5 t0 : Int32} {z z1 : wSt} {i : Nat} {post : Int32 → wSt → Prop} (h4 : x4.toInt = (i : Int)) (hi : i < 6) (e : w_sa z 1 (upd (w_a z 1) i t0) = z1) (a : (x3 = 0 ∨ x5.toInt ≠ 2) → wpX6_carried_93 post x2 x3 x4 x5 x4 z1) (b : x3 ≠ 0 → x5.toInt = 2 → wpX6_carried_100 post x2 x3 x4 x5 x2 x4 z1) : wpX6_carried_72 post x2 x3 x4 x5 t0 x4 z := by
  unfold wpX6_carried_72
  rw [t_cl h4]
  refine ⟨t_in (by omega), ?_⟩
  rintro z2 rfl
  rw [e]
  exact ⟨fun c => a (Or.inl c), fun c => ⟨fun d => a (Or.inr (fun q => d (t_eq.mpr (by rw [q, tn2])))), fun d => b c (by rw [d, tn2])⟩⟩
theorem k44 {x2 x3 x4 x5 t0 : Int32} {z z1 : wSt} {i : Nat} {post : Int32 → wSt → Prop} (h4 : x4.toInt = (i : Int)) (hi : i < 6) (e : w_sa z 0 (upd (w_a z 0) i t0) = z1) (a : (x3 = 0 ∨ x5.toInt ≠ 1) → wpX6_carried_65 post x2 x3 x4 x5 x4 z1) (b : x3 ≠ 0 → x5.toInt = 1 → wpX6_carried_72 post x2 x3 x4 x5 x2 x4 z1) : wpX6_carried_44 post x2 x3 x4 x5 t0 x4 z := by
  unfold wpX6_carried_44
  rw [t_cl h4]
  refine ⟨t_in (by omega), ?_⟩
  rintro z2 rfl
  rw [e]
  exact ⟨fun c => a (Or.inl c), fun c => ⟨fun d => a (Or.inr (fun q => d (t_eq.mpr (by rw [q, tn1])))), fun d => b c (by rw [d, tn1])⟩⟩
/-- from a stage on, with the value itself: only what is asked for changes -/
theorem s121 {x2 x3 x4 x5 : Int32} {z : wSt} {q i : Nat} {post : Int32 → wSt → Prop} (h4 : x4.toInt = (i : Int)) (hi : i < 6) (h5 : x5.toInt = (q : Int)) (hq : q < 5) (a : (x3 = 0 ∨ q ≠ 4) → post (w_a z q i) z) (b : x3 ≠ 0 → q = 4 → ∀ r, post r (w_sa z 4 (upd (w_a z 4) i x2))) : wpX6_carried_121 post x2 x3 x4 x5 x4 z := by
  unfold wpX6_carried_121
  rw [t_cl h4]
  exact ⟨t_in (by omega), k128 h4 hi w_sa_us (fun c => k149 h4 hi h5 hq (a (c.imp id (fun d => by omega)))) (fun c d => k156 h4 hi h5 hq (b c (by omega) _))⟩
theorem s93 {x2 x3 x4 x5 : Int32} {z : wSt} {q i : Nat} {post : Int32 → wSt → Prop} (h4 : x4.toInt = (i : Int)) (hi : i < 6) (h5 : x5.toInt = (q : Int)) (hq : q < 5) (a : (x3 = 0 ∨ q < 3) → post (w_a z q i) z) (b : x3 ≠ 0 → 3 ≤ q → ∀ r, post r (w_sa z q (upd (w_a z q) i x2))) : wpX6_carried_93 post x2 x3 x4 x5 x4 z := by
  unfold wpX6_carried_93
  rw [t_cl h4]
  refine ⟨t_in (by omega), k100 h4 hi w_sa_us (fun c => s121 h4 hi h5 hq (fun d => a (c.elim Or.inl (fun c => d.imp id (fun d => by omega)))) (fun d e r => by subst e; exact b d (by omega) r)) (fun c d => k128 h4 hi rfl (fun e => k149 h4 hi h5 hq ?_) (fun e f => by exfalso; omega))⟩
  have e : q = 3 := by omega
  subst e
  exact b c (by omega) _
theorem s65 {x2 x3 x4 x5 : Int32} {z : wSt} {q i : Nat} {post : Int32 → wSt → Prop} (h4 : x4.toInt = (i : Int)) (hi : i < 6) (h5 : x5.toInt = (q : Int)) (hq : q < 5) (a : (x3 = 0 ∨ q < 2) → post (w_a z q i) z) (b : x3 ≠ 0 → 2 ≤ q → ∀ r, post r (w_sa z q (upd (w_a z q) i x2))) : wpX6_carried_65 post x2 x3 x4 x5 x4 z := by
  unfold wpX6_carried_65
  rw [t_cl h4]
  refine ⟨t_in (by omega), k72 h4 hi w_sa_us (fun c => s93 h4 hi h5 hq (fun d => a (c.elim Or.inl (fun c => d.imp id (fun d => by omega)))) (fun d e r => b d (by omega) r)) (fun c d => k100 h4 hi rfl (fun e => s121 h4 hi h5 hq (fun _ => ?_) (fun e f => by exfalso; omega)) (fun e f => by exfalso; omega))⟩
  have e : q = 2 := by omega
  subst e
  exact b c (by omega) _
theorem s37 {x2 x3 x4 x5 : Int32} {z : wSt} {q i : Nat} {post : Int32 → wSt → Prop} (h4 : x4.toInt = (i : Int)) (hi : i < 6) (h5 : x5.toInt = (q : Int)) (hq : q < 5) (a : (x3 = 0 ∨ q < 1) → post (w_a z q i) z) (b : x3 ≠ 0 → 1 ≤ q → ∀ r, post r (w_sa z q (upd (w_a z q) i x2))) : wpX6_carried_37 post x2 x3 x4 x5 x4 z := by
  unfold wpX6_carried_37
  rw [t_cl h4]
  refine ⟨t_in (by omega), k44 h4 hi w_sa_us (fun c => s65 h4 hi h5 hq (fun d => a (c.elim Or.inl (fun c => d.imp id (fun d => by omega)))) (fun d e r => b d (by omega) r)) (fun c d => k72 h4 hi rfl (fun e => s93 h4 hi h5 hq (fun _ => ?_) (fun e f => by exfalso; omega)) (fun e f => by exfalso; omega))⟩
  have e : q = 1 := by omega
  subst e
  exact b c (by omega) _
/-- where the image keeps what -/
def m_car (t : wSt) (k : Nat) : Int32 := if k < 30 then w_a t (k / 6) (k % 6) else w_a t 13 (k - 30)
def m_put (t : wSt) (k : Nat) (v : Int32) : wSt := if k < 30 then w_sa t (k / 6) (upd (w_a t (k / 6)) (k % 6) v) else w_sa t 13 (upd (w_a t 13) (k - 30) v)
theorem t_div {a b : Int32} (h : 0 ≤ a.toInt) (hb : 0 < b.toInt) : (a / b).toInt = a.toInt / b.toInt := by
  have h1 := t_rng a
  rw [Int32.toInt_div, Int.tdiv_eq_ediv_of_nonneg h]
  refine t_bm ?_
  have h2 : 0 ≤ a.toInt / b.toInt := Int.ediv_nonneg h (by omega)
  have h3 : a.toInt / b.toInt ≤ a.toInt := Int.ediv_le_self _ h
  omega
theorem k_split {k : Nat} (hk : k < 30) : (nI k / 6).toInt = ((k / 6 : Nat) : Int) ∧ (nI k - nI k / 6 * 6).toInt = ((k % 6 : Nat) : Int) := by
  have n6 := tn6
  have ek : (nI k).toInt = (k : Int) := nI_toInt (by omega)
  have e1 : (nI k / 6).toInt = ((k / 6 : Nat) : Int) := by rw [t_div (by omega) (by omega), ek, n6]; omega
  refine ⟨e1, ?_⟩
  have e2 : (nI k / 6 * 6).toInt = ((k / 6 : Nat) : Int) * 6 := by rw [t_mul (by rw [e1, n6]; omega), e1, n6]
  rw [t_sub (by omega), e2, ek]; omega
theorem k253 {v t1 : Int32} {k : Nat} {z : wSt} {post : Int32 → wSt → Prop} (hk : 30 ≤ k) (hk2 : k < 54) (e : t1.toInt = (k : Int) - 30) (h : post (w_a (w_sa z 13 (upd (w_a z 13) (k - 30) v)) 13 (k - 30)) (w_sa z 13 (upd (w_a z 13) (k - 30) v))) : wpX6_carried_253 post (nI k) v t1 z := by
  have n30 : (30 : Int32).toInt = 30 := by decide
  have ek : (nI k).toInt = (k : Int) := nI_toInt (by omega)
  have e1 : t1.toInt = ((k - 30 : Nat) : Int) := by omega
  have e2 : (nI k - 30).toInt = ((k - 30 : Nat) : Int) := by rw [t_sub (by omega)]; omega
  unfold wpX6_carried_253
  rw [t_cl e1, t_cl e2]
  refine ⟨t_in (by omega), ?_⟩
  rintro z1 rfl
  exact ⟨t_in (by omega), h⟩
theorem r_carry0 {k : Nat} {v : Int32} {z : wSt} {post : Int32 → wSt → Prop} (hk : k < 54) (h : post (m_car z k) z) : wpX6_carried (nI k) v 0 z post := by
  have n30 : (30 : Int32).toInt = 30 := by decide
  have ek : (nI k).toInt = (k : Int) := nI_toInt (by omega)
  unfold wpX6_carried
  rw [t_le, n30, ek]
  unfold m_car at h
  refine ⟨fun c => ⟨fun _ => ?_, fun q => absurd rfl q⟩, fun c => ⟨by decide, by decide, fun _ => ?_, fun q => absurd rfl q⟩⟩
  · rw [if_neg (by omega)] at h
    have e2 : (nI k - 30).toInt = ((k - 30 : Nat) : Int) := by rw [t_sub (by omega)]; omega
    rw [t_cl e2]
    refine ⟨t_in (by omega), k253 (by omega) hk (by omega) ?_⟩
    rw [w_sa_us]; exact h
  · rw [if_pos (by omega)] at h
    obtain ⟨s1, s2⟩ := k_split (k := k) (by omega)
    exact s37 s2 (by omega) s1 (by omega) (fun _ => h) (fun q => absurd rfl q)
theorem r_carry1 {k : Nat} {v : Int32} {z : wSt} {post : Int32 → wSt → Prop} (hk : k < 54) (h : ∀ r, post r (m_put z k v)) : wpX6_carried (nI k) v 1 z post := by
  have n30 : (30 : Int32).toInt = 30 := by decide
  have ek : (nI k).toInt = (k : Int) := nI_toInt (by omega)
  unfold wpX6_carried
  rw [t_le, n30, ek]
  unfold m_put at h
  refine ⟨fun c => ⟨fun q => absurd q (by decide), fun _ => ?_⟩, fun c => ⟨by decide, by decide, fun q => absurd q (by decide), fun _ => ?_⟩⟩
  · rw [if_neg (by omega)] at h
    exact k253 (by omega) hk (by rw [t_sub (by omega)]; omega) (h _)
  · rw [if_pos (by omega)] at h
    obtain ⟨s1, s2⟩ := k_split (k := k) (by omega)
    rw [t_eq, s1, tn0]
    refine ⟨fun q => s37 s2 (by omega) s1 (by omega) (fun c => by rcases c with c | c; exact absurd c (by decide); exfalso; omega) (fun _ _ r => h r), fun q => ?_⟩
    have e : k / 6 = 0 := by omega
    refine k44 s2 (by omega) rfl (fun _ => s65 s2 (by omega) s1 (by omega) (fun _ => ?_) (fun _ c => by exfalso; omega)) (fun _ c => by exfalso; omega)
    rw [e] at h ⊢
    exact h _
theorem m_car_put {t : wSt} {k j : Nat} {v : Int32} (hk : k < 54) (hj : j < 54) : m_car (m_put t k v) j = if j = k then v else m_car t j := by
  unfold m_car m_put
  by_cases c : k < 30
  · rw [if_pos c]
    by_cases d : j < 30
    · rw [if_pos d, if_pos d, g_aa]
      by_cases e : j / 6 = k / 6
      · rw [if_pos e, g_u, ← e]
        by_cases f : j = k
        · rw [if_pos (by omega), if_pos f]
        · rw [if_neg (by omega), if_neg f]
      · rw [if_neg e, if_neg (by omega)]
    · rw [if_neg d, if_neg d, g_aa, if_neg (by omega), if_neg (by omega)]
  · rw [if_neg c]
    by_cases d : j < 30
    · rw [if_pos d, if_pos d, g_aa, if_neg (by omega), if_neg (by omega)]
    · rw [if_neg d, if_neg d, g_aa, if_pos rfl, g_u]
      by_cases f : j = k
      · rw [if_pos (by omega), if_pos f]
      · rw [if_neg (by omega), if_neg f]
theorem MF.put {t : wSt} {k : Nat} {v : Int32} (hk : k < 54) : MF [] [0, 1, 2, 3, 4, 13] t (m_put t k v) := by
  unfold m_put
  by_cases c : k < 30
  · rw [if_pos c]
    refine MF.sa.up (fun _ h => h) (fun a h => ?_)
    simp only [List.mem_cons, List.not_mem_nil, or_false] at h ⊢
    omega
  · rw [if_neg c]
    exact MF.sa.up (fun _ h => h) (by decide)
theorem m_car_31 {t : wSt} {g : Nat → Int32} {k : Nat} (hk : k < 54) : m_car (w_sa t 31 g) k = m_car t k := by
  unfold m_car
  by_cases c : k < 30
  · rw [if_pos c, if_pos c, g_aa, if_neg (by omega)]
  · rw [if_neg c, if_neg c]; rfl
/-- what the image holds -/
def IM (t : wSt) (g : Nat → Int32) : Prop := (∀ j : Nat, j < 54 → g j = m_car t j) ∧ g 54 = w_i t 5 ∧ g 55 = w_i t 6 ∧ g 56 = w_i t 7 ∧ g 57 = w_i t 8 ∧ g 58 = w_i t 9 ∧ g 59 = w_i t 10 ∧ g 60 = w_i t 11 ∧ g 61 = w_i t 12 ∧ g 62 = w_i t 14 ∧ g 63 = w_i t 15
theorem r_imageL {t : wSt} {post : Int32 → wSt → Prop} (h : ∀ g, IM t g → post 1 (w_si (w_sa t 31 g) 30 1)) : ∀ (n k : Nat) (g : Nat → Int32), k + n = 54 → (∀ j : Nat, j < k → g j = m_car t j) → ∃ f, wpX6_image_L2 post f (nI k) (w_sa t 31 g) := by
  have n54 : (54 : Int32).toInt = 54 := by decide
  intro n
  induction n with
  | zero =>
    intro k g hk hg
    refine ⟨1, ?_⟩
    show wpX6_image_2 _ post _ _
    unfold wpX6_image_2
    rw [t_le, n54, nI_toInt (by omega)]
    refine ⟨fun _ => ?_, fun q => by exfalso; omega⟩
    have m : ∀ k : Int32, (0 ≤ k.toInt ∧ k.toInt < 64) → vp_in k 64 := fun k h => t_in (by omega)
    refine ⟨m _ (by decide), ?_⟩
    rintro z1 rfl
    refine ⟨m _ (by decide), ?_⟩
    rintro z2 rfl
    refine ⟨m _ (by decide), ?_⟩
    rintro z3 rfl
    refine ⟨m _ (by decide), ?_⟩
    rintro z4 rfl
    refine ⟨m _ (by decide), ?_⟩
    rintro z5 rfl
    refine ⟨m _ (by decide), ?_⟩
    rintro z6 rfl
    refine ⟨m _ (by decide), ?_⟩
    rintro z7 rfl
    refine ⟨m _ (by decide), ?_⟩
    rintro z8 rfl
    refine ⟨m _ (by decide), ?_⟩
    rintro z9 rfl
    refine ⟨m _ (by decide), ?_⟩
    rintro z10 rfl
    rintro z11 rfl
    simp only [w_ai, w_sa_sa, g_ia]
    have c54 : (54 : Int32).toNatClampNeg = 54 := by decide
    have c55 : (55 : Int32).toNatClampNeg = 55 := by decide
    have c56 : (56 : Int32).toNatClampNeg = 56 := by decide
    have c57 : (57 : Int32).toNatClampNeg = 57 := by decide
    have c58 : (58 : Int32).toNatClampNeg = 58 := by decide
    have c59 : (59 : Int32).toNatClampNeg = 59 := by decide
    have c60 : (60 : Int32).toNatClampNeg = 60 := by decide
    have c61 : (61 : Int32).toNatClampNeg = 61 := by decide
    have c62 : (62 : Int32).toNatClampNeg = 62 := by decide
    have c63 : (63 : Int32).toNatClampNeg = 63 := by decide
    rw [c54, c55, c56, c57, c58, c59, c60, c61, c62, c63]
    refine h _ ⟨fun j hj => ?_, rfl, rfl, rfl, rfl, rfl, rfl, rfl, rfl, rfl, rfl⟩
    simp only [g_u]
    rw [if_neg (by omega), if_neg (by omega), if_neg (by omega), if_neg (by omega), if_neg (by omega), if_neg (by omega), if_neg (by omega), if_neg (by omega), if_neg (by omega), if_neg (by omega)]
    exact hg j (by omega)
  | succ n ih =>
    intro k g hk hg
    have ek : (nI k).toInt = (k : Int) := nI_toInt (by omega)
    obtain ⟨f, hf⟩ := ih (k + 1) (upd g k (m_car t k)) (by omega) (fun j hj => by
      rw [g_u]
      by_cases e : j = k
      · rw [if_pos e, e]
      · rw [if_neg e]; exact hg j (by omega))
    refine ⟨f + 1, ?_⟩
    show wpX6_image_2 _ post _ _
    unfold wpX6_image_2
    rw [t_le, n54, ek, t_cl ek]
    refine ⟨fun q => by exfalso; omega, fun _ => r_carry0 (by omega) ?_⟩
    rintro z1 rfl
    refine ⟨t_in (by omega), ?_⟩
    rintro z2 rfl
    rw [w_ai, w_sa_sa, m_car_31 (by omega), nI_1]
    exact hf
theorem IM.tc {t : wSt} {g : Nat → Int32} (h : IM t g) : TC t (kSt g) := by
  obtain ⟨h0, h54, h55, h56, h57, h58, h59, h60, h61, h62, h63⟩ := h
  refine ⟨⟨h54, h55, h56, h57, h58, h59, h60, h61, h62, h63⟩, fun q j hq hj => ?_, fun j hj => ?_⟩
  · have e : w_a (kSt g) q j = g (6 * q + j) := by
      have : q = 0 ∨ q = 1 ∨ q = 2 ∨ q = 3 ∨ q = 4 := by omega
      rcases this with rfl | rfl | rfl | rfl | rfl
      · show g j = g (0 + j); congr 1; omega
      · rfl
      · rfl
      · rfl
      · rfl
    rw [e, h0 _ (by omega)]
    unfold m_car
    rw [if_pos (by omega)]
    have e1 : (6 * q + j) / 6 = q := by omega
    have e2 : (6 * q + j) % 6 = j := by omega
    rw [e1, e2]
  · show g (30 + j) = _
    rw [h0 _ (by omega)]
    unfold m_car
    rw [if_neg (by omega)]
    congr 1; omega
-- image
theorem op_image {x : wXS} {t : wSt} (h : REL x t) {post : Int32 → wXS → Prop} (hp : ∀ r x', (∀ {p2 : Int32 → wSt → Prop}, (∀ t', REL x' t' → p2 r t') → wpX6_image t p2) → post r x') : wpX5_image x post := by
  unfold wpX5_image
  refine q_become4 (fun k' hc => ?_)
  rintro z1 rfl
  rintro z2 rfl
  refine hp 1 _ (fun {p2} hp2 => ?_)
  unfold wpX6_image
  have key := r_imageL (t := t) (post := p2) (fun g hg => hp2 _ ?_) 54 0 (w_a t 31) (by omega) (fun j hj => by omega)
  · rw [w_sa_self] at key
    exact key
  · refine ⟨h.1.eq ⟨⟨rfl, rfl, rfl, rfl, rfl, rfl, rfl, rfl, rfl, rfl⟩, rfl, rfl, rfl, rfl, rfl, rfl⟩, ⟨rfl, Or.inr ⟨rfl, ?_⟩⟩, h.2.2.1.eq rfl rfl, h.2.2.2.eq rfl rfl rfl⟩
    exact h.1.cpy hc hg.tc
-- restore
theorem r_restoreL {t : wSt} {post : Int32 → wSt → Prop} (h : ∀ t', MF [5, 6, 7, 8, 9, 10, 11, 12, 14, 15] [0, 1, 2, 3, 4, 13] t t' → TC (kSt (w_a t 31)) t' → post 1 t') : ∀ (n k : Nat) (u : wSt), k + n = 54 → MF [] [0, 1, 2, 3, 4, 13] t u → (∀ j : Nat, j < k → m_car u j = w_a t 31 j) → ∃ f, wpX6_restore_L12 post f (nI k) u := by
  have n54 : (54 : Int32).toInt = 54 := by decide
  intro n
  induction n with
  | zero =>
    intro k u hk hF hu
    refine ⟨1, ?_⟩
    show wpX6_restore_12 _ post _ _
    unfold wpX6_restore_12
    rw [t_le, n54, nI_toInt (by omega)]
    refine ⟨fun _ => ?_, fun q => by exfalso; omega⟩
    have m : ∀ k : Int32, (0 ≤ k.toInt ∧ k.toInt < 64) → vp_in k 64 := fun k h => t_in (by omega)
    refine ⟨m _ (by decide), ?_⟩
    rintro z1 rfl
    refine ⟨m _ (by decide), ?_⟩
    rintro z2 rfl
    refine ⟨m _ (by decide), ?_⟩
    rintro z3 rfl
    refine ⟨m _ (by decide), ?_⟩
    rintro z4 rfl
    refine ⟨m _ (by decide), ?_⟩
    rintro z5 rfl
    refine ⟨m _ (by decide), ?_⟩
    rintro z6 rfl
    refine ⟨m _ (by decide), ?_⟩
    rintro z7 rfl
    refine ⟨m _ (by decide), ?_⟩
    rintro z8 rfl
    refine ⟨m _ (by decide), ?_⟩
    rintro z9 rfl
    refine ⟨m _ (by decide), ?_⟩
    rintro z10 rfl
    simp only [g_ai]
    have c54 : (54 : Int32).toNatClampNeg = 54 := by decide
    have c55 : (55 : Int32).toNatClampNeg = 55 := by decide
    have c56 : (56 : Int32).toNatClampNeg = 56 := by decide
    have c57 : (57 : Int32).toNatClampNeg = 57 := by decide
    have c58 : (58 : Int32).toNatClampNeg = 58 := by decide
    have c59 : (59 : Int32).toNatClampNeg = 59 := by decide
    have c60 : (60 : Int32).toNatClampNeg = 60 := by decide
    have c61 : (61 : Int32).toNatClampNeg = 61 := by decide
    have c62 : (62 : Int32).toNatClampNeg = 62 := by decide
    have c63 : (63 : Int32).toNatClampNeg = 63 := by decide
    rw [c54, c55, c56, c57, c58, c59, c60, c61, c62, c63, hF.2.1 31 (by decide)]
    refine h _ ⟨fun q hq => ?_, fun q hq => hF.2.1 q hq, fun q => hF.2.2 q⟩ ⟨⟨rfl, rfl, rfl, rfl, rfl, rfl, rfl, rfl, rfl, rfl⟩, fun q j hq hj => ?_, fun j hj => ?_⟩
    · simp only [List.mem_cons, List.not_mem_nil, or_false, not_or] at hq
      obtain ⟨q5, q6, q7, q8, q9, q10, q11, q12, q14, q15⟩ := hq
      show (if q = 15 then _ else if q = 14 then _ else if q = 12 then _ else if q = 11 then _ else if q = 10 then _ else if q = 9 then _ else if q = 8 then _ else if q = 7 then _ else if q = 6 then _ else if q = 5 then _ else _) = _
      rw [if_neg q15, if_neg q14, if_neg q12, if_neg q11, if_neg q10, if_neg q9, if_neg q8, if_neg q7, if_neg q6, if_neg q5]
      exact hF.1 q (by simp)
    · show w_a u q j = _
      have e : w_a (kSt (w_a t 31)) q j = w_a t 31 (6 * q + j) := by
        have : q = 0 ∨ q = 1 ∨ q = 2 ∨ q = 3 ∨ q = 4 := by omega
        rcases this with rfl | rfl | rfl | rfl | rfl
        · show w_a t 31 j = w_a t 31 (0 + j); congr 1; omega
        · rfl
        · rfl
        · rfl
        · rfl
      rw [e, ← hu _ (by omega)]
      unfold m_car
      rw [if_pos (by omega)]
      have e1 : (6 * q + j) / 6 = q := by omega
      have e2 : (6 * q + j) % 6 = j := by omega
      rw [e1, e2]
    · show w_a u 13 j = w_a t 31 (30 + j)
      rw [← hu _ (by omega)]
      unfold m_car
      rw [if_neg (by omega)]
      congr 1; omega
  | succ n ih =>
    intro k u hk hF hu
    have ek : (nI k).toInt = (k : Int) := nI_toInt (by omega)
    obtain ⟨f, hf⟩ := ih (k + 1) (m_put u k (w_a t 31 k)) (by omega) ((hF.tr (MF.put (by omega))).up (by decide) (by decide)) (fun j hj => by
      rw [m_car_put (by omega) (by omega)]
      by_cases e : j = k
      · rw [if_pos e, e]
      · rw [if_neg e]; exact hu j (by omega))
    refine ⟨f + 1, ?_⟩
    show wpX6_restore_12 _ post _ _
    unfold wpX6_restore_12
    rw [t_le, n54, ek, t_cl ek, hF.2.1 31 (by decide)]
    refine ⟨fun q => by exfalso; omega, fun _ => ⟨t_in (by omega), r_carry1 (by omega) (fun r => ?_)⟩⟩
    rintro z1 rfl
    rw [nI_1]
    exact hf
theorem op_restore {x : wXS} {t : wSt} (h : REL x t) {post : Int32 → wXS → Prop} (hp : ∀ r x', (∀ {p2 : Int32 → wSt → Prop}, (∀ t', REL x' t' → p2 r t') → wpX6_restore t p2) → post r x') : wpX5_restore x post := by
  obtain ⟨e2, hk⟩ := h.2.1
  unfold wpX5_restore
  rw [e2]
  refine ⟨fun c => ?_, fun c => hp (-4) x (fun {p2} hp2 => ?_)⟩
  · rcases hk with hk | ⟨h1, hW⟩
    · exact absurd hk c
    · refine q_become4 (fun k' hc => ?_)
      rintro z1 rfl
      refine hp 1 _ (fun {p2} hp2 => ?_)
      unfold wpX6_restore
      refine ⟨fun _ => ?_, fun q => absurd q c⟩
      refine r_restoreL (t := t) (post := p2) (fun t' hF hT => hp2 t' ?_) 54 0 t (by omega) (MF.rf.up (by decide) (by decide)) (fun j hj => by omega)
      refine ⟨hW.cpy hc hT, ?_, h.2.2.1.eq (hF.1 17 (by decide)) (hF.2.1 16 (by decide)), h.2.2.2.eq (hF.2.1 32 (by decide)) (hF.2.1 33 (by decide)) (hF.2.2 34)⟩
      exact KR.eq (o := x_o x) (k := x_k x) ⟨e2, Or.inr ⟨h1, hW⟩⟩ (hF.1 30 (by decide)) (hF.2.1 31 (by decide))
  · unfold wpX6_restore
    exact ⟨fun q => absurd c q, fun _ => hp2 t h⟩
