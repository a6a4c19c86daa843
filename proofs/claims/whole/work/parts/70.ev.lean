-- the reference's search: one row's value
def mP (t : wSt) : PP := ((w_i t 5).toInt.toNat, fun i => (w_a t 0 i).toInt, fun i => (w_a t 1 i).toInt, fun i => (w_a t 2 i).toInt, fun i j => bt (w_a t 3 i) j, (w_i t 8).toInt)
def mS (t : wSt) (m : Int) : SS := (m, (w_i t 7).toInt, (w_i t 12).toInt, fun j => max 0 ((w_a t 4 j).toInt - (w_i t 11).toInt))
/-- the value of a row from hour h on, if it can be -/
def ev (P : PP) (row : Nat → Nat) : Nat → Nat → SS → Option Int
  | 0, _, _ => some 0
  | k + 1, h, s => if p_n P ≤ row h ∨ y_f s (row h) ≤ (h : Int) then (ev P row k (h + 1) (g_st P h s (row h))).map (fun v => g_s P s (row h) + v) else none
/-- the try stands at hour h -/
def MS (t0 t : wSt) (h : Nat) (s : SS) : Prop := ((w_i t 21).toInt = y_m s ∧ -9 ≤ y_m s ∧ y_m s ≤ 9) ∧ ((w_i t 22).toInt = y_l s ∧ 0 ≤ y_l s ∧ y_l s ≤ 999) ∧ ((w_i t 24).toInt = y_a s ∧ (y_a s = 9 ∨ (0 ≤ y_a s ∧ y_a s < (w_i t0 5).toInt))) ∧ (w_i t 23).toInt = (w_i t0 11).toInt + (h : Int) ∧ ∀ j : Nat, (j : Int) < (w_i t0 5).toInt → max 0 ((w_a t 27 j).toInt - (w_i t0 11).toInt) = y_f s j
/-- what of the well the search needs -/
def MW (t : wSt) : Prop := (0 ≤ (w_i t 5).toInt ∧ (w_i t 5).toInt ≤ 6) ∧ (0 ≤ (w_i t 8).toInt ∧ (w_i t 8).toInt ≤ 9) ∧ (0 ≤ (w_i t 11).toInt ∧ (w_i t 11).toInt ≤ 9999) ∧ ∀ i : Nat, (i : Int) < (w_i t 5).toInt → (-3 ≤ (w_a t 1 i).toInt ∧ (w_a t 1 i).toInt ≤ 3) ∧ (1 ≤ (w_a t 2 i).toInt ∧ (w_a t 2 i).toInt ≤ 9)
theorem ms_step {t0 t t' : wSt} {h : Nat} {s : SS} {c : Nat} {one : Int32} (hW : MW t0) (hF : MF [21, 22, 23, 24, 25, 26] [27, 28, 29] t0 t) (hS : MS t0 t h s) (hh : h < 5) (hc : (c : Int) < (w_i t0 5).toInt) (ho : one.toInt = (c : Int)) (hT : TA c one t t') : MS t0 t' (h + 1) (g_st (mP t0) h s c) ∧ (w_i t' 25).toInt = g_p (mP t0) s c ∧ ((w_i t' 26 = 1 ∧ g_s (mP t0) s c = g_p (mP t0) s c) ∨ (w_i t' 26 = 0 ∧ g_s (mP t0) s c = 0)) := by
  obtain ⟨⟨n0, n6⟩, ⟨w0, w9⟩, ⟨h0, h9⟩, hrow⟩ := hW
  obtain ⟨⟨m1, m2, m3⟩, ⟨l1, l2, l3⟩, ⟨a1, a2⟩, c1', c2⟩ := hS
  obtain ⟨tF, tP, ts, tm, tl, th, ta, tw⟩ := hT
  have n1 := tn1
  have A : ∀ k, k ∉ [27, 28, 29] → w_a t k = w_a t0 k := hF.2.1
  have I : ∀ k, k ∉ [21, 22, 23, 24, 25, 26] → w_i t k = w_i t0 k := hF.1
  obtain ⟨r1, r2⟩ := hrow c hc
  have pn : c < p_n (mP t0) := by show c < (w_i t0 5).toInt.toNat; omega
  have egp : (w_i t' 25).toInt = g_p (mP t0) s c := by
    unfold TP at tP
    rw [a1, A 3 (by decide), A 0 (by decide), l1, m1] at tP
    unfold g_p
    rw [if_pos pn]
    show (w_i t' 25).toInt = if y_a s ≠ 9 ∧ bt (w_a t0 3 c) (y_a s).toNat = true then 0 else min (y_l s) (m_pails (w_a t0 0 c).toInt (y_m s))
    rcases tP with ⟨q, e⟩ | ⟨q, e⟩
    · rw [if_pos q]; exact e
    · rw [if_neg q]; exact e
  have hgp := g_p_rng (P := mP t0) (s := s) (c := c) l2
  refine ⟨?_, egp, ?_⟩
  · have est : g_st (mP t0) h s c = (m_wane (m_clamp (y_m s + m_felt (w_a t0 0 c).toInt (w_a t0 1 c).toInt)), m_rain (y_l s - g_p (mP t0) s c) (w_i t0 8).toInt, (c : Int), fun j => if j = c then (h : Int) + (w_a t0 2 c).toInt else y_f s j) := by unfold g_st; rw [if_pos pn]; rfl
    rw [est]
    have hmr := m_wane_rng (m_clamp_rng (y_m s + m_felt (w_a t0 0 c).toInt (w_a t0 1 c).toInt))
    refine ⟨⟨?_, hmr.1, hmr.2⟩, ⟨?_, ?_, ?_⟩, ⟨?_, Or.inr ⟨?_, ?_⟩⟩, ?_, fun j hj => ?_⟩
    · rw [tm, m1, A 0 (by decide), A 1 (by decide)]; rfl
    · rw [tl, l1, egp, I 8 (by decide)]; rfl
    · show 0 ≤ m_rain (y_l s - g_p (mP t0) s c) (w_i t0 8).toInt; unfold m_rain; omega
    · show m_rain (y_l s - g_p (mP t0) s c) (w_i t0 8).toInt ≤ 999; unfold m_rain; omega
    · rw [ta]; exact ho
    · show (0 : Int) ≤ (c : Int); omega
    · exact hc
    · rw [th, t_add (by omega), c1', n1]; omega
    · show _ = if j = c then (h : Int) + (w_a t0 2 c).toInt else y_f s j
      rw [tw, g_u]
      by_cases e : j = c
      · rw [if_pos e, if_pos e, A 2 (by decide), t_add (by omega), c1']; omega
      · rw [if_neg e, if_neg e]; exact c2 j hj
  · rw [A 0 (by decide), m1] at ts
    have hsw : m_swt (w_a t0 0 c).toInt (y_m s) ↔ (p_k (mP t0) c = 1 ∨ (p_k (mP t0) c = 0 ∧ 0 ≤ y_m s)) := Iff.rfl
    rcases ts with ⟨q, e⟩ | ⟨q, e⟩
    · refine Or.inl ⟨e, ?_⟩
      unfold g_s
      rw [if_pos pn, if_pos (hsw.mp q)]
    · refine Or.inr ⟨e, ?_⟩
      unfold g_s
      rw [if_pos pn, if_neg (fun w => q (hsw.mpr w))]
