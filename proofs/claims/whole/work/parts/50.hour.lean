/-- what an hour leaves, put together -/
theorem WR.hour {w w' : wP2} {t t' : wSt} (h : WR w t) (F : GF t t') (ef : w_f w' = w_f w) (x2 : ∀ k, k ≠ 4 → k ≠ 5 → k ≠ 7 → k ≠ 8 → k ≠ 9 → k ≠ 10 → w_i (w_o w') k = w_i (w_o w) k) (x3 : ∀ k, k ≠ 1 → w_a (w_o w') k = w_a (w_o w) k) (e6 : w_i (w_o w') 4 = w_i t' 6) (e7 : w_i (w_o w') 5 = w_i t' 7) (e9 : w_i (w_o w') 7 = w_i t' 9) (e10 : w_i (w_o w') 8 = w_i t' 10) (e11 : w_i (w_o w') 9 = w_i t' 11) (e12 : w_i (w_o w') 10 = w_i t' 12)
    (r6 : -9 ≤ (w_i (w_o w') 4).toInt ∧ (w_i (w_o w') 4).toInt ≤ 9) (r7 : 0 ≤ (w_i (w_o w') 5).toInt ∧ (w_i (w_o w') 5).toInt ≤ 999) (r11 : 0 ≤ (w_i t' 11).toInt ∧ (w_i t' 11).toInt ≤ 9999) (r12 : (w_i t' 12).toInt = 9 ∨ (0 ≤ (w_i t' 12).toInt ∧ (w_i t' 12).toInt < (w_i t 5).toInt))
    (hA1 : ∀ j : Nat, j < 6 → (w_a (w_o w') 1 j).toInt = if (j : Int) < (w_i t 5).toInt then max 0 ((w_a t' 4 j).toInt - (w_i t' 11).toInt) else 0) (hA2 : ∀ j : Nat, (j : Int) < (w_i t 5).toInt → 0 ≤ (w_a t' 4 j).toInt ∧ (w_a t' 4 j).toInt ≤ (w_i t' 11).toInt + 9) : WR w' t' := by
  obtain ⟨hRF, -, ⟨o4, o5, o6, o7, o8, o9, o10, o3, o11⟩, ⟨hg6, hg7, hg8, hg11, hg12, hg14, hg15⟩, hRP⟩ := h
  have e5 : w_i t' 5 = w_i t 5 := F.1 5 (by decide)
  have e8 : w_i t' 8 = w_i t 8 := F.1 8 (by decide)
  have e14 : w_i t' 14 = w_i t 14 := F.1 14 (by decide)
  have e15 : w_i t' 15 = w_i t 15 := F.1 15 (by decide)
  refine ⟨?_, ⟨?_, ?_⟩, ⟨e6, e7, ?_, e9, e10, e11, e12, ?_, ?_⟩, ⟨?_, ?_, ?_, r11, ?_, ?_, ?_⟩, fun j hj => ?_⟩
  · rw [ef]; exact hRF.eq e5 (F.2.1 0 (by decide)) (F.2.1 1 (by decide)) (F.2.1 2 (by decide)) (F.2.1 3 (by decide))
  · rw [e5]; exact hA1
  · rw [e5]; exact hA2
  · rw [x2 6 (by decide) (by decide) (by decide) (by decide) (by decide) (by decide), o6, e8]
  · rw [x2 3 (by decide) (by decide) (by decide) (by decide) (by decide) (by decide), o3, e14]
  · rw [x2 11 (by decide) (by decide) (by decide) (by decide) (by decide) (by decide), o11, e15]
  · rw [← e6]; exact r6
  · rw [← e7]; exact r7
  · rw [e8]; exact hg8
  · rw [e5]; exact r12
  · rw [e14]; exact hg14
  · rw [e15]; exact hg15
  · rw [e14] at hj
    rw [x3 2 (by decide), F.2.1 13 (by decide), e5]
    exact hRP j hj
/-- a state of the reference for the class' well after the hour -/
def m_nx (w' : wP2) (t : wSt) : wSt := w_sa (w_si (w_si (w_si (w_si (w_si (w_si t 6 (w_i (w_o w') 4)) 7 (w_i (w_o w') 5)) 9 (w_i (w_o w') 7)) 10 (w_i (w_o w') 8)) 11 (w_i (w_o w') 9)) 12 (w_i (w_o w') 10)) 4 (fun j => w_a (w_o w') 1 j + w_i (w_o w') 9)
theorem GF.nx {w' : wP2} {t : wSt} : GF t (m_nx w' t) := by
  refine ⟨fun k hk => ?_, fun k hk => ?_, fun k => rfl⟩
  · simp only [List.mem_cons, List.not_mem_nil, or_false, not_or] at hk
    obtain ⟨h6, h7, h9, h10, h11, h12, -⟩ := hk
    show (if k = 12 then _ else if k = 11 then _ else if k = 10 then _ else if k = 9 then _ else if k = 7 then _ else if k = 6 then _ else _) = _
    rw [if_neg h12, if_neg h11, if_neg h10, if_neg h9, if_neg h7, if_neg h6] <;> rfl
  · simp only [List.mem_cons, List.not_mem_nil, or_false, not_or] at hk
    show (if k = 4 then _ else _) = _
    rw [if_neg hk.1] <;> rfl
/-- who may draw, or nobody -/
def m_ok (w : wP2) (one : Int32) : Prop := one.toInt = 9 ∨ ∃ i : Nat, one.toInt = (i : Int) ∧ (i : Int) < (w_i (w_f w) 4).toInt ∧ (w_a (w_o w) 1 i).toInt = 0
theorem m_ok.m {w : wP2} {t : wSt} {one : Int32} (h : WR w t) (ho : m_ok w one) : one.toInt = 9 ∨ ∃ i : Nat, one.toInt = (i : Int) ∧ (i : Int) < (w_i t 5).toInt ∧ (w_a t 4 i).toInt ≤ (w_i t 11).toInt := by
  rcases ho with c | ⟨i, hi, hc, hz⟩
  · exact Or.inl c
  · have h6 := h.1.1.1
    rw [h.1.2.1] at hc h6
    refine Or.inr ⟨i, hi, hc, ?_⟩
    have := h.2.1.1 i (by omega)
    rw [if_pos hc] at this
    omega
/-- an hour on both sides -/
theorem both_hour {one : Int32} {w : wP2} {t0 : wSt} {post : Int32 → wP2 → Prop} (h0 : WR w t0) (hh0 : (w_i t0 11).toInt ≤ 9998) (ho0 : m_ok w one)
    (hp : ∀ r w', (0 ≤ r.toInt ∧ r.toInt ≤ 9) → (∃ t', WR w' t' ∧ (w_i t' 11).toInt = (w_i t0 11).toInt + 1 ∧ GF t0 t') → (∀ t, WR w t → ∀ {p2 : Int32 → wSt → Prop}, (∀ t', WR w' t' → GF t t' → (w_i t' 11).toInt = (w_i t 11).toInt + 1 → p2 r t') → wpX6_goOn one t p2) → post r w') : wpX4_passHour one w post := by
  obtain ⟨hRF0, ⟨hA10, hA20⟩, ⟨o40, o50, o60, o70, o80, o90, o100, o30, o110⟩, ⟨hg60, hg70, hg80, hg110, hg120, hg140, hg150⟩, hRP0⟩ := id h0
  obtain ⟨hFK0, e40, heq0, hsym0, hout0⟩ := id hRF0
  have h60 : 0 ≤ (w_i t0 5).toInt ∧ (w_i t0 5).toInt ≤ 6 := by rw [← e40]; exact hFK0.1
  have hw : ∀ j : Nat, (j : Int) < (w_i (w_f w) 4).toInt → 0 ≤ (w_a (w_o w) 1 j).toInt ∧ (w_a (w_o w) 1 j).toInt ≤ 9 := fun j hj => by
    rw [e40] at hj
    have := hA10 j (by omega)
    rw [if_pos hj] at this
    have := hA20 j hj
    omega
  have n1 := tn1
  refine q_passHour hFK0 (by rw [o40]; exact hg60) (by rw [o50]; exact hg70) (by rw [o60]; exact hg80) hw (fun i r w' hi hc hz hx => ?_) (fun w' hno hx => ?_)
  · -- one draws
    obtain ⟨x1, x2, x3, xP, xs, xm, xl, xh, xla, xw⟩ := hx
    have hrr := xP.rng (by rw [o50]; exact hg70.1)
    have rm : -9 ≤ (w_i (w_o w') 4).toInt ∧ (w_i (w_o w') 4).toInt ≤ 9 := by rw [xm]; exact m_wane_rng (m_clamp_rng _)
    have rl : 0 ≤ (w_i (w_o w') 5).toInt ∧ (w_i (w_o w') 5).toInt ≤ 999 := by
      rw [xl]; rw [o50] at hrr ⊢; rw [o60]
      unfold m_rain; omega
    have eh : (w_i (w_o w') 9).toInt = (w_i t0 11).toInt + 1 := by rw [xh, o90, t_add (by omega), tn1]
    have hc0 : (i : Int) < (w_i t0 5).toInt := by rw [← e40]; exact hc
    have hfk0 := hFK0.2 i hc
    have hw2 : ∀ j : Nat, j < 6 → 0 ≤ (w_a (w_o w') 1 j).toInt ∧ (w_a (w_o w') 1 j).toInt ≤ 9 ∧ ((w_i t0 5).toInt ≤ (j : Int) → (w_a (w_o w') 1 j).toInt = 0) := fun j hj => by
      rw [xw j, e40]
      have hq := hA10 j hj
      by_cases hc' : (j : Int) < (w_i t0 5).toInt
      · have := hw j (by rw [e40]; exact hc')
        rw [if_pos hc']
        by_cases e : j = i
        · rw [if_pos e]; omega
        · rw [if_neg e]; omega
      · rw [if_neg hc'] at hq
        rw [if_neg hc']; omega
    refine hp r w' ⟨hrr.1, hrr.2.1⟩ ⟨m_nx w' t0, h0.hour GF.nx x1 x2 x3 rfl rfl rfl rfl rfl rfl rm rl ?_ ?_ (fun j hj => ?_) (fun j hj => ?_), eh, GF.nx⟩ (fun t h {p2} hp2 => ?_)
    · show 0 ≤ (w_i (w_o w') 9).toInt ∧ (w_i (w_o w') 9).toInt ≤ 9999; omega
    · show (w_i (w_o w') 10).toInt = 9 ∨ _
      right
      show 0 ≤ (w_i (w_o w') 10).toInt ∧ (w_i (w_o w') 10).toInt < _
      rw [xla]; omega
    · have hj2 := hw2 j hj
      have e : (w_a (w_o w') 1 j).toInt = max 0 ((w_a (w_o w') 1 j + w_i (w_o w') 9).toInt - (w_i (w_o w') 9).toInt) := by rw [t_add (by omega)]; omega
      by_cases hcj : (j : Int) < (w_i t0 5).toInt
      · rw [if_pos hcj]; exact e
      · rw [if_neg hcj]; exact hj2.2.2 (by omega)
    · show 0 ≤ (w_a (w_o w') 1 j + w_i (w_o w') 9).toInt ∧ (w_a (w_o w') 1 j + w_i (w_o w') 9).toInt ≤ (w_i (w_o w') 9).toInt + 9
      have := hw2 j (by omega)
      rw [t_add (by omega)]
      omega
    obtain ⟨hRF, ⟨hA1, hA2⟩, ⟨o4, o5, o6, o7, o8, o9, o10, o3, o11⟩, ⟨hg6, hg7, hg8, hg11, hg12, hg14, hg15⟩, hRP⟩ := id h
    obtain ⟨hFK, e4, heq, hsym, hout⟩ := id hRF
    have h6 : 0 ≤ (w_i t 5).toInt ∧ (w_i t 5).toInt ≤ 6 := by rw [← e4]; exact hFK.1
    have hh : (w_i t 11).toInt ≤ 9998 := by rw [← o9, o90]; exact hh0
    rw [e4] at hc
    have hfree : (w_a t 4 i).toInt ≤ (w_i t 11).toInt := by
      have := hA1 i (by omega)
      rw [if_pos hc] at this
      omega
    obtain ⟨g0, g1, g2, g3⟩ := heq i hc
    have hfk := hFK.2 i (by rw [e4]; exact hc)
    rw [g0, g1, g2] at hfk
    unfold wpX6_goOn
    refine r_begin (fun t1 hb => ?_)
    obtain ⟨bF, b21, b22, b23, b24, b27⟩ := hb
    have B : ∀ k, k ∉ [21, 22, 23, 24] → w_i t1 k = w_i t k := bF.1
    have BA : ∀ k, k ∉ [27] → w_a t1 k = w_a t k := bF.2.1
    intro z1 e; subst z1
    refine r_tryOne (by rw [b21]; exact hg6) (by rw [b22]; exact hg7) (by rw [B 8 (by decide)]; exact hg8) (by rw [b24]; omega) (fun q => by exfalso; omega) (fun i' hi' _ q => by
        have : i' = i := by omega
        subst this
        rw [b23, b27 i' (by omega)] at q
        exfalso; omega) (fun i' hi' _ _ t2 hT => ?_) (Or.inr (by omega)) (fun i' hi' _ => by
        have : i' = i := by omega
        subst this
        rw [BA 1 (by decide)]; exact hfk.2.1)
    have : i' = i := by omega
    subst this
    obtain ⟨tF, tP, ts, tm, tl, th, ta, tw⟩ := hT
    intro z2 e; subst z2
    refine d1 (r_keep (fun t3 hK => ?_))
    obtain ⟨kF, k6, k7, k11, k12, ks, k4⟩ := hK
    intro z3 e; subst z3
    have F : GF t t3 := ((bF.tr tF).tr kF).up (by decide) (by decide)
    have T : ∀ k, k ∉ [21, 22, 23, 24, 25, 26] → w_i t2 k = w_i t1 k := tF.1
    have K : ∀ k, k ∉ [6, 7, 9, 10, 11, 12] → w_i t3 k = w_i t2 k := kF.1
    -- the pails
    have er : w_i t2 25 = r := by
      rw [t_eq]
      unfold TP at tP
      rw [b24, BA 3 (by decide), BA 0 (by decide), b21, b22] at tP
      unfold XP at xP
      rw [o10, o4, o5, g0, e4] at xP
      rcases tP with ⟨⟨q1, q2⟩, q3⟩ | ⟨q1, q3⟩ <;> rcases xP with ⟨⟨j, p1, p2', p3⟩, p4⟩ | ⟨p1, p4⟩
      · omega
      · exfalso
        obtain ⟨j, hj⟩ := nat_of (x := w_i t 12) (by omega)
        have hjc : (j : Int) < (w_i t 5).toInt := by omega
        have ej : (w_i t 12).toInt.toNat = j := by omega
        refine p1 j hj hjc ?_
        unfold m_foe
        rw [(heq j hjc).2.2.2, hsym j i' hjc hc, ← ej]; exact q2
      · exfalso
        have ej : (w_i t 12).toInt.toNat = j := by omega
        refine q1 ⟨by omega, ?_⟩
        unfold m_foe at p3
        rw [(heq j p2').2.2.2, hsym j i' p2' hc] at p3
        rw [ej]; exact p3
      · rw [q3, p4]
    rw [K 25 (by decide), er]
    have e11 : (w_i t3 11).toInt = (w_i t 11).toInt + 1 := by
      have n1 := tn1
      rw [k11, th, b23, t_add (by omega), tn1]
    have e5 : w_i t3 5 = w_i t 5 := F.1 5 (by decide)
    have a0 : w_a t3 0 = w_a t 0 := F.2.1 0 (by decide)
    have a1 : w_a t3 1 = w_a t 1 := F.2.1 1 (by decide)
    have a2 : w_a t3 2 = w_a t 2 := F.2.1 2 (by decide)
    have a3 : w_a t3 3 = w_a t 3 := F.2.1 3 (by decide)
    have hm6 : w_i (w_o w') 4 = w_i t3 6 := by
      rw [t_eq, xm, k6, tm, BA 0 (by decide), BA 1 (by decide), b21, o4, g0, g1]
    have hm7 : w_i (w_o w') 5 = w_i t3 7 := by
      rw [t_eq, xl, k7, tl, er, b22, o5, o6, B 8 (by decide)]
    have hs9 : w_i (w_o w') 7 = w_i t3 9 ∧ w_i (w_o w') 8 = w_i t3 10 := by
      rw [BA 0 (by decide), b21] at ts
      rw [g0, o4] at xs
      rw [T 9 (by decide), B 9 (by decide), T 10 (by decide), B 10 (by decide), er] at ks
      rcases ts with ⟨q1, q2⟩ | ⟨q1, q2⟩ <;> rcases xs with ⟨p1, p2', p3⟩ | ⟨p1, p2', p3⟩
      · rcases ks with ⟨c, c1', c2⟩ | ⟨c, c1', c2⟩
        · rw [q2] at c; exact absurd c (by decide)
        · exact ⟨by rw [p2', c1', o7], by rw [p3, c2, o8]⟩
      · exact absurd q1 p1
      · exact absurd p1 q1
      · rcases ks with ⟨c, c1', c2⟩ | ⟨c, c1', c2⟩
        · exact ⟨by rw [p2', c1', o7], by rw [p3, c2, o8]⟩
        · exact absurd q2 c
    have n1 := tn1
    have e4' : ∀ j : Nat, j < 6 → (w_a t3 4 j).toInt = if j = i' then (w_i t 11).toInt + (w_a t 2 i').toInt else (w_a t 4 j).toInt := fun j hj => by
      rw [k4 j hj, tw, g_u]
      by_cases e : j = i'
      · rw [if_pos e, if_pos e, b23, BA 2 (by decide), t_add (by omega)]
      · rw [if_neg e, if_neg e, b27 j hj]
    refine hp2 t3 (h.hour F x1 x2 x3 hm6 hm7 hs9.1 hs9.2 ?_ ?_ rm rl ?_ ?_ (fun j hj => ?_) (fun j hj => ?_)) F e11
    · rw [xh, k11, th, b23, o9]
    · rw [xla, k12, ta]
    · rw [e11]; omega
    · rw [k12, ta]; omega
    · rw [xw j, e4, e11]
      have hq := hA1 j hj
      by_cases hc' : (j : Int) < (w_i t 5).toInt
      · rw [if_pos hc', if_pos hc', e4' j hj]
        rw [if_pos hc'] at hq
        by_cases e : j = i'
        · subst e; rw [if_pos rfl, if_pos rfl, g2]; omega
        · rw [if_neg e, if_neg e, hq]; omega
      · rw [if_neg hc'] at hq
        rw [if_neg hc', if_neg hc']; exact hq
    · rw [e4' j (by omega), e11]
      have := hA2 j hj
      split <;> omega
  · -- nobody draws
    have h9 : one.toInt = 9 := by
      rcases ho0 with c | ⟨i, hi, hc, hf⟩
      · exact c
      · exact absurd hf (hno i hi hc)
    obtain ⟨x1, x2', x3, xm, xl, xh, xla, xw⟩ := hx
    have x2 : ∀ k, k ≠ 4 → k ≠ 5 → k ≠ 7 → k ≠ 8 → k ≠ 9 → k ≠ 10 → w_i (w_o w') k = w_i (w_o w) k := fun k a b _ _ c d => x2' k a b c d
    have x7 : w_i (w_o w') 7 = w_i (w_o w) 7 := x2' 7 (by decide) (by decide) (by decide) (by decide)
    have x8 : w_i (w_o w') 8 = w_i (w_o w) 8 := x2' 8 (by decide) (by decide) (by decide) (by decide)
    have rm : -9 ≤ (w_i (w_o w') 4).toInt ∧ (w_i (w_o w') 4).toInt ≤ 9 := by rw [xm, o40]; exact m_wane_rng hg60
    have rl : 0 ≤ (w_i (w_o w') 5).toInt ∧ (w_i (w_o w') 5).toInt ≤ 999 := by
      rw [xl, o50, o60]
      unfold m_rain; omega
    have eh : (w_i (w_o w') 9).toInt = (w_i t0 11).toInt + 1 := by rw [xh, o90, t_add (by omega), tn1]
    have hw2 : ∀ j : Nat, j < 6 → 0 ≤ (w_a (w_o w') 1 j).toInt ∧ (w_a (w_o w') 1 j).toInt ≤ 9 ∧ ((w_i t0 5).toInt ≤ (j : Int) → (w_a (w_o w') 1 j).toInt = 0) := fun j hj => by
      rw [xw j, e40]
      have hq := hA10 j hj
      by_cases hc' : (j : Int) < (w_i t0 5).toInt
      · have := hw j (by rw [e40]; exact hc')
        rw [if_pos hc']; omega
      · rw [if_neg hc'] at hq
        rw [if_neg hc']; omega
    refine hp 0 w' (by rw [tn0]; omega) ⟨m_nx w' t0, h0.hour GF.nx x1 x2 x3 rfl rfl rfl rfl rfl rfl rm rl ?_ ?_ (fun j hj => ?_) (fun j hj => ?_), eh, GF.nx⟩ (fun t h {p2} hp2 => ?_)
    · show 0 ≤ (w_i (w_o w') 9).toInt ∧ (w_i (w_o w') 9).toInt ≤ 9999; omega
    · show (w_i (w_o w') 10).toInt = 9 ∨ _
      left
      rw [xla]; exact tn9
    · have hj2 := hw2 j hj
      have e : (w_a (w_o w') 1 j).toInt = max 0 ((w_a (w_o w') 1 j + w_i (w_o w') 9).toInt - (w_i (w_o w') 9).toInt) := by rw [t_add (by omega)]; omega
      by_cases hcj : (j : Int) < (w_i t0 5).toInt
      · rw [if_pos hcj]; exact e
      · rw [if_neg hcj]; exact hj2.2.2 (by omega)
    · show 0 ≤ (w_a (w_o w') 1 j + w_i (w_o w') 9).toInt ∧ (w_a (w_o w') 1 j + w_i (w_o w') 9).toInt ≤ (w_i (w_o w') 9).toInt + 9
      have := hw2 j (by omega)
      rw [t_add (by omega)]
      omega
    obtain ⟨hRF, ⟨hA1, hA2⟩, ⟨o4, o5, o6, o7, o8, o9, o10, o3, o11⟩, ⟨hg6, hg7, hg8, hg11, hg12, hg14, hg15⟩, hRP⟩ := id h
    obtain ⟨hFK, e4, heq, hsym, hout⟩ := id hRF
    have h6 : 0 ≤ (w_i t 5).toInt ∧ (w_i t 5).toInt ≤ 6 := by rw [← e4]; exact hFK.1
    have hh : (w_i t 11).toInt ≤ 9998 := by rw [← o9, o90]; exact hh0
    unfold wpX6_goOn
    refine r_begin (fun t1 hb => ?_)
    obtain ⟨bF, b21, b22, b23, b24, b27⟩ := hb
    have B : ∀ k, k ∉ [21, 22, 23, 24] → w_i t1 k = w_i t k := bF.1
    have BA : ∀ k, k ∉ [27] → w_a t1 k = w_a t k := bF.2.1
    intro z1 e; subst z1
    refine r_tryOne (by rw [b21]; exact hg6) (by rw [b22]; exact hg7) (by rw [B 8 (by decide)]; exact hg8) (by rw [b24]; omega) (fun _ t2 hT => ?_) (fun i' hi' q _ => absurd h9 q) (fun i' hi' q _ t2 hT => absurd h9 q) (Or.inl h9) (fun i' hi' q => absurd h9 q)
    obtain ⟨tF, tm, tl, th, ta, tr, ts⟩ := hT
    intro z2 e; subst z2
    refine d1 (r_keep (fun t3 hK => ?_))
    obtain ⟨kF, k6, k7, k11, k12, ks, k4⟩ := hK
    intro z3 e; subst z3
    have F : GF t t3 := ((bF.tr tF).tr kF).up (by decide) (by decide)
    have T : ∀ k, k ∉ [21, 22, 23, 24, 25, 26] → w_i t2 k = w_i t1 k := tF.1
    have TA' : ∀ k, w_a t2 k = w_a t1 k := fun k => tF.2.1 k (by simp)
    have K : ∀ k, k ∉ [6, 7, 9, 10, 11, 12] → w_i t3 k = w_i t2 k := kF.1
    rw [K 25 (by decide), tr]
    have n1 := tn1
    have e11 : (w_i t3 11).toInt = (w_i t 11).toInt + 1 := by
      rw [k11, th, b23, t_add (by omega), tn1]
    have e5 : w_i t3 5 = w_i t 5 := F.1 5 (by decide)
    have a0 : w_a t3 0 = w_a t 0 := F.2.1 0 (by decide)
    have a1 : w_a t3 1 = w_a t 1 := F.2.1 1 (by decide)
    have a2 : w_a t3 2 = w_a t 2 := F.2.1 2 (by decide)
    have a3 : w_a t3 3 = w_a t 3 := F.2.1 3 (by decide)
    have hm6 : w_i (w_o w') 4 = w_i t3 6 := by
      rw [t_eq, xm, k6, tm, b21, o4]
    have hm7 : w_i (w_o w') 5 = w_i t3 7 := by
      rw [t_eq, xl, k7, tl, b22, o5, o6, B 8 (by decide)]
    have hs9 : w_i (w_o w') 7 = w_i t3 9 ∧ w_i (w_o w') 8 = w_i t3 10 := by
      rw [T 9 (by decide), B 9 (by decide), T 10 (by decide), B 10 (by decide), tr, i_add0] at ks
      rcases ks with ⟨c, c1', c2⟩ | ⟨c, c1', c2⟩
      · exact ⟨by rw [x7, c1', o7], by rw [x8, c2, o8]⟩
      · exact absurd ts c
    have e4' : ∀ j : Nat, j < 6 → w_a t3 4 j = w_a t 4 j := fun j hj => by
      rw [k4 j hj, TA', b27 j hj]
    refine hp2 t3 (h.hour F x1 x2 x3 hm6 hm7 hs9.1 hs9.2 ?_ ?_ rm rl ?_ ?_ (fun j hj => ?_) (fun j hj => ?_)) F e11
    · rw [xh, k11, th, b23, o9]
    · rw [xla, k12, ta, t_eq, h9, tn9]
    · rw [e11]; omega
    · rw [k12, ta]; omega
    · rw [xw j, e4, e11, e4' j hj]
      have hq := hA1 j hj
      by_cases hc' : (j : Int) < (w_i t 5).toInt
      · rw [if_pos hc', if_pos hc']
        rw [if_pos hc'] at hq
        rw [hq]; omega
      · rw [if_neg hc'] at hq
        rw [if_neg hc', if_neg hc']; exact hq
    · rw [e4' j (by omega), e11]
      have := hA2 j hj
      omega
