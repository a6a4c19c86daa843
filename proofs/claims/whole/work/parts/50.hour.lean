/-- an hour on both sides -/
theorem both_hour {one : Int32} {w : wP2} {t : wSt} {post : Int32 → wP2 → Prop} (h : WR w t) (hh : (w_i t 11).toInt ≤ 9998) (ho : one.toInt = 9 ∨ ∃ i : Nat, one.toInt = (i : Int) ∧ (i : Int) < (w_i t 5).toInt ∧ (w_a t 4 i).toInt ≤ (w_i t 11).toInt)
    (hp : ∀ r w', (0 ≤ r.toInt ∧ r.toInt ≤ 9) → (∀ {p2 : Int32 → wSt → Prop}, (∀ t', WR w' t' → GF t t' → (w_i t' 11).toInt = (w_i t 11).toInt + 1 → p2 r t') → wpX6_goOn one t p2) → post r w') : wpX4_passHour one w post := by
  obtain ⟨hRF, ⟨hA1, hA2⟩, ⟨o4, o5, o6, o7, o8, o9, o10, o3, o11⟩, ⟨hg6, hg7, hg8, hg11, hg12, hg14, hg15⟩, hRP⟩ := id h
  obtain ⟨hFK, e4, heq, hsym, hout⟩ := id hRF
  have h6 : 0 ≤ (w_i t 5).toInt ∧ (w_i t 5).toInt ≤ 6 := by rw [← e4]; exact hFK.1
  have hw : ∀ j : Nat, (j : Int) < (w_i (w_f w) 4).toInt → 0 ≤ (w_a (w_o w) 1 j).toInt ∧ (w_a (w_o w) 1 j).toInt ≤ 9 := fun j hj => by
    rw [e4] at hj
    have := hA1 j (by omega)
    rw [if_pos hj] at this
    have := hA2 j hj
    omega
  refine q_passHour hFK (by rw [o4]; exact hg6) (by rw [o5]; exact hg7) (by rw [o6]; exact hg8) hw (fun i r w' hi hc hz hx => ?_) (fun w' hno hx => ?_)
  · -- one draws
    rw [e4] at hc
    obtain ⟨x1, x2, x3, xP, xs, xm, xl, xh, xla, xw⟩ := hx
    have hrr := xP.rng (by rw [o5]; exact hg7.1)
    refine hp r w' ⟨hrr.1, hrr.2.1⟩ (fun {p2} hp2 => ?_)
    have hfree : (w_a t 4 i).toInt ≤ (w_i t 11).toInt := by
      have := hA1 i (by omega)
      rw [if_pos hc] at this
      omega
    obtain ⟨g0, g1, g2, g3⟩ := heq i hc
    have hfk := hFK.2 i (by rw [e4]; exact hc)
    rw [g0, g1, g2] at hfk
    unfold wpX6_goOn
    refine r_begin (fun t1 hb => ?_)
    obtain ⟨bF, b21, b22, b23, b24, b27⟩ := hb
    have B : ∀ k, k ∉ [21, 22, 23, 24] → w_i t1 k = w_i t k := bF.1
    have BA : ∀ k, k ∉ [27] → w_a t1 k = w_a t k := bF.2.1
    rintro z1 rfl
    refine r_tryOne (by rw [b21]; exact hg6) (by rw [b22]; exact hg7) (by rw [B 8 (by decide)]; exact hg8) (by rw [b24]; omega) (fun q => by exfalso; omega) (fun i' hi' _ q => by
        have : i' = i := by omega
        subst this
        rw [b23, b27 i' (by omega)] at q
        exfalso; omega) (fun i' hi' _ _ t2 hT => ?_) (Or.inr (by omega)) (fun i' hi' _ => by
        have : i' = i := by omega
        subst this
        rw [BA 1 (by decide)]; exact hfk.2.1)
    have : i' = i := by omega
    subst this
    obtain ⟨tF, tP, ts, tm, tl, th, ta, tw⟩ := hT
    rintro z2 rfl
    refine d1 (r_keep (fun t3 hK => ?_))
    obtain ⟨kF, k6, k7, k11, k12, ks, k4⟩ := hK
    rintro z3 rfl
    have F : GF t t3 := ((bF.tr tF).tr kF).up (by decide) (by decide)
    have T : ∀ k, k ∉ [21, 22, 23, 24, 25, 26] → w_i t2 k = w_i t1 k := tF.1
    have K : ∀ k, k ∉ [6, 7, 9, 10, 11, 12] → w_i t3 k = w_i t2 k := kF.1
    -- the pails
    have er : w_i t2 25 = r := by
      rw [t_eq]
      unfold TP at tP
      rw [b24, BA 3 (by decide), BA 0 (by decide), b21, b22] at tP
      unfold XP at xP
      rw [o10, o4, o5, g0, e4] at xP
      rcases tP with ⟨⟨q1, q2⟩, q3⟩ | ⟨q1, q3⟩ <;> rcases xP with ⟨⟨j, p1, p2', p3⟩, p4⟩ | ⟨p1, p4⟩
      · omega
      · exfalso
        obtain ⟨j, hj⟩ := nat_of (x := w_i t 12) (by omega)
        have hjc : (j : Int) < (w_i t 5).toInt := by omega
        have ej : (w_i t 12).toInt.toNat = j := by omega
        refine p1 j hj hjc ?_
        unfold m_foe
        rw [(heq j hjc).2.2.2, hsym j i' hjc hc, ← ej]; exact q2
      · exfalso
        have ej : (w_i t 12).toInt.toNat = j := by omega
        refine q1 ⟨by omega, ?_⟩
        unfold m_foe at p3
        rw [(heq j p2').2.2.2, hsym j i' p2' hc] at p3
        rw [ej]; exact p3
      · rw [q3, p4]
    rw [K 25 (by decide), er]
    have e11 : (w_i t3 11).toInt = (w_i t 11).toInt + 1 := by
      have n1 := tn1
      rw [k11, th, b23, t_add (by omega), tn1]
    have e5 : w_i t3 5 = w_i t 5 := F.1 5 (by decide)
    have a0 : w_a t3 0 = w_a t 0 := F.2.1 0 (by decide)
    have a1 : w_a t3 1 = w_a t 1 := F.2.1 1 (by decide)
    have a2 : w_a t3 2 = w_a t 2 := F.2.1 2 (by decide)
    have a3 : w_a t3 3 = w_a t 3 := F.2.1 3 (by decide)
    have hm6 : w_i (w_o w') 4 = w_i t3 6 := by
      rw [t_eq, xm, k6, tm, BA 0 (by decide), BA 1 (by decide), b21, o4, g0, g1]
    have hm7 : w_i (w_o w') 5 = w_i t3 7 := by
      rw [t_eq, xl, k7, tl, er, b22, o5, o6, B 8 (by decide)]
    have hs9 : w_i (w_o w') 7 = w_i t3 9 ∧ w_i (w_o w') 8 = w_i t3 10 := by
      rw [BA 0 (by decide), b21] at ts
      rw [g0, o4] at xs
      rw [T 9 (by decide), B 9 (by decide), T 10 (by decide), B 10 (by decide), er] at ks
      rcases ts with ⟨q1, q2⟩ | ⟨q1, q2⟩ <;> rcases xs with ⟨p1, p2', p3⟩ | ⟨p1, p2', p3⟩
      · rcases ks with ⟨c, c1', c2⟩ | ⟨c, c1', c2⟩
        · rw [q2] at c; exact absurd c (by decide)
        · exact ⟨by rw [p2', c1', o7], by rw [p3, c2, o8]⟩
      · exact absurd q1 p1
      · exact absurd p1 q1
      · rcases ks with ⟨c, c1', c2⟩ | ⟨c, c1', c2⟩
        · exact ⟨by rw [p2', c1', o7], by rw [p3, c2, o8]⟩
        · exact absurd q2 c
    have n1 := tn1
    have e4' : ∀ j : Nat, j < 6 → (w_a t3 4 j).toInt = if j = i' then (w_i t 11).toInt + (w_a t 2 i').toInt else (w_a t 4 j).toInt := fun j hj => by
      rw [k4 j hj, tw, g_u]
      by_cases e : j = i'
      · rw [if_pos e, if_pos e, b23, BA 2 (by decide), t_add (by omega)]
      · rw [if_neg e, if_neg e, b27 j hj]
    refine hp2 t3 ⟨?_, ⟨fun j hj => ?_, fun j hj => ?_⟩, ⟨hm6, hm7, ?_, hs9.1, hs9.2, ?_, ?_, ?_, ?_⟩, ⟨?_, ?_, ?_, ?_, ?_, ?_, ?_⟩, fun j hj => ?_⟩ F e11
    · rw [x1]; exact hRF.eq e5 a0 a1 a2 a3
    · rw [xw j, e4, e5, e11]
      have hq := hA1 j hj
      by_cases hc' : (j : Int) < (w_i t 5).toInt
      · rw [if_pos hc', if_pos hc', e4' j hj, o9]
        rw [if_pos hc'] at hq
        by_cases e : j = i'
        · subst e; rw [if_pos rfl, if_pos rfl, g2]; omega
        · rw [if_neg e, if_neg e, hq]; omega
      · rw [if_neg hc'] at hq
        rw [if_neg hc', if_neg hc']; exact hq
    · rw [e5] at hj
      rw [e4' j (by omega), e11]
      have := hA2 j hj
      split <;> omega
    · rw [x2 6 (by decide) (by decide) (by decide) (by decide) (by decide) (by decide), o6]; exact (F.1 8 (by decide)).symm
    · rw [xh, k11, th, b23, o9]
    · rw [xla, k12, ta]
    · rw [x2 3 (by decide) (by decide) (by decide) (by decide) (by decide) (by decide), o3]; exact (F.1 14 (by decide)).symm
    · rw [x2 11 (by decide) (by decide) (by decide) (by decide) (by decide) (by decide), o11]; exact (F.1 15 (by decide)).symm
    · rw [← hm6, xm]; exact m_wane_rng (m_clamp_rng _)
    · rw [← hm7, xl, o5, o6]
      rw [o5] at hrr
      unfold m_rain; omega
    · rw [F.1 8 (by decide)]; exact hg8
    · rw [e11]; omega
    · rw [k12, ta, e5]; omega
    · rw [F.1 14 (by decide)]; exact hg14
    · rw [F.1 15 (by decide)]; exact hg15
    · rw [F.1 14 (by decide)] at hj
      rw [x3 2 (by decide), F.2.1 13 (by decide), e5]
      exact hRP j hj
  · -- nobody draws
    have h9 : one.toInt = 9 := by
      rcases ho with c | ⟨i, hi, hc, hf⟩
      · exact c
      · exfalso
        refine hno i hi (by rw [e4]; exact hc) ?_
        have := hA1 i (by omega)
        rw [if_pos hc] at this
        omega
    obtain ⟨x1, x2, x3, xm, xl, xh, xla, xw⟩ := hx
    refine hp 0 w' (by rw [tn0]; omega) (fun {p2} hp2 => ?_)
    unfold wpX6_goOn
    refine r_begin (fun t1 hb => ?_)
    obtain ⟨bF, b21, b22, b23, b24, b27⟩ := hb
    have B : ∀ k, k ∉ [21, 22, 23, 24] → w_i t1 k = w_i t k := bF.1
    have BA : ∀ k, k ∉ [27] → w_a t1 k = w_a t k := bF.2.1
    rintro z1 rfl
    refine r_tryOne (by rw [b21]; exact hg6) (by rw [b22]; exact hg7) (by rw [B 8 (by decide)]; exact hg8) (by rw [b24]; omega) (fun _ t2 hT => ?_) (fun i' hi' q _ => absurd h9 q) (fun i' hi' q _ t2 hT => absurd h9 q) (Or.inl h9) (fun i' hi' q => absurd h9 q)
    obtain ⟨tF, tm, tl, th, ta, tr, ts⟩ := hT
    rintro z2 rfl
    refine d1 (r_keep (fun t3 hK => ?_))
    obtain ⟨kF, k6, k7, k11, k12, ks, k4⟩ := hK
    rintro z3 rfl
    have F : GF t t3 := ((bF.tr tF).tr kF).up (by decide) (by decide)
    have T : ∀ k, k ∉ [21, 22, 23, 24, 25, 26] → w_i t2 k = w_i t1 k := tF.1
    have TA' : ∀ k, w_a t2 k = w_a t1 k := fun k => tF.2.1 k (by simp)
    have K : ∀ k, k ∉ [6, 7, 9, 10, 11, 12] → w_i t3 k = w_i t2 k := kF.1
    rw [K 25 (by decide), tr]
    have n1 := tn1
    have e11 : (w_i t3 11).toInt = (w_i t 11).toInt + 1 := by
      rw [k11, th, b23, t_add (by omega), tn1]
    have e5 : w_i t3 5 = w_i t 5 := F.1 5 (by decide)
    have a0 : w_a t3 0 = w_a t 0 := F.2.1 0 (by decide)
    have a1 : w_a t3 1 = w_a t 1 := F.2.1 1 (by decide)
    have a2 : w_a t3 2 = w_a t 2 := F.2.1 2 (by decide)
    have a3 : w_a t3 3 = w_a t 3 := F.2.1 3 (by decide)
    have hm6 : w_i (w_o w') 4 = w_i t3 6 := by
      rw [t_eq, xm, k6, tm, b21, o4]
    have hm7 : w_i (w_o w') 5 = w_i t3 7 := by
      rw [t_eq, xl, k7, tl, b22, o5, o6, B 8 (by decide)]
    have hs9 : w_i (w_o w') 7 = w_i t3 9 ∧ w_i (w_o w') 8 = w_i t3 10 := by
      rw [T 9 (by decide), B 9 (by decide), T 10 (by decide), B 10 (by decide), tr, i_add0] at ks
      rcases ks with ⟨c, c1', c2⟩ | ⟨c, c1', c2⟩
      · exact ⟨by rw [x2 7 (by decide) (by decide) (by decide) (by decide), c1', o7], by rw [x2 8 (by decide) (by decide) (by decide) (by decide), c2, o8]⟩
      · exact absurd ts c
    have e4' : ∀ j : Nat, j < 6 → w_a t3 4 j = w_a t 4 j := fun j hj => by
      rw [k4 j hj, TA', b27 j hj]
    refine hp2 t3 ⟨?_, ⟨fun j hj => ?_, fun j hj => ?_⟩, ⟨hm6, hm7, ?_, hs9.1, hs9.2, ?_, ?_, ?_, ?_⟩, ⟨?_, ?_, ?_, ?_, ?_, ?_, ?_⟩, fun j hj => ?_⟩ F e11
    · rw [x1]; exact hRF.eq e5 a0 a1 a2 a3
    · rw [xw j, e4, e5, e11, e4' j hj]
      have hq := hA1 j hj
      by_cases hc' : (j : Int) < (w_i t 5).toInt
      · rw [if_pos hc', if_pos hc']
        rw [if_pos hc'] at hq
        rw [hq]; omega
      · rw [if_neg hc'] at hq
        rw [if_neg hc', if_neg hc']; exact hq
    · rw [e5] at hj
      rw [e4' j (by omega), e11]
      have := hA2 j hj
      omega
    · rw [x2 6 (by decide) (by decide) (by decide) (by decide), o6]; exact (F.1 8 (by decide)).symm
    · rw [xh, k11, th, b23, o9]
    · rw [xla, k12, ta, t_eq, h9, tn9]
    · rw [x2 3 (by decide) (by decide) (by decide) (by decide), o3]; exact (F.1 14 (by decide)).symm
    · rw [x2 11 (by decide) (by decide) (by decide) (by decide), o11]; exact (F.1 15 (by decide)).symm
    · rw [← hm6, xm, o4]; exact m_wane_rng hg6
    · rw [← hm7, xl, o5, o6]
      unfold m_rain; omega
    · rw [F.1 8 (by decide)]; exact hg8
    · rw [e11]; omega
    · rw [k12, ta, e5]; omega
    · rw [F.1 14 (by decide)]; exact hg14
    · rw [F.1 15 (by decide)]; exact hg15
    · rw [F.1 14 (by decide)] at hj
      rw [x3 2 (by decide), F.2.1 13 (by decide), e5]
      exact hRP j hj
