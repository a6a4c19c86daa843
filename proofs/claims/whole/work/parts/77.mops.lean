-- most, other, row
theorem REL.fs {x : wXS} {t t' : wSt} (h : REL x t) (hF : FS t t') : REL x t' := h.mf hF (by decide) (by decide)
theorem op_most {a : Int32} {x : wXS} {t : wSt} (h : REL x t) {post : Int32 → wXS → Prop} (hp : ∀ r x', (∀ {p2 : Int32 → wSt → Prop}, (∀ t', REL x' t' → p2 r t') → wpX6_most a t p2) → post r x') : wpX5_most a x post := by
  obtain ⟨o4, o5, o6, o7, o8, o9, o10, o3, o11⟩ := h.1.2.2.1
  have hG := h.1.2.2.2.1
  have n1 := tn1
  have n5 := tn5
  unfold wpX5_most wpX5_mostFrom
  refine q_within (fun h1 h2 => c1 (q_observe (fun z' hO => ?_))) (fun hn => c0 (hp _ _ (fun {p2} p2v => ?_)))
  · rw [n1] at h1; rw [n5] at h2
    obtain ⟨N, hN⟩ := nat_of (x := a) (by omega)
    have hZ := ZR.ob hO h.1
    rintro z1 rfl
    refine z_most (z := z') (t := t) hZ hN (by omega) (by show -9 ≤ (w_i (w_o (x_w x)) 4).toInt ∧ (w_i (w_o (x_w x)) 4).toInt ≤ 9; rw [o4]; exact hG.1) (fun r z2 hZ2 hr hrow => ?_)
    rintro z3 rfl
    rintro z4 rfl
    refine hp _ _ (fun {p2} p2v => ?_)
    unfold wpX6_most
    refine r_in (fun _ _ => c1 (r_best hZ hN (by omega) hG.1 (fun r' t' f1 hr' _ => ?_))) (fun hn => absurd (by rw [t_l, ln1, ln5]; omega) hn)
    intro u e9; subst u
    have e : r' = r := by
      rw [t_eq, hr', hr]
      show _ = (m_best t N (w_i (w_o (x_w x)) 4).toInt).1
      rw [o4]
    rw [e]
    exact p2v _ (h.fs f1)
  · rw [n1, n5] at hn
    unfold wpX6_most
    refine r_in (fun g1 g2 => absurd ?_ hn) (fun _ => c0 (p2v t h))
    rw [t_l, ln1] at g1; rw [t_l, ln5] at g2
    exact ⟨g1, g2⟩
theorem op_other {a : Int32} {x : wXS} {t : wSt} (h : REL x t) {post : Int32 → wXS → Prop} (hp : ∀ r x', (∀ {p2 : Int32 → wSt → Prop}, (∀ t', REL x' t' → p2 r t') → wpX6_other a t p2) → post r x') : wpX5_other a x post := by
  obtain ⟨o4, o5, o6, o7, o8, o9, o10, o3, o11⟩ := h.1.2.2.1
  have hG := h.1.2.2.2.1
  have n1 := tn1
  have n5 := tn5
  have hneg : -9 ≤ (-(w_i t 6)).toInt ∧ (-(w_i t 6)).toInt ≤ 9 := by
    have := hG.1
    rw [t_neg (by omega)]; omega
  unfold wpX5_other wpX5_mostFrom
  refine q_within (fun h1 h2 => c1 (q_observe (fun z' hO => ?_))) (fun hn => c0 (hp _ _ (fun {p2} p2v => ?_)))
  · rw [n1] at h1; rw [n5] at h2
    obtain ⟨N, hN⟩ := nat_of (x := a) (by omega)
    have hZ := ZR.ob hO h.1
    rintro z1 rfl
    refine z_most (z := z') (t := t) hZ hN (by omega) (by show -9 ≤ (-(w_i (w_o (x_w x)) 4)).toInt ∧ (-(w_i (w_o (x_w x)) 4)).toInt ≤ 9; rw [o4]; exact hneg) (fun r z2 hZ2 hr hrow => ?_)
    rintro z3 rfl
    rintro z4 rfl
    refine hp _ _ (fun {p2} p2v => ?_)
    unfold wpX6_other
    refine r_in (fun _ _ => c1 (r_best hZ hN (by omega) hneg (fun r' t' f1 hr' _ => ?_))) (fun hn => absurd (by rw [t_l, ln1, ln5]; omega) hn)
    intro u e9; subst u
    have e : r' = r := by
      rw [t_eq, hr', hr]
      show _ = (m_best t N (-(w_i (w_o (x_w x)) 4)).toInt).1
      rw [o4]
    rw [e]
    exact p2v _ (h.fs f1)
  · rw [n1, n5] at hn
    unfold wpX6_other
    refine r_in (fun g1 g2 => absurd ?_ hn) (fun _ => c0 (p2v t h))
    rw [t_l, ln1] at g1; rw [t_l, ln5] at g2
    exact ⟨g1, g2⟩
theorem op_row {a b : Int32} {x : wXS} {t : wSt} (h : REL x t) {post : Int32 → wXS → Prop} (hp : ∀ r x', (∀ {p2 : Int32 → wSt → Prop}, (∀ t', REL x' t' → p2 r t') → wpX6_row a b t p2) → post r x') : wpX5_row a b x post := by
  obtain ⟨o4, o5, o6, o7, o8, o9, o10, o3, o11⟩ := h.1.2.2.1
  have hG := h.1.2.2.2.1
  have n0 := tn0
  have n1 := tn1
  have n5 := tn5
  have bad : ¬ (1 ≤ a.toInt ∧ a.toInt ≤ 5 ∧ 0 ≤ b.toInt ∧ b.toInt ≤ a.toInt - 1) → post (-1) x := fun hn => hp _ _ (fun {p2} p2v => by
    unfold wpX6_row
    refine r_in (fun g1 g2 => c1 (r_in (fun g3 g4 => absurd ?_ hn) (fun _ => d0 (p2v t h)))) (fun _ => c0 (p2v t h))
    rw [t_l, ln1] at g1; rw [t_l, ln5] at g2; rw [t_l, ln0] at g3; rw [t_l, t_l, t_sub (by omega), n1] at g4
    exact ⟨g1, g2, g3, g4⟩)
  unfold wpX5_row wpX5_mostFrom
  refine q_within (fun h1 h2 => c1 (q_within (fun h3 h4 => d1 (q_observe (fun z' hO => ?_))) (fun hn => d0 (bad ?_)))) (fun hn => c0 (bad ?_))
  · rw [n1] at h1; rw [n5] at h2; rw [n0] at h3; rw [t_sub (by omega), n1] at h4
    obtain ⟨N, hN⟩ := nat_of (x := a) (by omega)
    obtain ⟨i, hi⟩ := nat_of h3
    have hZ := ZR.ob hO h.1
    have hin : vp_in b 5 := t_in (by omega)
    rintro z1 rfl
    refine z_most (z := z') (t := t) hZ hN (by omega) (by show -9 ≤ (w_i (w_o (x_w x)) 4).toInt ∧ (w_i (w_o (x_w x)) 4).toInt ≤ 9; rw [o4]; exact hG.1) (fun r z2 hZ2 hr hrow => ?_)
    rintro z3 rfl
    rintro z4 rfl
    refine ⟨hin, hp _ _ (fun {p2} p2v => ?_)⟩
    unfold wpX6_row
    refine r_in (fun _ _ => c1 (r_in (fun _ _ => d1 (r_best hZ hN (by omega) hG.1 (fun r' t' f1 hr' hrow' => ?_))) (fun hn => absurd (by rw [t_l, ln0, t_l, t_sub (by omega), n1]; omega) hn))) (fun hn => absurd (by rw [t_l, ln1, ln5]; omega) hn)
    intro u e9; subst u
    refine ⟨hin, ?_⟩
    have e : (w_a (w_o z2) 3) b.toNatClampNeg = (w_a t' 29) b.toNatClampNeg := by
      rw [t_cl hi, hrow i (by omega), hrow' i (by omega)]
      show enc (mP t) ((m_best t N (w_i (w_o (x_w x)) 4).toInt).2 i) = _
      rw [o4]
    rw [← e]
    exact p2v _ (h.fs f1)
  · rw [n1] at h1
    intro q
    rw [n0, t_sub (by omega), n1] at hn
    omega
  · rw [n1, n5] at hn
    omega
