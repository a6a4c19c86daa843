theorem c1 {A B : Prop} (b : B) : ((1 : Int32) = 0 → A) ∧ (¬ (1 : Int32) = 0 → B) := ⟨fun h => absurd h (by decide), fun _ => b⟩
theorem c0 {A B : Prop} (a : A) : ((0 : Int32) = 0 → A) ∧ (¬ (0 : Int32) = 0 → B) := ⟨fun _ => a, fun h => absurd rfl h⟩
theorem d1 {A B : Prop} (b : B) : (¬ (1 : Int32) = 0 → B) ∧ ((1 : Int32) = 0 → A) := ⟨fun _ => b, fun h => absurd h (by decide)⟩
theorem d0 {A B : Prop} (a : A) : (¬ (0 : Int32) = 0 → B) ∧ ((0 : Int32) = 0 → A) := ⟨fun h => absurd rfl h, fun _ => a⟩
theorem lnm9 : (-9 : Int64).toInt = -9 := by decide
theorem lnm3 : (-3 : Int64).toInt = -3 := by decide
theorem ln2 : (2 : Int64).toInt = 2 := by decide
theorem ln3 : (3 : Int64).toInt = 3 := by decide
theorem ln4 : (4 : Int64).toInt = 4 := by decide
theorem ln5 : (5 : Int64).toInt = 5 := by decide
theorem ln8 : (8 : Int64).toInt = 8 := by decide
theorem ln9 : (9 : Int64).toInt = 9 := by decide
theorem ln60 : (60 : Int64).toInt = 60 := by decide
theorem ln99 : (99 : Int64).toInt = 99 := by decide
theorem ln999 : (999 : Int64).toInt = 999 := by decide
theorem q_within {x a b : Int32} {post : Int32 → Prop} (h1 : a.toInt ≤ x.toInt → x.toInt ≤ b.toInt → post 1) (h0 : ¬ (a.toInt ≤ x.toInt ∧ x.toInt ≤ b.toInt) → post 0) : wpX5_within x a b post := by
  unfold wpX5_within
  simp only [t_lt]
  exact ⟨fun c => h0 (by omega), fun c => ⟨fun d => h0 (by omega), fun d => h1 (by omega) (by omega)⟩⟩
theorem q_isMood {x : Int32} {post : Int32 → Prop} (h1 : -9 ≤ x.toInt → x.toInt ≤ 9 → post 1) (h0 : ¬ (-9 ≤ x.toInt ∧ x.toInt ≤ 9) → post 0) : wpX5_isMood x post := by
  unfold wpX5_isMood
  refine q_within ?_ ?_ <;> rw [tn9, tnm9]
  · exact fun a b => ⟨nz1, h1 a b⟩
  · exact fun a => ⟨nz0, h0 a⟩
theorem q_isPails {x : Int64} {post : Int32 → Prop} (h1 : 0 ≤ x.toInt → x.toInt ≤ 9 → post 1) (h0 : ¬ (0 ≤ x.toInt ∧ x.toInt ≤ 9) → post 0) : wpX5_isPails x post := by
  have := r_in (v := x) (a := 0) (b := 9) (post := post)
  rw [ln0, ln9] at this
  exact this h1 h0
theorem r_isMood {x : Int32} {post : Int32 → Prop} (h1 : -9 ≤ x.toInt → x.toInt ≤ 9 → post 1) (h0 : ¬ (-9 ≤ x.toInt ∧ x.toInt ≤ 9) → post 0) : wpX6_isMood x post := by
  unfold wpX6_isMood
  refine r_in ?_ ?_ <;> rw [t_l, lnm9, ln9]
  · exact fun a b => ⟨nz1, h1 a b⟩
  · exact fun a => ⟨nz0, h0 a⟩
/-- what of the relation is at hand all the time -/
theorem REL.fk {x : wXS} {t : wSt} (h : REL x t) : FK (w_f (x_w x)) := h.1.1.1
theorem REL.cnt {x : wXS} {t : wSt} (h : REL x t) : w_i (w_f (x_w x)) 4 = w_i t 5 := h.1.1.2.1
theorem REL.m6 {x : wXS} {t : wSt} (h : REL x t) : 0 ≤ (w_i t 5).toInt ∧ (w_i t 5).toInt ≤ 6 := by rw [← h.cnt]; exact h.fk.1
theorem nat_of {x : Int32} (h : 0 ≤ x.toInt) : ∃ i : Nat, x.toInt = (i : Int) := ⟨x.toInt.toNat, by omega⟩
-- told
theorem q_told {a b : Int32} {x : wXS} {post : Int32 → Prop} (hf : FK (w_f (x_w x))) (hk : ∀ (i : Nat) (v : Int32), a.toInt = (i : Int) → (i : Int) < (w_i (w_f (x_w x)) 4).toInt → ((b.toInt = 0 ∧ v = w_a (w_f (x_w x)) 0 i) ∨ (b.toInt = 1 ∧ v = w_a (w_f (x_w x)) 1 i) ∨ (b.toInt = 2 ∧ v = w_a (w_f (x_w x)) 2 i) ∨ (b.toInt = 3 ∧ v = w_a (w_o (x_w x)) 1 i) ∨ (b.toInt = 4 ∧ v = w_a (w_f (x_w x)) 3 i)) → post v) (h0 : ¬ (0 ≤ a.toInt ∧ a.toInt < (w_i (w_f (x_w x)) 4).toInt ∧ 0 ≤ b.toInt ∧ b.toInt ≤ 4) → post (-100001)) : wpX5_told a b x post := by
  unfold wpX5_told
  refine q_has (fun h1 h2 => d1 ?_) (fun hn => d0 (h0 (by omega)))
  obtain ⟨i, hi⟩ := nat_of h1
  have h6 := hf.1
  have hin : vp_in a 6 := t_in (by omega)
  simp only [t_cl hi, t_eq, tn0, tn1, tn2, tn3, tn4]
  exact ⟨fun c => h0 (by omega), fun c => ⟨hin, hk i _ hi (by omega) (Or.inl ⟨c, rfl⟩)⟩, fun c => ⟨hin, hk i _ hi (by omega) (Or.inr (Or.inl ⟨c, rfl⟩))⟩, fun c => ⟨hin, hk i _ hi (by omega) (Or.inr (Or.inr (Or.inl ⟨c, rfl⟩)))⟩, fun c => ⟨hin, hk i _ hi (by omega) (Or.inr (Or.inr (Or.inr (Or.inl ⟨c, rfl⟩))))⟩, fun c => ⟨hin, hk i _ hi (by omega) (Or.inr (Or.inr (Or.inr (Or.inr ⟨c, rfl⟩))))⟩⟩
theorem r_told {a b : Int32} {t : wSt} {post : Int32 → Prop} (hm : 0 ≤ (w_i t 5).toInt ∧ (w_i t 5).toInt ≤ 6) (hh : 0 ≤ (w_i t 11).toInt ∧ (w_i t 11).toInt ≤ 9999) (hfr : ∀ i : Nat, (i : Int) < (w_i t 5).toInt → 0 ≤ (w_a t 4 i).toInt ∧ (w_a t 4 i).toInt ≤ (w_i t 11).toInt + 9) (hk : ∀ (i : Nat) (v : Int32), a.toInt = (i : Int) → (i : Int) < (w_i t 5).toInt → ((b.toInt = 0 ∧ v = w_a t 0 i) ∨ (b.toInt = 1 ∧ v = w_a t 1 i) ∨ (b.toInt = 2 ∧ v = w_a t 2 i) ∨ (b.toInt = 3 ∧ v.toInt = max 0 ((w_a t 4 i).toInt - (w_i t 11).toInt)) ∨ (b.toInt = 4 ∧ v = w_a t 3 i)) → post v) (h0 : ¬ (0 ≤ a.toInt ∧ a.toInt < (w_i t 5).toInt ∧ 0 ≤ b.toInt ∧ b.toInt ≤ 4) → post (-100001)) : wpX6_told a b t post := by
  unfold wpX6_told
  refine r_isOne (by omega) (fun h1 h2 => c1 (r_in ?_ ?_)) (fun hn => c0 (h0 (by omega))) <;> rw [t_l, ln0, ln4]
  · intro b1 b2
    refine d1 ?_
    obtain ⟨i, hi⟩ := nat_of h1
    have hin : vp_in a 6 := t_in (by omega)
    have hf := hfr i (by omega)
    have key : ∀ r : Int32, r.toInt = max 0 ((w_a t 4 i).toInt - (w_i t 11).toInt) → wpX6_told_51 t post a b r := by
      intro r hr
      unfold wpX6_told_51
      simp only [t_cl hi, t_eq, tn0, tn1, tn2, tn3]
      exact ⟨fun k0 => ⟨fun k1 => ⟨fun k2 => ⟨fun k3 => ⟨hin, hk i _ hi (by omega) (Or.inr (Or.inr (Or.inr (Or.inr ⟨by omega, rfl⟩))))⟩, fun k3 => hk i _ hi (by omega) (Or.inr (Or.inr (Or.inr (Or.inl ⟨k3, hr⟩))))⟩, fun k2 => ⟨hin, hk i _ hi (by omega) (Or.inr (Or.inr (Or.inl ⟨k2, rfl⟩)))⟩⟩, fun k1 => ⟨hin, hk i _ hi (by omega) (Or.inr (Or.inl ⟨k1, rfl⟩))⟩⟩, fun k0 => ⟨hin, hk i _ hi (by omega) (Or.inl ⟨k0, rfl⟩)⟩⟩
    rw [t_cl hi, t_le]
    refine ⟨hin, fun c => key _ ?_, fun c => ⟨hin, key _ ?_⟩⟩
    · rw [tn0]; omega
    · rw [t_sub (by omega)]; omega
  · exact fun hn => d0 (h0 (by omega))
theorem op_told {a b : Int32} {x : wXS} {t : wSt} (h : REL x t) {post : Int32 → Prop} (hp : ∀ r, (∀ {p2 : Int32 → Prop}, p2 r → wpX6_told a b t p2) → post r) : wpX5_told a b x post := by
  obtain ⟨⟨⟨hFK, e4, heq, -, -⟩, ⟨hw1, hw2⟩, hRO, hRG, hRP⟩, -⟩ := id h
  have hm := h.m6
  refine q_told hFK (fun i v hi hc hv => hp v (fun {p2} p2v => r_told hm hRG.2.2.2.1 hw2 (fun i' v' hi' hc' hv' => ?_) (fun hn => absurd ⟨by omega, by rw [← e4]; omega, by omega⟩ hn))) (fun hn => hp _ (fun {p2} p2v => r_told hm hRG.2.2.2.1 hw2 (fun i' v' hi' hc' hv' => absurd ⟨by omega, by rw [e4]; omega, by omega⟩ hn) (fun _ => p2v)))
  have ei : i' = i := by omega
  subst ei
  obtain ⟨g0, g1, g2, g3⟩ := heq i' hc'
  have ew := hw1 i' (by omega)
  rw [if_pos hc'] at ew
  have e : v' = v := by
    rcases hv with ⟨hb, rfl⟩ | ⟨hb, rfl⟩ | ⟨hb, rfl⟩ | ⟨hb, rfl⟩ | ⟨hb, rfl⟩ <;> rcases hv' with ⟨hb', hv'⟩ | ⟨hb', hv'⟩ | ⟨hb', hv'⟩ | ⟨hb', hv'⟩ | ⟨hb', hv'⟩ <;> first | (exfalso; omega) | (rw [hv', g0]) | (rw [hv', g1]) | (rw [hv', g2]) | (rw [hv', g3]) | (rw [t_eq, hv', ew])
  rw [e]; exact p2v
-- is
theorem op_is {a : Int32} {x : wXS} {t : wSt} (h : REL x t) {post : Int32 → Prop} (hp : ∀ r, (∀ {p2 : Int32 → Prop}, p2 r → wpX6_is a t p2) → post r) : wpX5_is a x post := by
  obtain ⟨⟨⟨hFK, e4, heq, -, -⟩, -, ⟨o4, o5, o6, o7, o8, o9, o10, o3, o11⟩, -⟩, -⟩ := id h
  unfold wpX5_is
  rw [o4, o5, o6, o7, o8, o9, o10, o3, e4]
  have key : ∀ r, (∀ {p2 : Int32 → Prop}, p2 r → wpX6_is a t p2) → post r := hp
  unfold wpX6_is at key
  simp only [t_eq, tn0, tn1, tn2, tn3, tn4, tn5, tn6, tn7, tn8] at key ⊢
  refine ⟨fun c => key _ (fun p2v => ?_), fun c => key _ (fun p2v => ?_), fun c => key _ (fun p2v => ?_), fun c => key _ (fun p2v => ?_), fun c => key _ (fun p2v => ?_), fun c => key _ (fun p2v => ?_), fun c => key _ (fun p2v => ?_), fun c => key _ (fun p2v => ?_), fun c => key _ (fun p2v => ?_), fun c => key _ (fun p2v => ?_)⟩ <;> (refine ⟨fun d => ?_, fun d => ?_, fun d => ?_, fun d => ?_, fun d => ?_, fun d => ?_, fun d => ?_, fun d => ?_, fun d => ?_, fun d => ?_⟩ <;> first | exact p2v | (exfalso; omega))
-- gives
def m_gives (k m l : Int) : Int := min l (m_pails k m)
theorem m_pails_rng (k m : Int) : 0 ≤ m_pails k m ∧ m_pails k m ≤ 9 := by unfold m_pails; omega
theorem q_givesAt {a b : Int32} {w : wP2} {post : Int32 → Prop} (hf : FK (w_f w)) (hl : 0 ≤ (w_i (w_o w) 5).toInt ∧ (w_i (w_o w) 5).toInt ≤ 999) {i : Nat} (hi : a.toInt = (i : Int)) (hc : (i : Int) < (w_i (w_f w) 4).toInt) (hb : -9 ≤ b.toInt ∧ b.toInt ≤ 9) (h1 : ∀ r : Int32, m_swt (w_a (w_f w) 0 i).toInt b.toInt → r.toInt = m_gives (w_a (w_f w) 0 i).toInt b.toInt (w_i (w_o w) 5).toInt → post r) (h0 : ∀ r : Int32, ¬ m_swt (w_a (w_f w) 0 i).toInt b.toInt → r.toInt = m_gives (w_a (w_f w) 0 i).toInt b.toInt (w_i (w_o w) 5).toInt + 10 → post r) : wpX4_givesAt a b w post := by
  unfold wpX4_givesAt
  have n10 := tn10
  refine q_pailsAt hf hi hc (by omega) (fun r hr => q_isSweet hf hi hc (fun s => c1 (h1 _ s ?_)) (fun s => c0 (h0 _ s ?_)))
  · simp only [t_ite, t_lt]; unfold m_gives; rw [hr]; omega
  · have hg := m_pails_rng (w_a (w_f w) 0 i).toInt b.toInt
    rw [t_add (by simp only [t_ite, t_lt]; omega)]; simp only [t_ite, t_lt]; unfold m_gives; rw [hr]; omega
theorem r_givesOf {a b : Int32} {t : wSt} {post : Int32 → Prop} (hl : 0 ≤ (w_i t 7).toInt ∧ (w_i t 7).toInt ≤ 999) {i : Nat} (hi : a.toInt = (i : Int)) (hc : i < 6) (hb : -9 ≤ b.toInt ∧ b.toInt ≤ 9) (h1 : ∀ r : Int32, m_swt (w_a t 0 i).toInt b.toInt → r.toInt = m_gives (w_a t 0 i).toInt b.toInt (w_i t 7).toInt → post r) (h0 : ∀ r : Int32, ¬ m_swt (w_a t 0 i).toInt b.toInt → r.toInt = m_gives (w_a t 0 i).toInt b.toInt (w_i t 7).toInt + 10 → post r) : wpX6_givesOf a b t post := by
  have hin : vp_in a 6 := t_in (by omega)
  have n10 := tn10
  have n0 := tn0
  have hg := m_pails_rng (w_a t 0 i).toInt b.toInt
  unfold wpX6_givesOf wpX6_givesOf_27 wpX6_givesOf_46
  rw [t_cl hi]
  refine ⟨hin, r_pailsOf (by omega) (fun r hr => ?_)⟩
  rw [t_le]
  refine ⟨fun c => ⟨hin, r_isSweet (fun s => c1 (h1 _ s ?_)) (fun s => c0 (h0 _ s ?_))⟩, fun c => ⟨hin, r_isSweet (fun s => c1 (h1 _ s ?_)) (fun s => c0 (h0 _ s ?_))⟩⟩ <;> rw [t_add (by omega)] <;> unfold m_gives <;> omega
theorem op_gives {a b : Int32} {x : wXS} {t : wSt} (h : REL x t) {post : Int32 → Prop} (hp : ∀ r, (∀ {p2 : Int32 → Prop}, p2 r → wpX6_gives a b t p2) → post r) : wpX5_gives a b x post := by
  obtain ⟨⟨⟨hFK, e4, heq, -, -⟩, -, ⟨o4, o5, o6, o7, o8, o9, o10, o3, o11⟩, hRG, -⟩, -⟩ := id h
  have hm := h.m6
  have bad : ¬ ((0 ≤ a.toInt ∧ a.toInt < (w_i t 5).toInt) ∧ -9 ≤ b.toInt ∧ b.toInt ≤ 9) → post (-1) := fun hn => hp _ (fun {p2} p2v => by
    unfold wpX6_gives
    exact r_isOne (by omega) (fun h1 h2 => c1 (r_isMood (fun h3 h4 => absurd ⟨⟨h1, h2⟩, h3, h4⟩ hn) (fun _ => c0 p2v))) (fun _ => c0 p2v))
  unfold wpX5_gives
  refine q_has (fun h1 h2 => c1 (q_isMood (fun h3 h4 => d1 ?_) (fun hn => d0 (bad (by omega))))) (fun hn => c0 (bad (by rw [e4] at hn; omega)))
  obtain ⟨i, hi⟩ := nat_of h1
  have hc : (i : Int) < (w_i t 5).toInt := by rw [← e4]; omega
  obtain ⟨g0, g1, g2, g3⟩ := heq i hc
  refine q_givesAt hFK (by rw [o5]; exact hRG.2.1) hi (by omega) ⟨h3, h4⟩ (fun r s hr => hp r (fun {p2} p2v => ?_)) (fun r s hr => hp r (fun {p2} p2v => ?_)) <;> rw [g0] at s <;> rw [g0, o5] at hr <;> unfold wpX6_gives
  · refine r_isOne (by omega) (fun _ _ => c1 (r_isMood (fun _ _ => c1 (r_givesOf hRG.2.1 hi (by omega) ⟨h3, h4⟩ (fun r' s' hr' => ?_) (fun r' s' hr' => absurd s s'))) (fun hn => absurd ⟨h3, h4⟩ hn))) (fun hn => absurd ⟨by omega, by omega⟩ hn)
    rw [t_eq.mpr (hr'.trans hr.symm)]; exact p2v
  · refine r_isOne (by omega) (fun _ _ => c1 (r_isMood (fun _ _ => c1 (r_givesOf hRG.2.1 hi (by omega) ⟨h3, h4⟩ (fun r' s' hr' => absurd s' s) (fun r' s' hr' => ?_))) (fun hn => absurd ⟨h3, h4⟩ hn))) (fun hn => absurd ⟨by omega, by omega⟩ hn)
    rw [t_eq.mpr (hr'.trans hr.symm)]; exact p2v
