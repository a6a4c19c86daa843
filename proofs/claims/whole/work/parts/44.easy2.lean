-- set, seed
theorem WR.set {w : wP2} {t o' : wSt} {m l r : Int32} (h : WR w t) (hm : -9 ≤ m.toInt ∧ m.toInt ≤ 9) (hl : 0 ≤ l.toInt ∧ l.toInt ≤ 999) (hr : 0 ≤ r.toInt ∧ r.toInt ≤ 9) (e4 : w_i o' 4 = m) (e5 : w_i o' 5 = l) (e6 : w_i o' 6 = r) (eo : ∀ k, k ≠ 4 → k ≠ 5 → k ≠ 6 → w_i o' k = w_i (w_o w) k) (ea : ∀ k, w_a o' k = w_a (w_o w) k) : WR (w_so w o') (w_si (w_si (w_si t 6 m) 7 l) 8 r) := by
  obtain ⟨hF, hA, ⟨p4, p5, p6, p7, p8, p9, p10, p3, p11⟩, ⟨q1, q2, q3, q4⟩, hP⟩ := h
  refine ⟨hF, ?_, ⟨e4, e5, e6, ?_, ?_, ?_, ?_, ?_, ?_⟩, ⟨hm, hl, hr, q4⟩, ?_⟩
  · have hA' := hA
    unfold RA at hA' ⊢
    rw [g_oo, ea]
    exact hA'
  · exact (eo 7 (by decide) (by decide) (by decide)).trans p7
  · exact (eo 8 (by decide) (by decide) (by decide)).trans p8
  · exact (eo 9 (by decide) (by decide) (by decide)).trans p9
  · exact (eo 10 (by decide) (by decide) (by decide)).trans p10
  · exact (eo 3 (by decide) (by decide) (by decide)).trans p3
  · exact (eo 11 (by decide) (by decide) (by decide)).trans p11
  · have hP' := hP
    unfold RP at hP' ⊢
    rw [g_oo, ea]
    exact hP'
theorem r_set {a b : Int32} {t : wSt} {post : Int32 → wSt → Prop} (hk : ∀ (v m l r : Int32), ((a.toInt = 0 ∧ (-9 ≤ b.toInt ∧ b.toInt ≤ 9) ∧ v = w_i t 6 ∧ m = b ∧ l = w_i t 7 ∧ r = w_i t 8) ∨ (a.toInt = 1 ∧ (0 ≤ b.toInt ∧ b.toInt ≤ 999) ∧ v = w_i t 7 ∧ m = w_i t 6 ∧ l = b ∧ r = w_i t 8) ∨ (a.toInt = 2 ∧ (0 ≤ b.toInt ∧ b.toInt ≤ 9) ∧ v = w_i t 8 ∧ m = w_i t 6 ∧ l = w_i t 7 ∧ r = b)) → post v (w_si (w_si (w_si t 6 m) 7 l) 8 r)) (h0 : ¬ ((a.toInt = 0 ∧ -9 ≤ b.toInt ∧ b.toInt ≤ 9) ∨ (a.toInt = 1 ∧ 0 ≤ b.toInt ∧ b.toInt ≤ 999) ∨ (a.toInt = 2 ∧ 0 ≤ b.toInt ∧ b.toInt ≤ 9)) → post (-100001) t) : wpX6_set a b t post := by
  unfold wpX6_set
  have k52 : ((a.toInt = 0 ∧ -9 ≤ b.toInt ∧ b.toInt ≤ 9) ∨ (a.toInt = 1 ∧ 0 ≤ b.toInt ∧ b.toInt ≤ 999) ∨ (a.toInt = 2 ∧ 0 ≤ b.toInt ∧ b.toInt ≤ 9)) → wpX6_set_52 post a b t := by
    intro hv
    unfold wpX6_set_52 wpX6_set_79 wpX6_set_93 wpX6_set_110 wpX6_set_127
    simp only [t_eq, tn0, tn1, tn2]
    refine ⟨fun a0 => ⟨fun a1 => ⟨fun _ => ?_, fun c => absurd c a0⟩, fun a1 => ⟨fun _ => ?_, fun c => absurd c a0⟩⟩, fun a0 => ⟨fun c => absurd a0 c, fun _ => ?_⟩⟩
    · rintro z1 rfl
      refine ⟨fun _ => ?_, fun c => absurd c a1⟩
      rintro z2 rfl
      refine ⟨fun c => ?_, fun c => ?_⟩
      · exfalso; omega
      · rintro z3 rfl
        exact hk _ _ _ _ (Or.inr (Or.inr ⟨c, by omega, rfl, rfl, rfl, rfl⟩))
    · rintro z1 rfl
      refine ⟨fun c => absurd a1 c, fun _ => ?_⟩
      rintro z2 rfl
      refine ⟨fun c => ?_, fun c => ?_⟩
      · rintro z3 rfl
        exact hk _ _ _ _ (Or.inr (Or.inl ⟨a1, by omega, rfl, rfl, rfl, rfl⟩))
      · exfalso; omega
    · rintro z1 rfl
      refine ⟨fun _ => ?_, fun c => ?_⟩
      · rintro z2 rfl
        refine ⟨fun c => ?_, fun c => ?_⟩
        · rintro z3 rfl
          exact hk _ _ _ _ (Or.inl ⟨a0, by omega, rfl, rfl, rfl, rfl⟩)
        · exfalso; omega
      · exfalso; omega
  refine r_in (fun h1 h2 => c1 ?_) (fun hn => c0 (h0 ?_)) <;> rw [t_l, ln0, ln2] at *
  · simp only [t_eq, tn0, tn1]
    refine ⟨fun a0 => ⟨fun a1 => ?_, fun a1 => ?_⟩, fun a0 => r_isMood (fun b1 b2 => ⟨fun c => absurd c (by decide), fun _ => k52 (by omega)⟩) (fun hn => ⟨fun _ => h0 (by omega), fun c => absurd rfl c⟩)⟩
    · unfold wpX6_set_43
      refine r_in (fun b1 b2 => d1 (k52 ?_)) (fun hn => d0 (h0 ?_)) <;> rw [t_l, ln0, ln9] at * <;> omega
    · unfold wpX6_set_43
      refine r_in (fun b1 b2 => d1 (k52 ?_)) (fun hn => d0 (h0 ?_)) <;> rw [t_l, ln0, ln999] at * <;> omega
  · omega
theorem op_set {a b : Int32} {x : wXS} {t : wSt} (h : REL x t) {post : Int32 → wXS → Prop} (hp : ∀ r x', (∀ {p2 : Int32 → wSt → Prop}, (∀ t', REL x' t' → p2 r t') → wpX6_set a b t p2) → post r x') : wpX5_set a b x post := by
  obtain ⟨o4, o5, o6, o7, o8, o9, o10, o3, o11⟩ := h.1.2.2.1
  have hRG := h.1.2.2.2.1
  have bad : ¬ ((a.toInt = 0 ∧ -9 ≤ b.toInt ∧ b.toInt ≤ 9) ∨ (a.toInt = 1 ∧ 0 ≤ b.toInt ∧ b.toInt ≤ 999) ∨ (a.toInt = 2 ∧ 0 ≤ b.toInt ∧ b.toInt ≤ 9)) → post (-100001) x := fun hn => hp _ _ (fun {p2} p2v => r_set (fun v m l r hv => absurd (by omega) hn) (fun _ => p2v t h))
  unfold wpX5_set wpX5_set_33 wpX5_set_68
  simp only [t_eq, tn0, tn1, tn2]
  have k2 : ¬ a.toInt = 0 → ¬ a.toInt = 1 → ((¬ a.toInt = 2 → post (-100001) x) ∧ (a.toInt = 2 → wpX5_within b 0 9 (fun r1 => (r1.toInt = 0 → post (-100001) x) ∧ (¬ r1.toInt = 0 → ∀ z1 : wXS, z1 = x_sw x (w_so (x_w x) (w_si (w_o (x_w x)) 6 b)) → post (w_i (w_o (x_w x)) 6) z1)))) := by
    intro a0 a1
    refine ⟨fun a2 => bad (by omega), fun a2 => q_within (fun b1 b2 => ⟨fun c => absurd c (by decide), fun _ => ?_⟩) (fun hn => ⟨fun _ => bad (by rw [tn0, tn9] at hn; omega), fun c => absurd rfl c⟩)⟩
    rintro z1 rfl
    rw [tn0] at b1; rw [tn9] at b2
    rw [o6]
    refine hp _ _ (fun {p2} p2v => r_set (fun v m l r hv => ?_) (fun hn => absurd (Or.inr (Or.inr ⟨a2, b1, b2⟩)) hn))
    rcases hv with ⟨e0, -⟩ | ⟨e0, -⟩ | ⟨e0, e1, rfl, rfl, rfl, rfl⟩
    · exfalso; omega
    · exfalso; omega
    · exact p2v _ (h.w (h.1.set hRG.1 hRG.2.1 e1 o4 o5 rfl (fun k h4 h5 h6 => by rw [g_ii, if_neg h6]) (fun k => rfl)) rfl rfl rfl rfl rfl rfl rfl)
  have k1 : ¬ a.toInt = 0 → ((¬ a.toInt = 1 → ((¬ a.toInt = 2 → post (-100001) x) ∧ (a.toInt = 2 → wpX5_within b 0 9 (fun r1 => (r1.toInt = 0 → post (-100001) x) ∧ (¬ r1.toInt = 0 → ∀ z1 : wXS, z1 = x_sw x (w_so (x_w x) (w_si (w_o (x_w x)) 6 b)) → post (w_i (w_o (x_w x)) 6) z1))))) ∧ (a.toInt = 1 → wpX5_within b 0 999 (fun r1 => (r1.toInt = 0 → ((¬ a.toInt = 2 → post (-100001) x) ∧ (a.toInt = 2 → wpX5_within b 0 9 (fun r1 => (r1.toInt = 0 → post (-100001) x) ∧ (¬ r1.toInt = 0 → ∀ z1 : wXS, z1 = x_sw x (w_so (x_w x) (w_si (w_o (x_w x)) 6 b)) → post (w_i (w_o (x_w x)) 6) z1))))) ∧ (¬ r1.toInt = 0 → ∀ z1 : wXS, z1 = x_sw x (w_so (x_w x) (w_si (w_o (x_w x)) 5 b)) → post (w_i (w_o (x_w x)) 5) z1)))) := by
    intro a0
    refine ⟨fun a1 => k2 a0 a1, fun a1 => q_within (fun b1 b2 => ⟨fun c => absurd c (by decide), fun _ => ?_⟩) (fun hn => ⟨fun _ => ⟨fun _ => bad (by rw [tn0, tn999] at hn; omega), fun c => by exfalso; omega⟩, fun c => absurd rfl c⟩)⟩
    rintro z1 rfl
    rw [tn0] at b1; rw [tn999] at b2
    rw [o5]
    refine hp _ _ (fun {p2} p2v => r_set (fun v m l r hv => ?_) (fun hn => absurd (Or.inr (Or.inl ⟨a1, b1, b2⟩)) hn))
    rcases hv with ⟨e0, -⟩ | ⟨e0, e1, rfl, rfl, rfl, rfl⟩ | ⟨e0, -⟩
    · exfalso; omega
    · exact p2v _ (h.w (h.1.set hRG.1 e1 hRG.2.2.1 o4 rfl o6 (fun k h4 h5 h6 => by rw [g_ii, if_neg h5]) (fun k => rfl)) rfl rfl rfl rfl rfl rfl rfl)
    · exfalso; omega
  refine ⟨fun a0 => k1 a0, fun a0 => q_isMood (fun b1 b2 => ⟨fun c => absurd c (by decide), fun _ => ?_⟩) (fun hn => ⟨fun _ => ⟨fun _ => ⟨fun _ => bad (by omega), fun c => by exfalso; omega⟩, fun c => by exfalso; omega⟩, fun c => absurd rfl c⟩)⟩
  rintro z1 rfl
  rw [o4]
  refine hp _ _ (fun {p2} p2v => r_set (fun v m l r hv => ?_) (fun hn => absurd (Or.inl ⟨a0, b1, b2⟩) hn))
  rcases hv with ⟨e0, e1, rfl, rfl, rfl, rfl⟩ | ⟨e0, -⟩ | ⟨e0, -⟩
  · exact p2v _ (h.w (h.1.set e1 hRG.2.1 hRG.2.2.1 rfl o5 o6 (fun k h4 h5 h6 => by rw [g_ii, if_neg h4]) (fun k => rfl)) rfl rfl rfl rfl rfl rfl rfl)
  · exfalso; omega
  · exfalso; omega
theorem op_seed {a : Int32} {x : wXS} {t : wSt} (h : REL x t) {post : Int32 → wXS → Prop} (hp : ∀ r x', (∀ {p2 : Int32 → wSt → Prop}, (∀ t', REL x' t' → p2 r t') → wpX6_seed a t p2) → post r x') : wpX5_seed a x post := by
  obtain ⟨hF, hA, ⟨o4, o5, o6, o7, o8, o9, o10, o3, o11⟩, ⟨q1, q2, q3, q4, q5, q6, q7⟩, hP⟩ := h.1
  unfold wpX5_seed
  refine ⟨fun c => ?_, fun c => hp _ _ (fun {p2} p2v => ⟨fun d => absurd d c, fun _ => p2v t h⟩)⟩
  rintro z1 rfl
  rw [o11]
  refine hp _ _ (fun {p2} p2v => ⟨fun _ => ?_, fun d => absurd c d⟩)
  rintro z1 rfl
  refine p2v _ (h.w ?_ rfl rfl rfl rfl rfl rfl rfl)
  rw [t_le, tn0] at c
  exact ⟨hF, hA, ⟨o4, o5, o6, o7, o8, o9, o10, o3, rfl⟩, ⟨q1, q2, q3, q4, q5, q6, c⟩, hP⟩
-- folk
theorem WR.folk {w : wP2} {t : wSt} {a b c n : Int32} {i : Nat} (h : WR w t) (hi : (w_i t 5).toInt = (i : Int)) (hi6 : i < 6) (ha : 0 ≤ a.toInt ∧ a.toInt ≤ 3) (hb : -3 ≤ b.toInt ∧ b.toInt ≤ 3) (hc : 1 ≤ c.toInt ∧ c.toInt ≤ 9) (hn : n.toInt = (i : Int) + 1) :
    WR (w_sf w (w_si (w_sa (w_sa (w_sa (w_sa (w_f w) 0 (upd (w_a (w_f w) 0) i a)) 1 (upd (w_a (w_f w) 1) i b)) 2 (upd (w_a (w_f w) 2) i c)) 3 (upd (w_a (w_f w) 3) i 0)) 4 n)) (w_si (w_sa (w_sa (w_sa (w_sa (w_sa t 0 (upd (w_a t 0) i a)) 1 (upd (w_a t 1) i b)) 2 (upd (w_a t 2) i c)) 3 (upd (w_a t 3) i 0)) 4 (upd (w_a t 4) i 0)) 5 n) := by
  obtain ⟨⟨⟨f1, f2⟩, e4, heq, hsy, hhi⟩, ⟨w1, w2⟩, ⟨p4, p5, p6, p7, p8, p9, p10, p3, p11⟩, ⟨q1, q2, q3, q4, q5, q6, q7⟩, hP⟩ := h
  refine ⟨⟨⟨?_, ?_⟩, rfl, ?_, ?_, ?_⟩, ⟨?_, ?_⟩, ⟨p4, p5, p6, p7, p8, p9, p10, p3, p11⟩, ⟨q1, q2, q3, q4, ?_, q6, q7⟩, ?_⟩
  · show 0 ≤ n.toInt ∧ n.toInt ≤ 6
    omega
  · intro j hj
    have hj' : (j : Int) < n.toInt := hj
    show (0 ≤ (upd (w_a (w_f w) 0) i a j).toInt ∧ (upd (w_a (w_f w) 0) i a j).toInt ≤ 3) ∧ (-3 ≤ (upd (w_a (w_f w) 1) i b j).toInt ∧ (upd (w_a (w_f w) 1) i b j).toInt ≤ 3) ∧ (1 ≤ (upd (w_a (w_f w) 2) i c j).toInt ∧ (upd (w_a (w_f w) 2) i c j).toInt ≤ 9)
    simp only [g_u]
    by_cases e : j = i
    · simp only [if_pos e]; exact ⟨ha, hb, hc⟩
    · simp only [if_neg e]; exact f2 j (by rw [e4]; omega)
  · intro j hj
    have hj' : (j : Int) < n.toInt := hj
    show upd (w_a (w_f w) 0) i a j = upd (w_a t 0) i a j ∧ upd (w_a (w_f w) 1) i b j = upd (w_a t 1) i b j ∧ upd (w_a (w_f w) 2) i c j = upd (w_a t 2) i c j ∧ upd (w_a (w_f w) 3) i 0 j = upd (w_a t 3) i 0 j
    simp only [g_u]
    by_cases e : j = i
    · simp only [if_pos e]; exact ⟨trivial, trivial, trivial, trivial⟩
    · simp only [if_neg e]; exact heq j (by omega)
  · intro j k hj hk
    have hj' : (j : Int) < n.toInt := hj
    have hk' : (k : Int) < n.toInt := hk
    show bt (upd (w_a t 3) i 0 j) k = bt (upd (w_a t 3) i 0 k) j
    simp only [g_u]
    by_cases e : j = i <;> by_cases e' : k = i
    · subst e; subst e'; rfl
    · rw [if_pos e, if_neg e', b_0]; subst e; exact (hhi k j (by omega) (by omega)).symm
    · rw [if_neg e, if_pos e', b_0]; subst e'; exact hhi j k (by omega) (by omega)
    · rw [if_neg e, if_neg e']; exact hsy j k (by omega) (by omega)
  · intro j k hj hk
    have hj' : (j : Int) < n.toInt := hj
    have hk' : n.toInt ≤ (k : Int) := hk
    show bt (upd (w_a t 3) i 0 j) k = false
    simp only [g_u]
    by_cases e : j = i
    · rw [if_pos e, b_0]
    · rw [if_neg e]; exact hhi j k (by omega) (by omega)
  · intro j hj
    show (w_a (w_o w) 1 j).toInt = if (j : Int) < n.toInt then max 0 ((upd (w_a t 4) i 0 j).toInt - (w_i t 11).toInt) else 0
    simp only [g_u]
    have := w1 j hj
    by_cases e : j = i
    · rw [if_pos (by omega), if_pos e, this, if_neg (by omega), tn0]; omega
    · rw [if_neg e, this]
      by_cases e2 : (j : Int) < (w_i t 5).toInt
      · rw [if_pos e2, if_pos (by omega)]
      · rw [if_neg e2, if_neg (by omega)]
  · intro j hj
    have hj' : (j : Int) < n.toInt := hj
    show 0 ≤ (upd (w_a t 4) i 0 j).toInt ∧ (upd (w_a t 4) i 0 j).toInt ≤ (w_i t 11).toInt + 9
    simp only [g_u]
    by_cases e : j = i
    · rw [if_pos e, tn0]; omega
    · rw [if_neg e]; exact w2 j (by omega)
  · show (w_i t 12).toInt = 9 ∨ (0 ≤ (w_i t 12).toInt ∧ (w_i t 12).toInt < n.toInt)
    omega
  · intro j hj
    obtain ⟨r1, r2⟩ := hP j hj
    refine ⟨r1, ?_⟩
    show (w_a t 13 j).toInt = 9 ∨ (0 ≤ (w_a t 13 j).toInt ∧ (w_a t 13 j).toInt < n.toInt)
    omega
theorem op_folk {a b c : Int32} {x : wXS} {t : wSt} (h : REL x t) {post : Int32 → wXS → Prop} (hp : ∀ r x', (∀ {p2 : Int32 → wSt → Prop}, (∀ t', REL x' t' → p2 r t') → wpX6_folk a b c t p2) → post r x') : wpX5_folk a b c x post := by
  have hm := h.m6
  have n1 := tn1
  have e4 := h.cnt
  have bad : ¬ ((0 ≤ a.toInt ∧ a.toInt ≤ 3) ∧ (-3 ≤ b.toInt ∧ b.toInt ≤ 3) ∧ (1 ≤ c.toInt ∧ c.toInt ≤ 9)) → post (-1) x := fun hn => hp _ _ (fun {p2} p2v => by
    unfold wpX6_folk
    refine r_in (fun x1 x2 => c1 (r_in (fun x3 x4 => c1 (r_in (fun x5 x6 => ?_) (fun _ => d0 (p2v t h)))) (fun _ => c0 (p2v t h)))) (fun _ => c0 (p2v t h))
    rw [t_l, ln0] at x1; rw [t_l, ln3] at x2; rw [t_l, lnm3] at x3; rw [t_l, ln3] at x4; rw [t_l, ln1] at x5; rw [t_l, ln9] at x6
    exact absurd ⟨⟨x1, x2⟩, ⟨x3, x4⟩, x5, x6⟩ hn)
  unfold wpX5_folk
  refine q_within (fun x1 x2 => c1 (q_within (fun x3 x4 => c1 (q_within (fun x5 x6 => d1 ?_) (fun hn => d0 (bad (fun q => hn (by rw [tn1, tn9]; exact q.2.2)))))) (fun hn => c0 (bad (fun q => hn (by rw [tnm3, tn3]; exact q.2.1)))))) (fun hn => c0 (bad (fun q => hn (by rw [tn0, tn3]; exact q.1))))
  rw [tn0] at x1; rw [tn3] at x2; rw [tnm3] at x3; rw [tn3] at x4; rw [tn1] at x5; rw [tn9] at x6
  obtain ⟨i, hi⟩ := nat_of hm.1
  have mfolk : ∀ {p2 : Int32 → wSt → Prop}, ((w_i t 5).toInt = 6 → p2 (-3) t) → (¬ (w_i t 5).toInt = 6 → wpX6_add a b c t (fun u => ∀ z1, z1 = u → p2 (w_i z1 5 - 1) z1)) → wpX6_folk a b c t p2 := by
    intro p2 g1 g2
    unfold wpX6_folk
    refine r_in (fun _ _ => c1 (r_in (fun _ _ => c1 (r_in (fun _ _ => d1 ?_) (fun hn => ?_))) (fun hn => ?_))) (fun hn => ?_)
    · rw [t_eq, tn6]; exact ⟨g2, g1⟩
    · exact absurd (by rw [t_l, ln1, ln9]; exact ⟨x5, x6⟩) hn
    · exact absurd (by rw [t_l, lnm3, ln3]; exact ⟨x3, x4⟩) hn
    · exact absurd (by rw [t_l, ln0, ln3]; exact ⟨x1, x2⟩) hn
  have ecl : (w_i t 5).toNatClampNeg = i := t_cl hi
  rw [e4, t_lt, tn6]
  refine ⟨fun h6 => ?_, fun h6 => hp _ _ (fun {p2} p2v => mfolk (fun _ => p2v t h) (fun q => by exfalso; omega))⟩
  unfold wpX0_add
  rw [e4, t_lt, tn6, ecl]
  refine ⟨fun _ => ?_, fun q => absurd h6 q⟩
  have hin : vp_in (w_i t 5) 6 := t_in (by omega)
  refine ⟨hin, ?_⟩
  rintro z1 rfl
  refine ⟨hin, ?_⟩
  rintro z2 rfl
  refine ⟨hin, ?_⟩
  rintro z3 rfl
  refine ⟨hin, ?_⟩
  rintro z4 rfl
  rintro z5 rfl
  rintro z6 rfl
  refine hp _ _ (fun {p2} p2v => mfolk (fun q => by exfalso; omega) (fun _ => ?_))
  unfold wpX6_add
  refine ⟨hin, ?_⟩
  rintro y1 rfl
  refine ⟨hin, ?_⟩
  rintro y2 rfl
  refine ⟨hin, ?_⟩
  rintro y3 rfl
  refine ⟨hin, ?_⟩
  rintro y4 rfl
  refine ⟨hin, ?_⟩
  rintro y5 rfl
  rintro y6 rfl
  rintro y7 rfl
  have e9 : w_i t 5 + 1 - 1 = w_i t 5 := by rw [t_eq, t_sub (by rw [t_add (by omega)]; omega), t_add (by omega)]; omega
  simp only [g_ii, g_ia, g_aa, if_pos, ecl]
  rw [e9]
  refine p2v _ ?_
  have hW := h.1.folk (a := a) (b := b) (c := c) (n := w_i t 5 + 1) hi (by omega) ⟨x1, x2⟩ ⟨x3, x4⟩ ⟨x5, x6⟩ (by rw [t_add (by omega)]; omega)
  exact h.w hW rfl rfl rfl rfl rfl rfl rfl
