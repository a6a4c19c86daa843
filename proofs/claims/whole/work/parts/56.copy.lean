theorem tl_sub {a b : Int64} (h : -9223372036854775808 ≤ a.toInt - b.toInt ∧ a.toInt - b.toInt < 9223372036854775808) : (a - b).toInt = a.toInt - b.toInt := by
  rw [Int64.toInt_sub]
  have : ∀ z : Int, -9223372036854775808 ≤ z ∧ z < 9223372036854775808 → Int.bmod z (2 ^ 64) = z := by
    intro z hz
    rw [Int.bmod_eq_of_le] <;> omega
  exact this _ h
theorem REL.ps {x : wXS} {t : wSt} (h : REL x t) {n : Nat} (hn : n < 4) (h1 : w_i (x_h x n) 1 = 1) : PS (x_h x n) t n := by
  rcases h.2.2.2 n hn with ⟨g, -⟩ | g
  · rw [g] at h1; exact absurd h1 (by decide)
  · exact g
theorem n24ij {x1 x2 x4 : Int32} {n j i : Nat} (hn : x1.toInt = (n : Int)) (n4 : n < 4) (hj : x2.toInt = (j : Int)) (hi : x4.toInt = (i : Int)) (h : j + i < 24) : ((24 : Int32) * x1 + x2 + x4).toInt = ((24 * n + j + i : Nat) : Int) := by
  have e := n24i hn n4 hj (by omega)
  rw [t_add (by omega), e, hi]
  omega
-- copy
theorem r_copy2 {t : wSt} {x3 x4 x5 : Int32} {n j c : Nat} (hn : x3.toInt = (n : Int)) (n4 : n < 4) (hj : x4.toInt = (j : Int)) (hc : x5.toInt = (c : Int)) (hjc : j + c ≤ 24) {post : Int32 → wSt → Prop} : ∀ (k i : Nat) (g : Nat → Int64), i + k = c → (∀ q, q < i → g (24 * n + j + q) = w_l t 35 q) → (∀ q, (q < 24 * n + j ∨ 24 * n + j + i ≤ q) → g q = w_l t 34 q) → (∀ g' : Nat → Int64, (∀ q, q < c → g' (24 * n + j + q) = w_l t 35 q) → (∀ q, (q < 24 * n + j ∨ 24 * n + j + c ≤ q) → g' q = w_l t 34 q) → post x5 (w_sl t 34 g')) → wpX6_copy_L154 post (k + 1) x3 x4 x5 (nI i) (w_sl t 34 g) := by
  intro k
  induction k with
  | zero =>
    intro i g hi hg hg2 h
    show wpX6_copy_154 _ post _ _ _ _ _
    unfold wpX6_copy_154
    rw [t_le, hc, nI_toInt (by omega)]
    exact ⟨fun _ => h g (fun q hq => hg q (by omega)) (fun q hq => hg2 q (by omega)), fun q => by exfalso; omega⟩
  | succ k ih =>
    intro i g hi hg hg2 h
    have ei : (nI i).toInt = (i : Int) := nI_toInt (by omega)
    have en := n24ij hn n4 hj ei (by omega)
    show wpX6_copy_154 _ post _ _ _ _ _
    unfold wpX6_copy_154
    rw [t_le, hc, ei, t_cl en, t_cl ei]
    refine ⟨fun q => by exfalso; omega, fun _ => ⟨t_in (by omega), t_in (by omega), ?_⟩⟩
    rintro z1 rfl
    have e35 : w_l (w_sl t 34 g) 35 = w_l t 35 := rfl
    rw [w_li, w_sl_sl, nI_1, e35]
    refine ih (i + 1) _ (by omega) (fun q hq => ?_) (fun q hq => ?_) h
    · rw [g_uL]
      by_cases e : q = i
      · rw [if_pos (by omega), e]
      · rw [if_neg (by omega)]; exact hg q (by omega)
    · rw [g_uL, if_neg (by omega)]; exact hg2 q (by omega)
theorem r_copy1 {t : wSt} {x1 x2 x3 x4 x5 : Int32} {n j c : Nat} (hn : x1.toInt = (n : Int)) (n4 : n < 4) (hj : x2.toInt = (j : Int)) (hc : x5.toInt = (c : Int)) (hjc : j + c ≤ 24) {post : Int32 → wSt → Prop} : ∀ (k i : Nat) (g : Nat → Int64), i + k = c → (∀ q, q < i → g q = w_l t 34 (24 * n + j + q)) → (∀ g' : Nat → Int64, (∀ q, q < c → g' q = w_l t 34 (24 * n + j + q)) → ∃ f, wpX6_copy_L154 post f x3 x4 x5 0 (w_sl t 35 g')) → wpX6_copy_L117 post (k + 1) x1 x2 x3 x4 x5 (nI i) (w_sl t 35 g) := by
  intro k
  induction k with
  | zero =>
    intro i g hi hg h
    show wpX6_copy_117 _ post _ _ _ _ _ _ _
    unfold wpX6_copy_117
    rw [t_le, hc, nI_toInt (by omega)]
    exact ⟨fun _ => h g (fun q hq => hg q (by omega)), fun q => by exfalso; omega⟩
  | succ k ih =>
    intro i g hi hg h
    have ei : (nI i).toInt = (i : Int) := nI_toInt (by omega)
    have en := n24ij hn n4 hj ei (by omega)
    show wpX6_copy_117 _ post _ _ _ _ _ _ _
    unfold wpX6_copy_117
    rw [t_le, hc, ei, t_cl en, t_cl ei]
    refine ⟨fun q => by exfalso; omega, fun _ => ⟨t_in (by omega), t_in (by omega), ?_⟩⟩
    rintro z1 rfl
    have e34 : w_l (w_sl t 35 g) 34 = w_l t 34 := rfl
    rw [w_li, w_sl_sl, nI_1, e34]
    refine ih (i + 1) _ (by omega) (fun q hq => ?_) h
    rw [g_uL]
    by_cases e : q = i
    · rw [if_pos e, e]
    · rw [if_neg e]; exact hg q (by omega)
theorem op_copy {a b c d e : Int32} {x : wXS} {t : wSt} (h : REL x t) {post : Int32 → wXS → Prop} (hp : ∀ r x', (∀ {p2 : Int32 → wSt → Prop}, (∀ t', REL x' t' → p2 r t') → wpX6_copy a b c d e t p2) → post r x') : wpX5_copy a b c d e x post := by
  have bad : ¬ ((0 ≤ a.toInt ∧ a.toInt ≤ 3) ∧ 0 ≤ c.toInt ∧ c.toInt ≤ 3) → post (-1) x := fun hb => hp (-1) x (fun {p2} hp2 => by
    unfold wpX6_copy
    exact r_in3 (fun q1 q2 => c1 (r_in3 (fun q3 q4 => absurd ⟨⟨q1, q2⟩, q3, q4⟩ hb) (fun _ => d0 (hp2 t h)))) (fun _ => c0 (hp2 t h)))
  unfold wpX5_copy
  refine q_isSheet (fun a1 a2 => c1 (q_isSheet (fun k1 k2 => d1 ?_) (fun q => d0 (bad (fun r => q r.2))))) (fun q => c0 (bad (fun r => q r.1)))
  obtain ⟨n, hn⟩ := nat_of a1
  obtain ⟨m, hm⟩ := nat_of k1
  have hia : vp_in a 4 := t_in (by omega)
  have hic : vp_in c 4 := t_in (by omega)
  rw [t_cl hn, t_cl hm]
  rcases h.2.2.2 n (by omega) with ⟨g, g2⟩ | g
  · refine ⟨hia, fun _ => hp (-11) x (fun {p2} hp2 => ?_), fun q => absurd g q⟩
    unfold wpX6_copy
    refine r_in3 (fun _ _ => c1 (r_in3 (fun _ _ => d1 ⟨hia, ?_⟩) (fun q => absurd ⟨k1, k2⟩ q))) (fun q => absurd ⟨a1, a2⟩ q)
    rw [t_cl hn, t_lt, tn0]
    exact ⟨fun _ => hp2 t h, fun q => by exfalso; omega⟩
  have mM : ∀ {p2 : Int32 → wSt → Prop}, (vp_in c 4 ∧ ((0 ≤ ((w_a t 32) c.toNatClampNeg) → (vp_in a 4 ∧ (vp_in c 4 ∧ ((((w_a t 32) a.toNatClampNeg) = ((w_a t 32) c.toNatClampNeg) → ((e < 0 → (p2 (-13 : Int32) t)) ∧ (¬ e < 0 → (vp_in a 4 ∧ (wpX6_in (b.toInt64) (0 : Int64) ((((w_a t 33) a.toNatClampNeg).toInt64) - (e.toInt64)) (fun r3 => ((r3 = 0 → (p2 (-13 : Int32) t)) ∧ (¬ r3 = 0 → (vp_in c 4 ∧ (wpX6_in (d.toInt64) (0 : Int64) ((((w_a t 33) c.toNatClampNeg).toInt64) - (e.toInt64)) (fun r4 => ((¬ r4 = 0 → (∃ n, wpX6_copy_L117  p2 n a b c d e (0 : Int32) t)) ∧ (r4 = 0 → (p2 (-13 : Int32) t)))))))))))))) ∧ (¬ ((w_a t 32) a.toNatClampNeg) = ((w_a t 32) c.toNatClampNeg) → (p2 (-12 : Int32) t)))))) ∧ (¬ 0 ≤ ((w_a t 32) c.toNatClampNeg) → (p2 (-11 : Int32) t)))) → wpX6_copy a b c d e t p2 := by
    intro p2 hh
    unfold wpX6_copy
    refine r_in3 (fun _ _ => c1 (r_in3 (fun _ _ => d1 ⟨hia, ?_⟩) (fun q => absurd ⟨k1, k2⟩ q))) (fun q => absurd ⟨a1, a2⟩ q)
    refine ⟨fun q => ?_, fun _ => hh⟩
    rw [t_cl hn, t_lt, tn0] at q
    have := g.2.2.2.1
    exfalso; omega
  rw [t_cl hn, t_cl hm] at mM
  have ge : ¬ w_i (x_h x n) 1 = 0 := by rw [g.1]; decide
  refine ⟨hia, fun q => absurd q ge, fun _ => ⟨hic, ?_⟩⟩
  rcases h.2.2.2 m (by omega) with ⟨f, f2⟩ | f
  · refine ⟨fun q => absurd f q, fun _ => hp (-11) x (fun {p2} hp2 => mM ⟨hic, ?_⟩)⟩
    rw [t_le, tn0]
    exact ⟨fun q => by exfalso; omega, fun _ => hp2 t h⟩
  have fe : ¬ w_i (x_h x m) 1 = 0 := by rw [f.1]; decide
  refine ⟨fun _ => ⟨hia, hic, ?_⟩, fun q => absurd q fe⟩
  have f4 := f.2.2.2.1
  have g5 := g.2.2.2.2.1
  have f5 := f.2.2.2.2.1
  have mM2 : ∀ {p2 : Int32 → wSt → Prop}, ((((w_a t 32) n) = ((w_a t 32) m) → ((e < 0 → (p2 (-13 : Int32) t)) ∧ (¬ e < 0 → (vp_in a 4 ∧ (wpX6_in (b.toInt64) (0 : Int64) ((((w_a t 33) n).toInt64) - (e.toInt64)) (fun r3 => ((r3 = 0 → (p2 (-13 : Int32) t)) ∧ (¬ r3 = 0 → (vp_in c 4 ∧ (wpX6_in (d.toInt64) (0 : Int64) ((((w_a t 33) m).toInt64) - (e.toInt64)) (fun r4 => ((¬ r4 = 0 → (∃ n, wpX6_copy_L117  p2 n a b c d e (0 : Int32) t)) ∧ (r4 = 0 → (p2 (-13 : Int32) t)))))))))))))) ∧ (¬ ((w_a t 32) n) = ((w_a t 32) m) → (p2 (-12 : Int32) t))) → wpX6_copy a b c d e t p2 := fun {p2} hh => mM ⟨hic, fun _ => ⟨hia, hic, hh⟩, fun q => by rw [t_le, tn0] at q; exact absurd f4.1 q⟩
  rw [g.2.1, f.2.1]
  refine ⟨fun eq => ⟨hia, ?_⟩, fun ne => hp (-12) x (fun {p2} hp2 => mM2 ⟨fun q => absurd q ne, fun _ => hp2 t h⟩)⟩
  have he := t_rng e
  have hidx : ¬ (0 ≤ e.toInt ∧ (0 ≤ b.toInt ∧ b.toInt + e.toInt ≤ (w_a t 33 n).toInt) ∧ (0 ≤ d.toInt ∧ d.toInt + e.toInt ≤ (w_a t 33 m).toInt)) → post (-13) x := fun hno => hp (-13) x (fun {p2} hp2 => mM2 ⟨fun _ => by
      rw [t_lt, tn0]
      refine ⟨fun _ => hp2 t h, fun q => ⟨hia, ?_⟩⟩
      refine r_in ?_ ?_ <;> rw [tl_sub (by simp only [t_l]; omega), t_l, t_l, t_l, ln0]
      · refine fun q1 q2 => c1 ⟨hic, ?_⟩
        refine r_in ?_ ?_ <;> rw [tl_sub (by simp only [t_l]; omega), t_l, t_l, t_l, ln0]
        · exact fun q3 q4 => absurd ⟨by omega, by omega, by omega⟩ hno
        · exact fun _ => d0 (hp2 t h)
      · exact fun _ => c0 (hp2 t h), fun q => absurd eq q⟩)
  refine q_hasSpan (by rw [g.2.2.1]; exact g5) (fun s1 s2 s3 => c1 ⟨hic, q_hasSpan (by rw [f.2.2.1]; exact f5) (fun u1 u2 u3 => d1 ⟨hia, hic, ?_⟩) (fun q => d0 (hidx (by rw [f.2.2.1] at q; omega)))⟩) (fun q => c0 (hidx (by rw [g.2.2.1] at q; omega)))
  rw [g.2.2.1] at s3
  rw [f.2.2.1] at u3
  obtain ⟨i, hi⟩ := nat_of s2
  obtain ⟨j, hj⟩ := nat_of u2
  obtain ⟨k, hk⟩ := nat_of s1
  simp only [t_lt, tn0]
  rw [t_cl hi, t_cl hj, t_cl hk]
  refine ⟨by omega, by omega, by omega, by omega, by omega, ?_⟩
  rintro z1 rfl
  refine hp e _ (fun {p2} hp2 => mM2 ⟨fun _ => ?_, fun q => absurd eq q⟩)
  rw [t_lt, tn0]
  refine ⟨fun q => by exfalso; omega, fun _ => ⟨hia, ?_⟩⟩
  refine r_in ?_ ?_ <;> rw [tl_sub (by simp only [t_l]; omega), t_l, t_l, t_l, ln0]
  · refine fun _ _ => c1 ⟨hic, ?_⟩
    refine r_in ?_ ?_ <;> rw [tl_sub (by simp only [t_l]; omega), t_l, t_l, t_l, ln0]
    · refine fun _ _ => d1 ⟨k + 1, ?_⟩
      have key := r_copy1 (t := t) (x3 := c) (x4 := d) hn (by omega) hi hk (by omega) (post := p2) k 0 (w_l t 35) (by omega) (fun q hq => by omega) (fun g' hg' => ⟨k + 1, ?_⟩)
      · rw [w_sl_self] at key
        exact key
      · obtain ⟨T, eT⟩ : ∃ T, T = w_sl t 35 g' := ⟨_, rfl⟩
        rw [← eT]
        have key2 := r_copy2 (t := T) hm (by omega) hj hk (by omega) (post := p2) k 0 (w_l T 34) (by omega) (fun q hq => by omega) (fun q _ => rfl) (fun G h1 h2 => ?_)
        · rw [w_sl_self] at key2
          exact key2
        · have e34 : w_l T 34 = w_l t 34 := by rw [eT]; rfl
          have e35 : w_l T 35 = g' := by rw [eT, w_li]
          rw [e35] at h1
          rw [e34] at h2
          refine hp2 _ (h.s (fun q => by rw [eT]; rfl) (fun q _ _ => by rw [eT]; rfl) (fun q hq hqm => ⟨by rw [eT]; rfl, by rw [eT]; rfl, fun y hy => ?_⟩) (Or.inr ⟨f.1, ?_, ?_, ?_, ?_, fun y hy => ?_⟩))
          · rw [w_li, h2 _ (by omega)]
          · rw [eT]; exact f.2.1
          · rw [eT]; exact f.2.2.1
          · rw [eT]; exact f4
          · rw [eT]; exact f5
          · rw [w_li, w_li]
            unfold va_cpy
            by_cases cy : j ≤ y ∧ y < j + k
            · rw [if_pos cy]
              have e1 : 24 * m + y = 24 * m + j + (y - j) := by omega
              rw [e1, h1 _ (by omega), hg' _ (by omega), g.2.2.2.2.2 _ (by omega)]
              congr 1
              omega
            · rw [if_neg cy, h2 _ (by omega)]
              exact f.2.2.2.2.2 y hy
    · exact fun q => by exfalso; omega
  · exact fun q => by exfalso; omega
