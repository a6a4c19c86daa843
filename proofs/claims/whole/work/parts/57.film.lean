theorem lane_small : ∀ k : Nat, k < 20 → ((nI k).toInt64.toInt32.toInt8.toInt32).toInt64 = (nI k).toInt64 ∧ ((nI k).toInt64.toInt32.toInt16.toInt32).toInt64 = (nI k).toInt64 := by decide +kernel
theorem m_lane_small {lane r : Int32} (h : 0 ≤ r.toInt ∧ r.toInt < 20) : m_lane lane r.toInt64 = r.toInt64 := by
  obtain ⟨k, hk⟩ := nat_of h.1
  have e : r = nI k := by rw [t_eq, nI_toInt (by omega)]; exact hk
  obtain ⟨l1, l2⟩ := lane_small k (by omega)
  unfold m_lane
  rw [← ln_byte, ← ln_short, e, l1, l2]
  split
  · rfl
  · split <;> rfl
-- film
theorem op_filmL {a b d : Int32} {i n j : Nat} (hi : a.toInt = (i : Int)) (hn : b.toInt = (n : Int)) (n4 : n < 4) (hj : d.toInt = (j : Int)) (h19 : j + 19 ≤ 24) : ∀ (k q : Nat) (x : wXS) (t : wSt) (post : Int32 → wXS → Prop) (y : Int32), q + k = 19 → y.toInt = (q : Int) - 9 → REL x t → w_i (x_h x n) 1 = 1 → (i : Int) < (w_i t 5).toInt → (∀ r x', (∀ {p2 : Int32 → wSt → Prop}, (∀ t', REL x' t' → p2 r t') → wpX6_film_L42 p2 (k + 1) a b d y t) → post r x') → wpX5_film_L39 post (k + 1) a b d (nI q) x := by
  have n9 := tn9
  have n1 := tn1
  have n24 := tn24
  have n19 : (19 : Int32).toInt = 19 := by decide
  intro k
  induction k with
  | zero =>
    intro q x t post y hq hy h h1 hc hp
    show wpX5_film_39 _ post _ _ _ _ _
    unfold wpX5_film_39
    rw [t_le, n19, nI_toInt (by omega)]
    refine ⟨fun _ => hp 19 x (fun {p2} hp2 => ?_), fun q => by exfalso; omega⟩
    show wpX6_film_42 _ p2 _ _ _ _ _
    unfold wpX6_film_42
    rw [t_lt, tn9]
    exact ⟨fun _ => hp2 t h, fun q => by exfalso; omega⟩
  | succ k ih =>
    intro q x t post y hq hy h h1 hc hp
    have eq : (nI q).toInt = (q : Int) := nI_toInt (by omega)
    have ey : y = nI q - 9 := by rw [t_eq, t_sub (by omega), eq, n9]; exact hy
    have ps := h.ps n4 h1
    have hm := h.m6
    obtain ⟨⟨hFK, e4, heq, -, -⟩, -, ⟨o4, o5, o6, o7, o8, o9, o10, o3, o11⟩, hRG, -⟩ := id h.1
    have hg0 := (heq i hc).1
    have edq : (d + nI q).toInt = ((j + q : Nat) : Int) := by rw [t_add (by omega)]; omega
    have hb : (24 : Int32) * b + d + y + 9 = (24 : Int32) * b + (d + nI q) := by
      have e0 := n24i hn n4 hj (by omega)
      have e1 := n24i (x4 := d + nI q) (i := j + q) hn n4 edq (by omega)
      have e2 : ((24 : Int32) * b + d + y).toInt = ((24 * n + j : Nat) : Int) + ((q : Int) - 9) := by rw [t_add (by omega), e0, hy]
      rw [t_eq, e1, t_add (by omega), e2, n9]; omega
    have ec := n24i (x4 := d + nI q) (i := j + q) hn n4 edq (by omega)
    have key : ∀ r : Int32, (0 ≤ r.toInt ∧ r.toInt < 20) → (∀ {p2 : Int32 → Prop}, p2 r → wpX6_givesOf a y t p2) → wpX2_put (d + nI q) (r.toInt64) (x_h x n) (fun u => ∀ z1 : wXS, z1 = (x_sh x n u) → wpX5_film_L39 post (k + 1) a b d (nI q + 1) z1) := by
      intro r hr hM
      refine q_put edq (by omega) ?_
      rw [m_lane_small hr]
      rintro z1 rfl
      rw [nI_1]
      refine ih (q + 1) _ (w_sl t 34 (vp_updL (w_l t 34) (24 * n + (j + q)) r.toInt64)) post (y + 1) (by omega) (by rw [t_add (by omega)]; omega) (h.put n4 (by omega) ps) ?_ hc (fun r2 x2 hx2 => hp r2 x2 (fun {p2} hp2 => ?_))
      · rw [gx_h_sh, g_v, if_pos rfl]
        exact h1
      · show wpX6_film_42 _ p2 _ _ _ _ _
        unfold wpX6_film_42
        rw [t_lt, tn9, hb, t_cl ec]
        refine ⟨fun q => by exfalso; omega, fun _ => hM ⟨t_in (by omega), ?_⟩⟩
        rintro z2 rfl
        exact hx2 hp2
    show wpX5_film_39 _ post _ _ _ _ _
    unfold wpX5_film_39
    rw [t_le, n19, eq, ← ey, t_cl hn]
    refine ⟨fun q => by exfalso; omega, fun _ => ⟨t_in (by omega), ?_⟩⟩
    have hgr : ∀ v w : Int, 0 ≤ v → v ≤ 999 → 0 ≤ m_gives w y.toInt v ∧ m_gives w y.toInt v ≤ 9 := fun v w hv _ => by
      have := m_pails_rng w y.toInt
      unfold m_gives; omega
    have hg := hgr (w_i t 7).toInt (w_a t 0 i).toInt hRG.2.1.1 hRG.2.1.2
    refine q_givesAt hFK (by rw [o5]; exact hRG.2.1) hi (by rw [e4]; exact hc) (by omega) (fun r s hr => key r ?_ (fun {p2} h2 => ?_)) (fun r s hr => key r ?_ (fun {p2} h2 => ?_)) <;> rw [hg0] at s <;> rw [hg0, o5] at hr
    · omega
    · refine r_givesOf hRG.2.1 hi (by omega) (by omega) (fun r' s' hr' => ?_) (fun r' s' hr' => absurd s s')
      rw [t_eq.mpr (hr'.trans hr.symm)]; exact h2
    · omega
    · refine r_givesOf hRG.2.1 hi (by omega) (by omega) (fun r' s' hr' => absurd s' s) (fun r' s' hr' => ?_)
      rw [t_eq.mpr (hr'.trans hr.symm)]; exact h2
theorem op_film {a b c d : Int32} {x : wXS} {t : wSt} (h : REL x t) {post : Int32 → wXS → Prop} (hp : ∀ r x', (∀ {p2 : Int32 → wSt → Prop}, (∀ t', REL x' t' → p2 r t') → wpX6_film a b c d t p2) → post r x') : wpX5_film a b c d x post := by
  have n19 : (19 : Int32).toInt = 19 := by decide
  have hm := h.m6
  have e4 := h.cnt
  unfold wpX5_film
  refine q_has (fun a1 a2 => d1 ?_) (fun q => d0 (hp (-1) x (fun {p2} hp2 => ?_)))
  · rw [e4] at a2
    have kM : ∀ {p2 : Int32 → wSt → Prop}, wpX6_isSheet b c (fun r2 => ((¬ r2 = 0 → (wpX6_lacksRow b c d (19 : Int32) t (fun r3 => ((0 ≤ r3 → (∃ n, wpX6_film_L42  p2 n a b d (-9 : Int32) t)) ∧ (¬ 0 ≤ r3 → (p2 r3 t)))))) ∧ (r2 = 0 → (p2 (-1 : Int32) t)))) → wpX6_film a b c d t p2 := by
      intro p2 hh
      unfold wpX6_film
      exact r_isOne (by omega) (fun _ _ => c1 hh) (fun q => absurd ⟨a1, a2⟩ q)
    refine q_refusal h (by omega) (fun hb => ?_) (fun n hn n4 hl e => ?_) (fun n hn n4 hl g e => ?_) (fun n hn n4 hl g e i => ?_) (fun n hn n4 hl g e i => ?_)
    · exact ⟨fun q => absurd q (by decide), fun _ => hp (-1) x (fun {p2} hp2 => kM (r_isSheet (fun q1 q2 => absurd ⟨q1, q2⟩ hb) (fun _ => d0 (hp2 t h))))⟩
    · refine ⟨fun q => absurd q (by decide), fun _ => hp (-11) x (fun {p2} hp2 => kM ?_)⟩
      refine r_isSheet (fun _ _ => d1 (r_lacksRow hn n4 (by omega) (by omega) (fun q => by rw [q] at e; exfalso; omega) (fun _ _ => ?_) (fun q _ => by exfalso; omega) (fun q _ => by rw [q] at e; exfalso; omega) (fun q _ => by rw [q] at e; exfalso; omega))) (fun q => absurd ⟨by omega, hl⟩ q)
      exact ⟨fun q => absurd q (by decide), fun _ => hp2 t h⟩
    · refine ⟨fun q => absurd q (by decide), fun _ => hp (-12) x (fun {p2} hp2 => kM ?_)⟩
      have g4 := g.2.2.2.1
      refine r_isSheet (fun _ _ => d1 (r_lacksRow hn n4 (by omega) (by omega) (fun q => absurd q e) (fun _ q => by exfalso; omega) (fun _ _ => ?_) (fun q _ => absurd q e) (fun q _ => absurd q e))) (fun q => absurd ⟨by omega, hl⟩ q)
      exact ⟨fun q => absurd q (by decide), fun _ => hp2 t h⟩
    · refine ⟨fun q => absurd q (by decide), fun _ => hp (-13) x (fun {p2} hp2 => kM ?_)⟩
      have g4 := g.2.2.2.1
      refine r_isSheet (fun _ _ => d1 (r_lacksRow hn n4 (by omega) (by omega) (fun _ => g.2.2.2.2.1) (fun q _ => absurd e q) (fun _ q => absurd e q) (fun _ _ => ?_) (fun _ q => absurd q i))) (fun q => absurd ⟨by omega, hl⟩ q)
      exact ⟨fun q => absurd q (by decide), fun _ => hp2 t h⟩
    · have g5 := g.2.2.2.2.1
      have g4 := g.2.2.2.1
      obtain ⟨k, hk⟩ := nat_of i.1
      obtain ⟨w, hw⟩ := nat_of a1
      refine ⟨fun _ => ⟨20, ?_⟩, fun q => absurd rfl q⟩
      refine op_filmL hw hn n4 hk (by omega) 19 0 x t post (-9) (by omega) tnm9 h g.1 (by omega) (fun r x' hx => hp r x' (fun {p2} hp2 => kM ?_))
      refine r_isSheet (fun _ _ => d1 (r_lacksRow hn n4 (by omega) (by omega) (fun _ => g.2.2.2.2.1) (fun q _ => absurd e q) (fun _ q => absurd e q) (fun _ q => absurd i q) (fun _ _ => ?_))) (fun q => absurd ⟨by omega, hl⟩ q)
      exact ⟨fun _ => ⟨20, hx hp2⟩, fun q => absurd (by decide) q⟩
  · rw [e4] at q
    unfold wpX6_film
    exact r_isOne (by omega) (fun q1 q2 => absurd ⟨q1, q2⟩ q) (fun _ => c0 (hp2 t h))
