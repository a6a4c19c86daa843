theorem REL.gf {x : wXS} {t t' : wSt} {w' : wP2} (h : REL x t) (hW : WR w' t') (hF : GF t t') : REL (x_sw x w') t' :=
  h.w hW (hF.1 30 (by decide)) (hF.1 17 (by decide)) (hF.2.1 31 (by decide)) (hF.2.1 16 (by decide)) (hF.2.1 32 (by decide)) (hF.2.1 33 (by decide)) (hF.2.2 34)
theorem REL.hr {x : wXS} {t : wSt} (h : REL x t) : w_i (w_o (x_w x)) 9 = w_i t 11 ∧ 0 ≤ (w_i t 11).toInt ∧ (w_i t 11).toInt ≤ 9999 := ⟨h.1.2.2.1.2.2.2.2.2.1, h.1.2.2.2.1.2.2.2.1⟩
theorem q_hasHours {n : Int32} {w : wP2} {post : Int32 → Prop} (h : 0 ≤ (w_i (w_o w) 9).toInt ∧ (w_i (w_o w) 9).toInt ≤ 9999) (hn : 0 ≤ n.toInt ∧ n.toInt ≤ 1000) (h1 : (w_i (w_o w) 9).toInt + n.toInt ≤ 9999 → post 1) (h0 : ¬ (w_i (w_o w) 9).toInt + n.toInt ≤ 9999 → post 0) : wpX4_hasHours n w post := by
  unfold wpX4_hasHours
  rw [t_lt, tn9999, t_add (by omega)]
  exact ⟨fun c => h0 (by omega), fun c => h1 (by omega)⟩
-- draw
theorem op_draw {a : Int32} {x : wXS} {t : wSt} (h : REL x t) {post : Int32 → wXS → Prop} (hp : ∀ r x', (∀ {p2 : Int32 → wSt → Prop}, (∀ t', REL x' t' → p2 r t') → wpX6_draw a t p2) → post r x') : wpX5_draw a x post := by
  have n9 := tn9
  have n1 := tn1
  obtain ⟨eh, hh⟩ := h.hr
  have hm := h.m6
  have e4 := h.cnt
  have kM : m_ok (x_w x) a → ∀ {p2 : Int32 → wSt → Prop}, wpX6_draw_38 p2 a t → wpX6_draw a t p2 := by
    intro ho p2 h38
    have ho' := m_ok.m h.1 ho
    unfold wpX6_draw wpX6_draw_16
    rw [t_eq, tn9]
    rcases ho' with c | ⟨i, hi, hc, hf⟩
    · exact ⟨fun _ => ⟨fun _ => h38, fun q => absurd c q⟩, fun q => absurd c q⟩
    · refine ⟨fun _ => ⟨fun _ => h38, fun q => by exfalso; omega⟩, fun _ => r_isOne (by omega) (fun _ _ => d1 ⟨fun _ => h38, fun _ => ⟨t_in (by omega), ?_⟩⟩) (fun q => by exfalso; omega)⟩
      rw [t_cl hi, t_le]
      exact ⟨fun _ => h38, fun q => absurd hf q⟩
  have kX : m_ok (x_w x) a → wpX5_draw_42 post a x := by
    intro ho
    unfold wpX5_draw_42
    refine q_hasHours (by rw [eh]; exact hh) (by rw [n1]; omega) (fun c => d1 ?_) (fun c => d0 (hp (-3) x (fun {p2} hp2 => kM ho ?_)))
    · rw [eh, n1] at c
      refine both_hour h.1 (by omega) ho (fun r w' hr _ hM => ?_)
      intro z1 e
      subst e
      refine hp r _ (fun {p2} hp2 => kM ho ?_)
      unfold wpX6_draw_38
      rw [t_eq, tn9999]
      refine ⟨fun _ => hM t h.1 (fun t' hW hF _ => ?_), fun q => by exfalso; omega⟩
      intro z2 e
      subst e
      exact hp2 _ (h.gf hW hF)
    · rw [eh, n1] at c
      unfold wpX6_draw_38
      rw [t_eq, tn9999]
      exact ⟨fun q => by exfalso; omega, fun _ => hp2 t h⟩
  unfold wpX5_draw wpX5_draw_22
  rw [t_eq, tn9]
  refine ⟨fun c => ⟨fun _ => kX (Or.inl c), fun q => absurd c q⟩, fun c => q_has (fun h1 h2 => d1 ⟨fun q => absurd q c, fun _ => q_mayDraw h.fk (fun i hi hc hz => d1 (kX (Or.inr ⟨i, hi, hc, hz⟩))) (fun hn => d0 ?_)⟩) (fun hn => d0 ?_)⟩
  · refine hp (-2) x (fun {p2} hp2 => ?_)
    obtain ⟨i, hi⟩ := nat_of h1
    have hc : (i : Int) < (w_i t 5).toInt := by rw [← e4]; omega
    have hw := h.1.2.1.1 i (by omega)
    rw [if_pos hc] at hw
    have hz := hn i hi (by omega)
    unfold wpX6_draw wpX6_draw_16
    rw [t_eq, tn9]
    refine ⟨fun q => absurd q c, fun _ => r_isOne (by omega) (fun _ _ => d1 ⟨fun q => absurd q c, fun _ => ⟨t_in (by omega), ?_⟩⟩) (fun q => by exfalso; omega)⟩
    rw [t_cl hi, t_le]
    exact ⟨fun q => by exfalso; omega, fun _ => hp2 t h⟩
  · refine hp (-1) x (fun {p2} hp2 => ?_)
    rw [e4] at hn
    unfold wpX6_draw
    rw [t_eq, tn9]
    exact ⟨fun q => absurd q c, fun _ => r_isOne (by omega) (fun q1 q2 => absurd ⟨q1, q2⟩ hn) (fun _ => d0 (hp2 t h))⟩
-- pass
theorem op_passL {n : Nat} (hn : n ≤ 60) {a : Int32} (ha : a.toInt = (n : Int)) : ∀ (k i : Nat) (x : wXS) (t0 : wSt) (post : Int32 → wXS → Prop), i + k = n → REL x t0 → (w_i t0 11).toInt + k ≤ 9999 → (∀ r x', (∀ t, REL x t → ∀ {p2 : Int32 → wSt → Prop}, (∀ t', REL x' t' → p2 r t') → wpX6_pass_L31 p2 (k + 1) a (nI i) t) → post r x') → wpX5_pass_L28 post (k + 1) a (nI i) x := by
  intro k
  induction k with
  | zero =>
    intro i x t0 post hi h hh hp
    have ei : (nI i).toInt = (i : Int) := nI_toInt (by omega)
    show wpX5_pass_28 _ post _ _ _
    unfold wpX5_pass_28
    rw [t_le, ha, ei]
    refine ⟨fun _ => hp _ x (fun t ht {p2} hp2 => ?_), fun q => by exfalso; omega⟩
    show wpX6_pass_31 _ p2 _ _ _
    unfold wpX6_pass_31
    rw [t_le, ha, ei, ← ht.hr.1]
    exact ⟨fun _ => hp2 t ht, fun q => by exfalso; omega⟩
  | succ k ih =>
    intro i x t0 post hi h hh hp
    have ei : (nI i).toInt = (i : Int) := nI_toInt (by omega)
    show wpX5_pass_28 _ post _ _ _
    unfold wpX5_pass_28
    rw [t_le, ha, ei]
    refine ⟨fun q => by exfalso; omega, fun _ => both_hour h.1 (by omega) (Or.inl tn9) (fun r w' hr hex hM => ?_)⟩
    obtain ⟨t1, hW1, e1, hF1⟩ := hex
    intro z1 e
    subst e
    rw [nI_1]
    refine ih (i + 1) (x_sw x w') t1 post (by omega) (h.gf hW1 hF1) (by omega) (fun r2 x2 hx2 => hp r2 x2 (fun t ht {p2} hp2 => ?_))
    show wpX6_pass_31 _ p2 _ _ _
    unfold wpX6_pass_31
    rw [t_le, ha, ei]
    refine ⟨fun q => by exfalso; omega, fun _ => hM t ht.1 (fun t' hW hF e' => ?_)⟩
    intro z2 e
    subst e
    rw [nI_1]
    exact hx2 _ (ht.gf hW hF) hp2
theorem op_pass {a : Int32} {x : wXS} {t : wSt} (h : REL x t) {post : Int32 → wXS → Prop} (hp : ∀ r x', (∀ {p2 : Int32 → wSt → Prop}, (∀ t', REL x' t' → p2 r t') → wpX6_pass a t p2) → post r x') : wpX5_pass a x post := by
  have n1 := tn1
  obtain ⟨eh, hh⟩ := h.hr
  unfold wpX5_pass
  refine q_within (fun h1 h2 => d1 ?_) (fun hn => d0 (hp (-1) x (fun {p2} hp2 => ?_)))
  · rw [tn1] at h1
    rw [tn60] at h2
    obtain ⟨n, hn⟩ := nat_of (x := a) (by omega)
    refine q_hasHours (by rw [eh]; exact hh) (by omega) (fun c => d1 ⟨n + 1, ?_⟩) (fun c => d0 (hp (-3) x (fun {p2} hp2 => ?_)))
    · rw [eh] at c
      refine op_passL (by omega) hn n 0 x t post (by omega) h (by omega) (fun r x' hx => hp r x' (fun {p2} hp2 => ?_))
      unfold wpX6_pass
      refine r_in (fun _ _ => d1 ?_) (fun q => ?_)
      · rw [t_le, tn9999, t_add (by omega)]
        exact ⟨fun _ => ⟨n + 1, hx t h hp2⟩, fun q => by exfalso; omega⟩
      · rw [t_l, ln1, ln60] at q; exfalso; omega
    · rw [eh] at c
      unfold wpX6_pass
      refine r_in (fun _ _ => d1 ?_) (fun q => ?_)
      · rw [t_le, tn9999, t_add (by omega)]
        exact ⟨fun q => absurd q c, fun _ => hp2 t h⟩
      · rw [t_l, ln1, ln60] at q; exfalso; omega
  · rw [tn1, tn60] at hn
    unfold wpX6_pass
    refine r_in (fun q1 q2 => ?_) (fun q => d0 (hp2 t h))
    rw [t_l, ln1] at q1
    rw [t_l, ln60] at q2
    exact absurd ⟨q1, q2⟩ hn
-- run
theorem op_runL {n : Nat} (hn : n ≤ 24) : ∀ (k i : Nat) (x : wXS) (t0 : wSt) (post : Int32 → wP2 → Prop), i + k = n → REL x t0 → (w_i t0 14).toInt = (n : Int) → (w_i t0 11).toInt + k ≤ 9999 → (∀ r w', (∀ t, REL x t → ∀ {p2 : Int32 → wSt → Prop}, (∀ t', REL (x_sw x w') t' → p2 r t') → wpX6_run_L20 p2 (k + 1) (nI i) t) → post r w') → wpX4_followPlan_L2 post (k + 1) (nI i) (x_w x) := by
  have n9 := tn9
  intro k
  induction k with
  | zero =>
    intro i x t0 post hi h h14 hh hp
    have ei : (nI i).toInt = (i : Int) := nI_toInt (by omega)
    have o3 : w_i (w_o (x_w x)) 3 = w_i t0 14 := h.1.2.2.1.2.2.2.2.2.2.2.1
    show wpX4_followPlan_2 _ post _ _
    unfold wpX4_followPlan_2
    rw [t_le, o3, h14, ei]
    refine ⟨fun _ => hp _ (x_w x) (fun t ht {p2} hp2 => ?_), fun q => by exfalso; omega⟩
    have o3' : w_i (w_o (x_w x)) 3 = w_i t 14 := ht.1.2.2.1.2.2.2.2.2.2.2.1
    show wpX6_run_20 _ p2 _ _
    unfold wpX6_run_20
    rw [t_le, ← o3', o3, h14, ei]
    refine ⟨fun _ => ?_, fun q => by exfalso; omega⟩
    have e : nI i = w_i t0 14 := by rw [t_eq, ei, h14]; omega
    rw [e]
    exact hp2 t ht
  | succ k ih =>
    intro i x t0 post hi h h14 hh hp
    have ei : (nI i).toInt = (i : Int) := nI_toInt (by omega)
    have o3 : w_i (w_o (x_w x)) 3 = w_i t0 14 := h.1.2.2.1.2.2.2.2.2.2.2.1
    have hm := h.m6
    obtain ⟨hpe, hpr⟩ := h.1.2.2.2.2 i (by omega)
    rw [← hpe] at hpr
    have hin : vp_in (nI i) 24 := t_in (by omega)
    have hM14 : ∀ t, REL x t → (w_i t 14).toInt = (n : Int) := fun t ht => by
      have o3' : w_i (w_o (x_w x)) 3 = w_i t 14 := ht.1.2.2.1.2.2.2.2.2.2.2.1
      rw [← o3', o3, h14]
    have hM13 : ∀ t, REL x t → w_a t 13 i = w_a (w_o (x_w x)) 2 i := fun t ht => by
      have := hM14 t ht
      exact (ht.1.2.2.2.2 i (by omega)).1.symm
    have k36 : m_ok (x_w x) (w_a (w_o (x_w x)) 2 i) → wpX4_followPlan_36 (wpX4_followPlan_L2 post (k + 1)) post (nI i) (x_w x) := by
      intro ho
      unfold wpX4_followPlan_36
      rw [t_cl ei]
      refine ⟨hin, both_hour h.1 (by omega) ho (fun r w' hr hex hM => ?_)⟩
      obtain ⟨t1, hW1, e1, hF1⟩ := hex
      intro z1 e
      subst e
      rw [nI_1]
      refine ih (i + 1) (x_sw x z1) t1 post (by omega) (h.gf hW1 hF1) (by rw [hF1.1 14 (by decide)]; exact h14) (by omega) (fun r2 w2 hx2 => hp r2 w2 (fun t ht {p2} hp2 => ?_))
      show wpX6_run_20 _ p2 _ _
      unfold wpX6_run_20
      rw [t_le, hM14 t ht, ei, t_cl ei, hM13 t ht]
      refine ⟨fun q => by exfalso; omega, fun _ => ⟨hin, hM t ht.1 (fun t' hW hF e' => ?_)⟩⟩
      intro z2 e
      subst e
      rw [t_lt, tn0]
      refine ⟨fun q => by exfalso; omega, fun _ => ?_⟩
      rw [nI_1]
      exact hx2 _ (ht.gf hW hF) hp2
    show wpX4_followPlan_2 _ post _ _
    unfold wpX4_followPlan_2
    rw [t_le, o3, h14, ei, t_cl ei, t_eq, tn9]
    refine ⟨fun q => by exfalso; omega, fun _ => ⟨hin, fun c => k36 (Or.inl c), fun c => ⟨hin, q_mayDraw h.fk (fun j hj hc hz => d1 (k36 (Or.inr ⟨j, hj, hc, hz⟩))) (fun hno => d0 (hp _ (x_w x) (fun t ht {p2} hp2 => ?_)))⟩⟩⟩
    have hpt := (h.1.2.2.2.2 i (by omega)).2
    rw [← hpe] at hpt
    obtain ⟨j, hj⟩ := nat_of (x := w_a (w_o (x_w x)) 2 i) (by omega)
    have e5 : w_i t 5 = w_i t0 5 := by rw [← ht.cnt, ← h.cnt]
    have hjc : (j : Int) < (w_i t 5).toInt := by rw [e5]; omega
    have hz := hno j hj (by rw [ht.cnt]; exact hjc)
    have hw := ht.1.2.1.1 j (by omega)
    rw [if_pos hjc] at hw
    have hth := ht.hr
    show wpX6_run_20 _ p2 _ _
    unfold wpX6_run_20
    rw [t_le, hM14 t ht, ei, t_cl ei, hM13 t ht]
    refine ⟨fun q => by exfalso; omega, fun _ => ⟨hin, ?_⟩⟩
    obtain ⟨hRF, ⟨hA1, hA2⟩, -, ⟨hg6, hg7, hg8, hg11, hg12, hg14, hg15⟩, -⟩ := id ht.1
    have hfk := ht.fk.2 j (by rw [ht.cnt]; exact hjc)
    obtain ⟨g0, g1, g2, g3⟩ := hRF.2.2.1 j hjc
    rw [g1] at hfk
    unfold wpX6_goOn
    refine r_begin (fun t1 hb => ?_)
    obtain ⟨bF, b21, b22, b23, b24, b27⟩ := hb
    intro z1 e
    subst e
    have hm' := ht.m6
    refine r_tryOne (by rw [b21]; exact hg6) (by rw [b22]; exact hg7) (by rw [bF.1 8 (by decide)]; exact hg8) (by rw [b24]; omega) (fun q => absurd q c) (fun i' hi' _ q t2 hT => ?_) (fun i' hi' _ q t2 hT => ?_) (Or.inr (by omega)) (fun i' hi' _ => by
        have : i' = j := by omega
        subst this
        rw [bF.2.1 1 (by decide)]; exact hfk.2.1)
    · intro z2 e
      subst e
      refine d0 ?_
      intro z3 e
      subst e
      rw [t_lt, tn0, tnm2]
      refine ⟨fun _ => hp2 _ ?_, fun q => by exfalso; omega⟩
      exact ht.mf (bF.tr hT) (by decide) (by decide)
    · have : i' = j := by omega
      subst this
      rw [b23, b27 i' (by omega)] at q
      exfalso; omega
theorem op_run {x : wXS} {t : wSt} (h : REL x t) {post : Int32 → wXS → Prop} (hp : ∀ r x', (∀ {p2 : Int32 → wSt → Prop}, (∀ t', REL x' t' → p2 r t') → wpX6_run t p2) → post r x') : wpX5_run x post := by
  obtain ⟨eh, hh⟩ := h.hr
  have o3 : w_i (w_o (x_w x)) 3 = w_i t 14 := h.1.2.2.1.2.2.2.2.2.2.2.1
  have hg14 := h.1.2.2.2.1.2.2.2.2.2.1
  obtain ⟨n, hn⟩ := nat_of hg14.1
  unfold wpX5_run
  rw [o3]
  refine q_hasHours (by rw [eh]; exact hh) (by omega) (fun c => d1 ?_) (fun c => d0 (hp (-3) x (fun {p2} hp2 => ?_)))
  · rw [eh] at c
    unfold wpX4_followPlan
    refine ⟨n + 1, op_runL (by omega) n 0 x t _ (by omega) h hn (by omega) (fun r w' hx => ?_)⟩
    intro z1 e
    subst e
    refine hp r _ (fun {p2} hp2 => ?_)
    unfold wpX6_run
    rw [t_le, tn9999, t_add (by omega)]
    exact ⟨fun _ => ⟨n + 1, hx t h hp2⟩, fun q => absurd c q⟩
  · rw [eh] at c
    unfold wpX6_run
    rw [t_le, tn9999, t_add (by omega)]
    exact ⟨fun q => absurd q c, fun _ => hp2 t h⟩
