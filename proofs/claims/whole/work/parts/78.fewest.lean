-- fewest
theorem op_fewestL {a : Int32} {t : wSt} : ∀ (k i : Nat) (x : wXS) (post : Int32 → wXS → Prop), i + k = 6 → REL x t → ZR (x_s x) t → (∀ r x', (∀ {p2 : Int32 → wSt → Prop}, (∀ t', REL x' t' → p2 r t') → ∀ t1, FS t t1 → wpX6_fewest_L22 p2 (k + 1) a (nI i) t1) → post r x') → wpX5_fewest_L25 post (k + 1) a (nI i) x := by
  have n5 := tn5
  intro k
  induction k with
  | zero =>
    intro i x post hi h hZ hp
    have ei := nIe (i := i) (by omega)
    show wpX5_fewest_25 _ _ _ _ _
    unfold wpX5_fewest_25
    rw [t_lt, n5, ei]
    refine ⟨fun _ => hp _ _ (fun {p2} p2v t1 hF => ?_), fun q => by exfalso; omega⟩
    show wpX6_fewest_22 _ _ _ _ _
    unfold wpX6_fewest_22
    rw [t_lt, n5, ei]
    exact ⟨fun _ => p2v _ (h.fs hF), fun q => by exfalso; omega⟩
  | succ k ih =>
    intro i x post hi h hZ hp
    obtain ⟨o4, -⟩ := h.1.2.2.1
    have hG := h.1.2.2.2.1
    have ei := nIe (i := i) (by omega)
    show wpX5_fewest_25 _ _ _ _ _
    unfold wpX5_fewest_25
    rw [t_lt, n5, ei, o4]
    refine ⟨fun q => by exfalso; omega, fun _ => z_most hZ ei (by omega) hG.1 (fun r z2 hZ2 hr _ => ?_)⟩
    rintro z1 rfl
    rw [nI_1]
    have ref : ∀ {p2 : Int32 → wSt → Prop} (t1 : wSt), FS t t1 → (∀ t', FS t t' → ((r < a → wpX6_fewest_L22 p2 (k + 1) a (nI (i + 1)) t') ∧ (¬ r < a → p2 (nI i) t'))) → wpX6_fewest_L22 p2 (k + 1 + 1) a (nI i) t1 := by
      intro p2 t1 hF g
      show wpX6_fewest_22 _ _ _ _ _
      unfold wpX6_fewest_22
      rw [t_lt, n5, ei]
      refine ⟨fun q => by exfalso; omega, fun _ => r_best (hZ.fs hF) ei (by omega) (by rw [hF.1 6 (by decide)]; exact hG.1) (fun r' t' f1 hr' _ => ?_)⟩
      intro u e9; subst u
      have e : r' = r := by
        rw [t_eq, hr', hr, m_best_fs hF, hF.1 6 (by decide)]
      rw [e, nI_1]
      exact g _ (hF.tr f1)
    refine ⟨fun c => ih (i + 1) (x_ss x z2) post (by omega) h hZ2 (fun r' x' G => hp r' x' (fun {p2} p2v t1 hF => ref t1 hF (fun t' hF' => ⟨fun _ => G p2v t' hF', fun q => absurd c q⟩))), fun c => hp _ _ (fun {p2} p2v t1 hF => ref t1 hF (fun t' hF' => ⟨fun q => absurd q c, fun _ => p2v _ ?_⟩))⟩
    exact REL.fs (x := x_ss x z2) h hF'
theorem op_fewest {a : Int32} {x : wXS} {t : wSt} (h : REL x t) {post : Int32 → wXS → Prop} (hp : ∀ r x', (∀ {p2 : Int32 → wSt → Prop}, (∀ t', REL x' t' → p2 r t') → wpX6_fewest a t p2) → post r x') : wpX5_fewest a x post := by
  obtain ⟨o4, -⟩ := h.1.2.2.1
  have hG := h.1.2.2.2.1
  have n0 := tn0
  have n5 := tn5
  have n99 := tn99
  unfold wpX5_fewest
  refine q_within (fun h1 h2 => d1 (q_observe (fun z' hO => ?_))) (fun hn => d0 (hp _ _ (fun {p2} p2v => ?_)))
  · rw [n0] at h1; rw [n99] at h2
    have hZ := ZR.ob hO h.1
    rintro z1 rfl
    refine ⟨5 + 1 + 1, ?_⟩
    show wpX5_fewest_25 _ _ _ _ _
    unfold wpX5_fewest_25
    refine ⟨fun q => by exfalso; rw [t_lt, n5, n0] at q; omega, fun _ => z_most (z := z') (t := t) (N := 0) hZ (by decide) (by omega) (by show -9 ≤ (w_i (w_o (x_w x)) 4).toInt ∧ (w_i (w_o (x_w x)) 4).toInt ≤ 9; rw [o4]; exact hG.1) (fun r z2 hZ2 hr _ => ?_)⟩
    have hr0 : r.toInt = 0 := hr
    rintro z2 rfl
    rw [t_lt, hr0, (by decide : (0 : Int32) + 1 = nI 1)]
    refine ⟨fun c => op_fewestL 5 1 _ post (by omega) (t := t) h hZ2 (fun r' x' G => hp r' x' (fun {p2} p2v => ?_)), fun c => hp _ _ (fun {p2} p2v => ?_)⟩
    · unfold wpX6_fewest
      refine r_in (fun _ _ => d1 ?_) (fun hn => absurd (by rw [t_l, ln0, ln99]; omega) hn)
      rw [t_eq, n0]
      exact ⟨fun _ => ⟨5 + 1, G p2v t FS.rf⟩, fun q => by exfalso; omega⟩
    · unfold wpX6_fewest
      refine r_in (fun _ _ => d1 ?_) (fun hn => absurd (by rw [t_l, ln0, ln99]; omega) hn)
      rw [t_eq, n0]
      exact ⟨fun q => by exfalso; omega, fun _ => p2v _ h⟩
  · rw [n0, n99] at hn
    unfold wpX6_fewest
    refine r_in (fun g1 g2 => absurd ?_ hn) (fun _ => d0 (p2v t h))
    rw [t_l, ln0] at g1; rw [t_l, ln99] at g2
    exact ⟨g1, g2⟩
