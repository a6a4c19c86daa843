def FS (t0 t : wSt) : Prop := MF [21, 22, 23, 24, 25, 26] [27, 28, 29] t0 t
theorem r_L48 {k25 : Int32 → Int32 → Int32 → Int32 → wSt → Prop} {post : Int32 → wSt → Prop} {x1 x2 x3 : Int32} {N : Nat} (hx1 : x1.toInt = (N : Int)) (hN : N ≤ 5) {t0 : wSt} (hW : MW t0) {row : Nat → Nat} {R28 R29 : Nat → Int32} (hrow : ∀ j : Nat, j < N → R28 j = nI (row j) ∧ (row j : Int) ≤ (w_i t0 5).toInt) : ∀ (k h : Nat) (t : wSt) (s : SS) (A : Int) (acc : Int32), h + k = N → FS t0 t → w_a t 28 = R28 → w_a t 29 = R29 → MS t0 t h s → (acc.toInt = A ∧ 0 ≤ A ∧ A ≤ 9 * (h : Int)) → (∀ t' v acc', FS t0 t' → w_a t' 28 = R28 → w_a t' 29 = R29 → ev (mP t0) row k h s = some v → acc'.toInt = A + v → wpX6_findMost_122 k25 post x1 x2 x3 acc' 1 t') → (∀ t' acc', FS t0 t' → w_a t' 28 = R28 → w_a t' 29 = R29 → ev (mP t0) row k h s = none → wpX6_findMost_122 k25 post x1 x2 x3 acc' 0 t') → wpX6_findMost_L48 k25 post (k + 2) x1 x2 x3 acc 1 (nI h) t := by
  have n1 := tn1
  intro k
  induction k with
  | zero =>
    intro h t s A acc hh hF e28 e29 hS hA g1 g0
    have eh := nIe (i := h) (by omega)
    show wpX6_findMost_48 _ _ post _ _ _ _ _ _ _
    unfold wpX6_findMost_48
    rw [t_le, hx1, eh]
    exact ⟨fun _ => g1 t 0 acc hF e28 e29 rfl (by rw [hA.1]; omega), fun q => by exfalso; omega⟩
  | succ k ih =>
    intro h t s A acc hh hF e28 e29 hS hA g1 g0
    have eh := nIe (i := h) (by omega)
    obtain ⟨r1, r2⟩ := hrow h (by omega)
    have er := nIe (i := row h) (by have := hW.1; omega)
    have e5 : w_i t 5 = w_i t0 5 := hF.1 5 (by decide)
    have hin : vp_in (nI h) 5 := t_in (by omega)
    obtain ⟨⟨n0, n6⟩, ⟨w0, w9⟩, ⟨h0, h9⟩, hrw⟩ := id hW
    obtain ⟨⟨m1, m2, m3⟩, ⟨l1, l2, l3⟩, ⟨a1, a2⟩, c1', c2⟩ := id hS
    have pn : p_n (mP t0) = (w_i t0 5).toInt.toNat := rfl
    have stop : ∀ (t' : wSt) (a' : Int32) (hd : Int32), FS t0 t' → w_a t' 28 = R28 → w_a t' 29 = R29 → ev (mP t0) row (k + 1) h s = none → wpX6_findMost_L48 k25 post (k + 2) x1 x2 x3 a' 0 hd t' := by
      intro t' a' hd f1 f2 f3 f4
      show wpX6_findMost_48 _ _ post _ _ _ _ _ _ _
      unfold wpX6_findMost_48
      exact ⟨fun _ => g0 t' a' f1 f2 f3 f4, fun _ => ⟨fun _ => g0 t' a' f1 f2 f3 f4, fun q => absurd rfl q⟩⟩
    have k86 : ∀ one : Int32, (((row h : Int) = (w_i t0 5).toInt ∧ one = 9) ∨ ((row h : Int) < (w_i t0 5).toInt ∧ one = nI (row h))) → wpX6_findMost_86 k25 (wpX6_findMost_L48 k25 post (k + 2)) post x1 x2 x3 acc (nI h) one t := by
      intro one ho
      have hone : (one.toInt = 9 ∧ (row h : Int) = (w_i t0 5).toInt) ∨ (one.toInt = (row h : Int) ∧ (row h : Int) < (w_i t0 5).toInt) := by
        rcases ho with ⟨a, b⟩ | ⟨a, b⟩
        · exact Or.inl ⟨by rw [b, tn9], a⟩
        · exact Or.inr ⟨by rw [b]; exact er, a⟩
      unfold wpX6_findMost_86 wpX6_findMost_112 wpX6_findMost_113
      refine r_tryOne (by omega) (by omega) (by rw [hF.1 8 (by decide)]; omega) (by omega) (fun h9 t' hT => ?_) (fun i hi q9 q t' hT => ?_) (fun i hi q9 q t' hT => ?_) (by omega) (fun i hi q9 => ?_)
      · have hrn : (row h : Int) = (w_i t0 5).toInt := by omega
        obtain ⟨tF, tm, tl, th, ta, tr, ts⟩ := hT
        intro z1 e
        subst z1
        refine ⟨fun q => absurd q (by decide), fun _ => ⟨fun _ => ?_, fun q => absurd ts q⟩⟩
        rw [i_add0, nI_1]
        have est : g_st (mP t0) h s (row h) = (m_wane (y_m s), m_rain (y_l s) (w_i t0 8).toInt, 9, y_f s) := by unfold g_st; rw [if_neg (by omega)]; rfl
        have egs : g_s (mP t0) s (row h) = 0 := by unfold g_s; rw [if_neg (by omega)]
        have eev : ev (mP t0) row (k + 1) h s = (ev (mP t0) row k (h + 1) (g_st (mP t0) h s (row h))).map (fun v => g_s (mP t0) s (row h) + v) := by
          show (if _ then _ else _) = _
          rw [if_pos (Or.inl (by omega))]
        have hmr := m_wane_rng (x := y_m s) ⟨m2, m3⟩
        refine ih (h + 1) t' (g_st (mP t0) h s (row h)) A acc (by omega) ((hF.tr tF).up (by decide) (by decide)) (by rw [tF.2.1 28 (by decide)]; exact e28) (by rw [tF.2.1 29 (by decide)]; exact e29) ?_ ⟨hA.1, hA.2.1, by omega⟩ (fun t2 v a' f1 f2 f3 f4 f5 => g1 t2 v a' f1 f2 f3 ?_ f5) (fun t2 a' f1 f2 f3 f4 => g0 t2 a' f1 f2 f3 ?_)
        · rw [est]
          refine ⟨⟨by rw [tm, m1]; rfl, hmr.1, hmr.2⟩, ⟨by rw [tl, l1, hF.1 8 (by decide)]; rfl, ?_, ?_⟩, ⟨by rw [ta]; exact h9, Or.inl rfl⟩, ?_, fun j hj => ?_⟩
          · show 0 ≤ m_rain (y_l s) (w_i t0 8).toInt; unfold m_rain; omega
          · show m_rain (y_l s) (w_i t0 8).toInt ≤ 999; unfold m_rain; omega
          · rw [th, t_add (by omega), c1', n1]; omega
          · rw [tF.2.1 27 (by decide)]; exact c2 j hj
        · rw [eev, f4, egs]; show some (0 + v) = some v; rw [Int.zero_add]
        · rw [eev, f4]; rfl
      · have ei : i = row h := by omega
        subst ei
        intro z1 e
        subst z1
        refine ⟨fun _ => ?_, fun q => absurd rfl q⟩
        have hc := c2 (row h) (by omega)
        refine stop t' _ _ ((hF.tr hT).up (by decide) (by decide)) (by rw [hT.2.1 28 (by decide)]; exact e28) (by rw [hT.2.1 29 (by decide)]; exact e29) ?_
        show (if _ then _ else _) = none
        rw [if_neg]
        rintro (q' | q') <;> omega
      · have ei : i = row h := by omega
        subst ei
        have hc := c2 (row h) (by omega)
        obtain ⟨s1, s2, s3⟩ := ms_step hW hF hS (by omega) (by omega) hi hT
        obtain ⟨tF, -⟩ := hT
        have hgp := g_p_rng (P := mP t0) (s := s) (c := row h) l2
        have eev : ev (mP t0) row (k + 1) h s = (ev (mP t0) row k (h + 1) (g_st (mP t0) h s (row h))).map (fun v => g_s (mP t0) s (row h) + v) := by
          show (if _ then _ else _) = _
          rw [if_pos (Or.inr (by omega))]
        have go : ∀ d : Int32, d.toInt = g_s (mP t0) s (row h) → (0 ≤ d.toInt ∧ d.toInt ≤ 9) → wpX6_findMost_L48 k25 post (k + 2) x1 x2 x3 (acc + d) 1 (nI (h + 1)) t' := by
          intro d hd hd9
          refine ih (h + 1) t' (g_st (mP t0) h s (row h)) (A + g_s (mP t0) s (row h)) (acc + d) (by omega) ((hF.tr tF).up (by decide) (by decide)) (by rw [tF.2.1 28 (by decide)]; exact e28) (by rw [tF.2.1 29 (by decide)]; exact e29) s1 ⟨by rw [t_add (by omega), hA.1, hd], by omega, by omega⟩ (fun t2 v a' f1 f2 f3 f4 f5 => g1 t2 (g_s (mP t0) s (row h) + v) a' f1 f2 f3 (by rw [eev, f4]; rfl) (by omega)) (fun t2 a' f1 f2 f3 f4 => g0 t2 a' f1 f2 f3 (by rw [eev, f4]; rfl))
        intro z1 e
        subst z1
        rw [nI_1]
        rcases s3 with ⟨u1, u2⟩ | ⟨u1, u2⟩
        · exact ⟨fun q => absurd q (by decide), fun _ => ⟨fun q => by rw [u1] at q; exact absurd q (by decide), fun _ => go _ (by rw [s2, u2]) (by omega)⟩⟩
        · exact ⟨fun q => absurd q (by decide), fun _ => ⟨fun _ => go 0 (by rw [tn0, u2]) (by rw [tn0]; omega), fun q => absurd u1 q⟩⟩
      · have ei : i = row h := by omega
        subst ei
        rw [hF.2.1 1 (by decide)]
        exact (hrw (row h) (by omega)).1
    show wpX6_findMost_48 _ _ post _ _ _ _ _ _ _
    unfold wpX6_findMost_48
    rw [t_le, hx1, eh, t_cl eh, e28, r1, e5]
    refine ⟨fun q => by exfalso; omega, fun _ => ⟨fun q => absurd q (by decide), fun _ => ⟨hin, fun ne => ⟨hin, k86 _ (Or.inr ⟨?_, rfl⟩)⟩, fun eq => k86 _ (Or.inl ⟨?_, rfl⟩)⟩⟩⟩
    · rw [t_eq, er] at ne; omega
    · rw [t_eq, er] at eq; exact eq
