-- the best row is kept
theorem r_L139 {k25 : Int32 → Int32 → Int32 → Int32 → wSt → Prop} {post : Int32 → wSt → Prop} {x1 x2 x3 : Int32} {N : Nat} (hx1 : x1.toInt = (N : Int)) (hN : N ≤ 5) {t0 : wSt} {P : PP} (h5 : (w_i t0 5).toInt = (p_n P : Int)) (h6 : p_n P ≤ 6) {row : Nat → Nat} {R28 : Nat → Int32} (hrow : ∀ j : Nat, j < N → R28 j = nI (row j) ∧ row j ≤ p_n P) : ∀ (k h : Nat) (t : wSt), h + k = N → FS t0 t → w_a t 28 = R28 → (∀ j, j < h → w_a t 29 j = enc P (row j)) → (∀ t', FS t0 t' → w_a t' 28 = R28 → (∀ j, j < N → w_a t' 29 j = enc P (row j)) → wpX6_findMost_184 k25 post x1 x2 x3 t') → wpX6_findMost_L139 k25 post (k + 1) x1 x2 x3 (nI h) t := by
  intro k
  induction k with
  | zero =>
    intro h t hh hF e28 e29 g
    have eh := nIe (i := h) (by omega)
    show wpX6_findMost_139 _ _ post _ _ _ _ _
    unfold wpX6_findMost_139
    rw [t_le, hx1, eh]
    exact ⟨fun _ => g t hF e28 (fun j hj => e29 j (by omega)), fun q => by exfalso; omega⟩
  | succ k ih =>
    intro h t hh hF e28 e29 g
    have eh := nIe (i := h) (by omega)
    obtain ⟨r1, r2⟩ := hrow h (by omega)
    have er := nIe (i := row h) (by omega)
    have e5 : w_i t 5 = w_i t0 5 := hF.1 5 (by decide)
    have hin : vp_in (nI h) 5 := t_in (by omega)
    have k177 : ∀ v : Int32, v = enc P (row h) → wpX6_findMost_177 k25 (wpX6_findMost_L139 k25 post (k + 1)) post x1 x2 x3 (nI h) v (nI h) t := by
      intro v hv
      unfold wpX6_findMost_177
      rw [t_cl eh]
      refine ⟨hin, ?_⟩
      rintro z1 rfl
      rw [nI_1]
      refine ih (h + 1) _ (by omega) ((hF.tr MF.sa).up (by decide) (by decide)) e28 (fun j hj => ?_) g
      rw [w_ai, g_u]
      by_cases e : j = h
      · rw [if_pos e, hv, e]
      · rw [if_neg e]; exact e29 j (by omega)
    show wpX6_findMost_139 _ _ post _ _ _ _ _
    unfold wpX6_findMost_139
    rw [t_le, hx1, eh, t_cl eh, e28, r1, e5]
    refine ⟨fun q => by exfalso; omega, fun _ => ⟨hin, fun ne => ⟨hin, k177 _ ?_⟩, fun eq => k177 _ ?_⟩⟩
    · rw [t_eq, er, h5] at ne
      rw [enc_lt (by omega)]
    · rw [t_eq, er, h5] at eq
      have : row h = p_n P := by omega
      rw [this, enc_n]
