-- counting rows up: behind place h all stand at the last choice
/-- one place further left: the row at y, all behind it at 0 -/
theorem r_carryL {t0 : wSt} {n N : Nat} (h5 : (w_i t0 5).toInt = (n : Int)) (h6 : n ≤ 6) (hN : N ≤ 5) {R29 : Nat → Int32} {p : Nat → Nat} {h : Nat} {post : Int32 → wSt → Prop} {f : Nat} (hg : ∀ t, FS t0 t → w_a t 29 = R29 → (∀ j, j < h → w_a t 28 j = nI (p j)) → (∀ j, h ≤ j → j < N → w_a t 28 j = 0) → wpX6_nextRow_L4 post f (nI h - 1) t) : ∀ (k : Nat) (t : wSt), h + k ≤ N → FS t0 t → w_a t 29 = R29 → (∀ j, j < h → w_a t 28 j = nI (p j)) → (∀ j, h ≤ j → j < h + k → w_a t 28 j = nI n) → (∀ j, h + k ≤ j → j < N → w_a t 28 j = 0) → wpX6_nextRow_L4 post (f + k) (nI (h + k) - 1) t := by
  have n1 := tn1
  intro k
  induction k with
  | zero => intro t hk hF e29 e1 e2 e3; exact hg t hF e29 e1 e3
  | succ k ih =>
    intro t hk hF e29 e1 e2 e3
    have ey : (nI (h + (k + 1)) - 1).toInt = ((h + k : Nat) : Int) := by rw [t_sub (by rw [nIe (by omega)]; omega), nIe (by omega)]; omega
    have en := nIe (i := n) (by omega)
    have en1 : (nI n + 1).toInt = (n : Int) + 1 := by rw [t_add (by omega), en, n1]
    have hin : vp_in (nI (h + (k + 1)) - 1) 5 := t_in (by omega)
    have e5 : w_i t 5 = w_i t0 5 := hF.1 5 (by decide)
    show wpX6_nextRow_4 _ post _ _
    unfold wpX6_nextRow_4
    rw [t_lt, tn0, ey, t_cl ey]
    refine ⟨fun q => by exfalso; omega, fun _ => ⟨hin, hin, ?_⟩⟩
    rintro z1 rfl
    rw [w_ai, g_u, if_pos rfl, e2 (h + k) (by omega) (by omega)]
    have e5' : w_i (w_sa t 28 (upd (w_a t 28) (h + k) (nI n + 1))) 5 = w_i t0 5 := e5
    rw [e5', t_lt, h5, en1]
    refine ⟨hin, fun _ => ⟨hin, ?_⟩, fun q => by exfalso; omega⟩
    rintro z2 rfl
    have ey2 : nI (h + (k + 1)) - 1 + -1 = nI (h + k) - 1 := by
      rw [t_eq, t_add (by rw [ey, tnm1]; omega), ey, tnm1, t_sub (by rw [nIe (by omega)]; omega), nIe (by omega)]; omega
    rw [ey2]
    refine ih _ (by omega) ((hF.tr (MF.sa.tr MF.sa)).up (by decide) (by decide)) e29 (fun j hj => ?_) (fun j h1 h2 => ?_) (fun j h1 h2 => ?_) <;> (try rw [w_ai, w_ai]) <;> (try rw [w_ai]) <;> simp only [g_u]
    · rw [if_neg (by omega), if_neg (by omega)]; exact e1 j hj
    · rw [if_neg (by omega), if_neg (by omega)]; exact e2 j h1 (by omega)
    · by_cases e : j = h + k
      · rw [if_pos e]
      · rw [if_neg e, if_neg e]; exact e3 j (by omega) h2
