-- the class' search begins at what it has observed
/-- the search has seen the well -/
def OB (z w : wP2) : Prop := (w_i (w_f z) 4 = w_i (w_f w) 4 ∧ ∀ q j : Nat, q < 4 → j < 6 → w_a (w_f z) q j = w_a (w_f w) q j) ∧ (∀ j : Nat, j < 6 → w_a (w_o z) 1 j = w_a (w_o w) 1 j) ∧ w_i (w_o z) 4 = w_i (w_o w) 5 ∧ w_i (w_o z) 5 = w_i (w_o w) 6 ∧ w_i (w_o z) 6 = w_i (w_o w) 10
theorem q_observe {z w : wP2} {post : wP2 × wP2 → Prop} (h : ∀ z', OB z' w → post (z', w)) : wpX1_observe (z, w) post := by
  have n0 : (0 : Int32).toNatClampNeg = 0 := by decide
  have n6 : (6 : Int32).toNatClampNeg = 6 := by decide
  unfold wpX1_observe
  refine q_become0 (fun a' h4 ha => ?_)
  rintro z1 rfl
  obtain ⟨K, eK⟩ : ∃ K : wP2, K = w_sf z a' := ⟨_, rfl⟩
  have eW : w_sf w (w_f w) = w := rfl
  simp only [eW, ← eK]
  refine ⟨by decide, by decide, by decide, by decide, by decide, ?_⟩
  rintro z2 rfl
  simp only []
  rintro z3 rfl
  simp only [g_oo, w_so_so]
  rintro z4 rfl
  simp only [g_oo, w_so_so]
  rintro z5 rfl
  try simp only [g_oo, w_so_so]
  rw [n0, n6]
  subst eK
  refine h _ ⟨⟨h4, ha⟩, fun j hj => ?_, rfl, rfl, rfl⟩
  show va_cpy (w_a (w_o w) 1) (w_a (w_o z) 1) 0 0 6 j = _
  exact cpy_at hj
theorem q_mostIn {P : PP} {N : Nat} {z : wP2} {s : SS} {n m : Int32} {post : Int32 → wP2 → Prop} (hn : n.toInt = (N : Int)) (hN : N ≤ 5) (hX0 : SX P N (w_so z (w_si (w_o z) 7 n))) (hF : SF P z s) (hM : SM P m (w_i (w_o z) 4) (w_i (w_o z) 6) s) (hp : ∀ r z', SK (w_so z (w_si (w_o z) 7 n)) z' → SF P z' s → SB P N z' (dfs P N 0 s 0 (fun _ => 0) (-1, fun _ => 0)) → r.toInt = (dfs P N 0 s 0 (fun _ => 0) (-1, fun _ => 0)).1 → post r z') : wpX1_mostIn n m z post := by
  have n5 := tn5
  have e5 : (if (5 : Int32) < n then (5 : Int32) else n) = n := by
    rw [if_neg]
    rw [t_lt, n5]; omega
  unfold wpX1_mostIn wpX1_tryHour
  rw [e5]
  rintro z1 rfl
  rintro z2 rfl
  refine q_tryHour (P := P) (N := N) N 7 0 _ s (-1, fun _ => 0) (fun _ => 0) m _ _ 0 0 _ (by omega) (by omega) ?_ hF (fun j hj => by omega) ⟨tnm1, ⟨by show (-1 : Int) ≤ -1; omega, by show (-1 : Int) ≤ 45; omega⟩, fun q => by exfalso; have q' : (0 : Int) ≤ -1 := q; omega⟩ hM ⟨tn0, by omega, by omega⟩ (fun z' g1 g2 g3 g4 => ?_)
  · exact hX0
  · rintro z3 rfl
    exact hp _ _ ⟨g1.1, fun k hk => (g1.2 k hk).trans (by show (if k = 8 then _ else _) = _; rw [if_neg hk] <;> rfl)⟩ g2 g4 g4.1
