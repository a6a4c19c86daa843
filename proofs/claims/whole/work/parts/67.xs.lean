-- the class' search keeps step with dfs
def enc (P : PP) (c : Nat) : Int32 := if p_n P ≤ c then 9 else nI c
def SX (P : PP) (N : Nat) (z : wP2) : Prop := FK (w_f z) ∧ (w_i (w_f z) 4).toInt = (p_n P : Int) ∧ (∀ i : Nat, i < p_n P → (w_a (w_f z) 0 i).toInt = p_k P i ∧ (w_a (w_f z) 1 i).toInt = p_f P i ∧ (w_a (w_f z) 2 i).toInt = p_r P i) ∧ (∀ i j : Nat, i < p_n P → j < p_n P → (m_foe (w_f z) j i ↔ p_q P i j = true)) ∧ ((w_i (w_o z) 5).toInt = p_w P ∧ 0 ≤ p_w P ∧ p_w P ≤ 9) ∧ (w_i (w_o z) 7).toInt = (N : Int) ∧ N ≤ 5
def SF (P : PP) (z : wP2) (s : SS) : Prop := ∀ j : Nat, j < p_n P → (w_a (w_o z) 1 j).toInt = y_f s j ∧ 0 ≤ y_f s j ∧ y_f s j ≤ 20
def SB (P : PP) (N : Nat) (z : wP2) (b : BB) : Prop := (w_i (w_o z) 8).toInt = b.1 ∧ (-1 ≤ b.1 ∧ b.1 ≤ 45) ∧ (0 ≤ b.1 → ∀ j : Nat, j < N → w_a (w_o z) 3 j = enc P (b.2 j))
def SP (P : PP) (z : wP2) (h : Nat) (p : Nat → Nat) : Prop := ∀ j : Nat, j < h → w_a (w_o z) 2 j = enc P (p j)
def SM (P : PP) (m l a : Int32) (s : SS) : Prop := (m.toInt = y_m s ∧ -9 ≤ y_m s ∧ y_m s ≤ 9) ∧ (l.toInt = y_l s ∧ 0 ≤ y_l s ∧ y_l s ≤ 999) ∧ (a.toInt = y_a s ∧ (y_a s = 9 ∨ (0 ≤ y_a s ∧ y_a s < (p_n P : Int))))
/-- what a search leaves as it was -/
def SK (z z' : wP2) : Prop := w_f z' = w_f z ∧ ∀ k, k ≠ 8 → w_i (w_o z') k = w_i (w_o z) k
theorem SK.tr {z z' z'' : wP2} (h : SK z z') (h' : SK z' z'') : SK z z'' := ⟨h'.1.trans h.1, fun k hk => (h'.2 k hk).trans (h.2 k hk)⟩
theorem SX.sk {P : PP} {N : Nat} {z z' : wP2} (h : SX P N z) (k : SK z z') : SX P N z' := by
  unfold SX at *
  rw [k.1, k.2 5 (by decide), k.2 7 (by decide)]
  exact h
theorem q_keep {P : PP} {N : Nat} {z : wP2} {acc : Int32} {A : Int} {p : Nat → Nat} {b : BB} {s : SS} {post : wP2 → Prop} (h : SX P N z) (hF : SF P z s) (hP : SP P z N p) (hB : SB P N z b) (hA : acc.toInt = A ∧ 0 ≤ A ∧ A ≤ 45) (hp : ∀ z', SK z z' → SF P z' s → SP P z' N p → SB P N z' (if b.1 < A then (A, p) else b) → post z') : wpX1_keep acc z post := by
  obtain ⟨h1, h2, h3, h4, h5, h7, hN⟩ := id h
  unfold wpX1_keep
  rw [t_le, hB.1, hA.1]
  refine ⟨fun c => ?_, fun c => ?_⟩
  · refine hp z ⟨rfl, fun _ _ => rfl⟩ hF hP ?_
    rw [if_neg (by omega)]
    exact hB
  · rintro z1 rfl
    have e7 : w_i (w_o (w_so z (w_si (w_o z) 8 acc))) 7 = w_i (w_o z) 7 := rfl
    have c0 : (0 : Int32).toNatClampNeg = 0 := by decide
    rw [e7, c0, t_cl h7]
    refine ⟨by decide, by decide, fun q => by (rw [t_lt, h7, tn0] at q; omega), by omega, by omega, ?_⟩
    rintro z2 rfl
    refine hp _ ⟨rfl, fun k hk => ?_⟩ hF hP ?_
    · show (if k = 8 then _ else _) = _
      rw [if_neg hk] <;> rfl
    · rw [if_pos (by omega)]
      refine ⟨hA.1, ⟨by show -1 ≤ A; omega, by show A ≤ 45; omega⟩, fun _ j hj => ?_⟩
      show va_cpy (w_a (w_o z) 2) (w_a (w_o z) 3) 0 0 N j = _
      rw [cpy_at hj]
      exact hP j hj
