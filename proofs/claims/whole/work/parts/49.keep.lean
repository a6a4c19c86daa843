theorem i_add0 (a : Int32) : a + 0 = a := by
  have := t_rng a
  rw [t_eq, t_add (by rw [tn0]; omega), tn0]; omega
-- the reference keeps the try
def KP (t t' : wSt) : Prop := MF [6, 7, 9, 10, 11, 12] [4] t t' ∧ w_i t' 6 = w_i t 21 ∧ w_i t' 7 = w_i t 22 ∧ w_i t' 11 = w_i t 23 ∧ w_i t' 12 = w_i t 24 ∧ ((w_i t 26 = 0 ∧ w_i t' 9 = w_i t 9 ∧ w_i t' 10 = w_i t 10 + w_i t 25) ∨ (w_i t 26 ≠ 0 ∧ w_i t' 9 = w_i t 9 + w_i t 25 ∧ w_i t' 10 = w_i t 10)) ∧ ∀ j, j < 6 → w_a t' 4 j = w_a t 27 j
theorem r_keep82 {t : wSt} {post : wSt → Prop} (h : ∀ g' : Nat → Int32, (∀ j, j < 6 → g' j = w_a t 27 j) → post (w_sa t 4 g')) : ∃ n, wpX6_keep_L82 post n (0 : Int32) t := by
  have key := r_keepL (t := t) (post := post) 6 0 (w_a t 4) (by omega) (fun g' _ h2 => h g' (fun j hj => h2 j (by omega) hj))
  rw [w_sa_self] at key
  exact key
theorem r_keep {t : wSt} {post : wSt → Prop} (h : ∀ t', KP t t' → post t') : wpX6_keep t post := by
  unfold wpX6_keep
  rintro z1 rfl
  rintro z2 rfl
  rintro z3 rfl
  rintro z4 rfl
  have e26 : w_i (w_si (w_si (w_si (w_si t 6 (w_i t 21)) 7 (w_i (w_si t 6 (w_i t 21)) 22)) 11 (w_i (w_si (w_si t 6 (w_i t 21)) 7 (w_i (w_si t 6 (w_i t 21)) 22)) 23)) 12 (w_i (w_si (w_si (w_si t 6 (w_i t 21)) 7 (w_i (w_si t 6 (w_i t 21)) 22)) 11 (w_i (w_si (w_si t 6 (w_i t 21)) 7 (w_i (w_si t 6 (w_i t 21)) 22)) 23)) 24)) 26 = w_i t 26 := rfl
  rw [e26]
  refine ⟨fun c => ?_, fun c => ?_⟩
  · unfold wpX6_keep_52
    rintro z5 rfl
    have e26' : ∀ v : Int32, w_i (w_si (w_si (w_si (w_si (w_si t 6 (w_i t 21)) 7 (w_i (w_si t 6 (w_i t 21)) 22)) 11 (w_i (w_si (w_si t 6 (w_i t 21)) 7 (w_i (w_si t 6 (w_i t 21)) 22)) 23)) 12 (w_i (w_si (w_si (w_si t 6 (w_i t 21)) 7 (w_i (w_si t 6 (w_i t 21)) 22)) 11 (w_i (w_si (w_si t 6 (w_i t 21)) 7 (w_i (w_si t 6 (w_i t 21)) 22)) 23)) 24)) 9 v) 26 = w_i t 26 := fun v => rfl
    rw [e26']
    refine ⟨fun _ => ?_, fun q => absurd c q⟩
    unfold wpX6_keep_76
    rintro z6 rfl
    refine r_keep82 (fun g' hg => h _ ⟨⟨fun k hk => ?_, fun k hk => ?_, fun k => rfl⟩, rfl, rfl, rfl, rfl, Or.inl ⟨c, ?_, rfl⟩, fun j hj => ?_⟩)
    · simp only [List.mem_cons, List.not_mem_nil, or_false, not_or] at hk
      show (if k = 10 then _ else if k = 9 then _ else if k = 12 then _ else if k = 11 then _ else if k = 7 then _ else if k = 6 then _ else _) = _
      rw [if_neg hk.2.2.2.1, if_neg hk.2.2.1, if_neg hk.2.2.2.2.2, if_neg hk.2.2.2.2.1, if_neg hk.2.1, if_neg hk.1] <;> rfl
    · simp only [List.mem_cons, List.not_mem_nil, or_false] at hk
      show (if k = 4 then _ else _) = _
      rw [if_neg hk] <;> rfl
    · show w_i t 9 + 0 = w_i t 9
      exact i_add0 _
    · rw [w_ai]; exact hg j hj
  · unfold wpX6_keep_52
    rintro z5 rfl
    have e26' : ∀ v : Int32, w_i (w_si (w_si (w_si (w_si (w_si t 6 (w_i t 21)) 7 (w_i (w_si t 6 (w_i t 21)) 22)) 11 (w_i (w_si (w_si t 6 (w_i t 21)) 7 (w_i (w_si t 6 (w_i t 21)) 22)) 23)) 12 (w_i (w_si (w_si (w_si t 6 (w_i t 21)) 7 (w_i (w_si t 6 (w_i t 21)) 22)) 11 (w_i (w_si (w_si t 6 (w_i t 21)) 7 (w_i (w_si t 6 (w_i t 21)) 22)) 23)) 24)) 9 v) 26 = w_i t 26 := fun v => rfl
    rw [e26']
    refine ⟨fun q => absurd q c, fun _ => ?_⟩
    unfold wpX6_keep_76
    rintro z6 rfl
    refine r_keep82 (fun g' hg => h _ ⟨⟨fun k hk => ?_, fun k hk => ?_, fun k => rfl⟩, rfl, rfl, rfl, rfl, Or.inr ⟨c, rfl, ?_⟩, fun j hj => ?_⟩)
    · simp only [List.mem_cons, List.not_mem_nil, or_false, not_or] at hk
      show (if k = 10 then _ else if k = 9 then _ else if k = 12 then _ else if k = 11 then _ else if k = 7 then _ else if k = 6 then _ else _) = _
      rw [if_neg hk.2.2.2.1, if_neg hk.2.2.1, if_neg hk.2.2.2.2.2, if_neg hk.2.2.2.2.1, if_neg hk.2.1, if_neg hk.1] <;> rfl
    · simp only [List.mem_cons, List.not_mem_nil, or_false] at hk
      show (if k = 4 then _ else _) = _
      rw [if_neg hk] <;> rfl
    · show w_i t 10 + 0 = w_i t 10
      exact i_add0 _
    · rw [w_ai]; exact hg j hj
/-- the fields that an hour of the reference writes -/
def GF (t t' : wSt) : Prop := MF [6, 7, 9, 10, 11, 12, 21, 22, 23, 24, 25, 26] [4, 27] t t'
theorem RF.eq {f t t' : wSt} (h : RF f t) (e5 : w_i t' 5 = w_i t 5) (a0 : w_a t' 0 = w_a t 0) (a1 : w_a t' 1 = w_a t 1) (a2 : w_a t' 2 = w_a t 2) (a3 : w_a t' 3 = w_a t 3) : RF f t' := by
  unfold RF at *
  rw [e5, a0, a1, a2, a3]
  exact h
