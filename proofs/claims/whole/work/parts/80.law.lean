-- the law's loop
theorem law_folk {k18 : Int32 → (wXS × wSt) → Prop} {L : Nat} {xs : Nat → Int32} {x3 : Int32} {x : wXS} {t : wSt} (h : REL x t) (V : ∀ d : Nat, d < 7 → vp_in (x3 + nI d) L) (E : ∀ (r : Int32) (x' : wXS) (t' : wSt), REL x' t' → ((r = r → wplaw_1176 k18 L xs x3 (x', t')) ∧ (¬ r = r → False))) : wplaw_168 k18 L xs x3 (x, t) := by
  unfold wplaw_168
  refine ⟨V 1 (by omega), V 2 (by omega), V 3 (by omega), op_folk h (fun r x' g => ?_)⟩
  rintro z1 rfl
  refine ⟨V 1 (by omega), V 2 (by omega), V 3 (by omega), g (fun t' h' => ?_)⟩
  rintro z2 rfl
  exact E r x' t' h'
theorem law_told {k18 : Int32 → (wXS × wSt) → Prop} {L : Nat} {xs : Nat → Int32} {x3 : Int32} {x : wXS} {t : wSt} (h : REL x t) (V : ∀ d : Nat, d < 7 → vp_in (x3 + nI d) L) (E : ∀ (r : Int32) (x' : wXS) (t' : wSt), REL x' t' → ((r = r → wplaw_1176 k18 L xs x3 (x', t')) ∧ (¬ r = r → False))) : wplaw_211 k18 L xs x3 (x, t) := by
  unfold wplaw_211
  exact ⟨V 1 (by omega), V 2 (by omega), op_told h (fun r g => ⟨V 1 (by omega), V 2 (by omega), g (E r x t h)⟩)⟩
theorem law_quarrel {k18 : Int32 → (wXS × wSt) → Prop} {L : Nat} {xs : Nat → Int32} {x3 : Int32} {x : wXS} {t : wSt} (h : REL x t) (V : ∀ d : Nat, d < 7 → vp_in (x3 + nI d) L) (E : ∀ (r : Int32) (x' : wXS) (t' : wSt), REL x' t' → ((r = r → wplaw_1176 k18 L xs x3 (x', t')) ∧ (¬ r = r → False))) : wplaw_244 k18 L xs x3 (x, t) := by
  unfold wplaw_244
  unfold wplaw_268 wplaw_295
  refine ⟨V 1 (by omega), V 2 (by omega), V 3 (by omega), fun q0 => op_quarrel (is := false) (by decide) h (fun r x' g => ?_), fun q0 => op_quarrel (is := true) (by decide) h (fun r x' g => ?_)⟩
  · rintro z1 rfl
    refine ⟨V 1 (by omega), V 2 (by omega), V 3 (by omega), fun _ => g (fun t' h' => ?_), fun q => absurd q0 q⟩
    rintro z2 rfl
    exact E r x' t' h'
  · rintro z1 rfl
    refine ⟨V 1 (by omega), V 2 (by omega), V 3 (by omega), fun q => absurd q q0, fun _ => g (fun t' h' => ?_)⟩
    rintro z2 rfl
    exact E r x' t' h'
theorem law_set {k18 : Int32 → (wXS × wSt) → Prop} {L : Nat} {xs : Nat → Int32} {x3 : Int32} {x : wXS} {t : wSt} (h : REL x t) (V : ∀ d : Nat, d < 7 → vp_in (x3 + nI d) L) (E : ∀ (r : Int32) (x' : wXS) (t' : wSt), REL x' t' → ((r = r → wplaw_1176 k18 L xs x3 (x', t')) ∧ (¬ r = r → False))) : wplaw_303 k18 L xs x3 (x, t) := by
  unfold wplaw_303
  refine ⟨V 1 (by omega), V 2 (by omega), op_set h (fun r x' g => ?_)⟩
  rintro z1 rfl
  refine ⟨V 1 (by omega), V 2 (by omega), g (fun t' h' => ?_)⟩
  rintro z2 rfl
  exact E r x' t' h'
theorem law_is {k18 : Int32 → (wXS × wSt) → Prop} {L : Nat} {xs : Nat → Int32} {x3 : Int32} {x : wXS} {t : wSt} (h : REL x t) (V : ∀ d : Nat, d < 7 → vp_in (x3 + nI d) L) (E : ∀ (r : Int32) (x' : wXS) (t' : wSt), REL x' t' → ((r = r → wplaw_1176 k18 L xs x3 (x', t')) ∧ (¬ r = r → False))) : wplaw_336 k18 L xs x3 (x, t) := by
  unfold wplaw_336
  exact ⟨V 1 (by omega), op_is h (fun r g => ⟨V 1 (by omega), g (E r x t h)⟩)⟩
theorem law_type {k18 : Int32 → (wXS × wSt) → Prop} {L : Nat} {xs : Nat → Int32} {x3 : Int32} {x : wXS} {t : wSt} (h : REL x t) (V : ∀ d : Nat, d < 7 → vp_in (x3 + nI d) L) (E : ∀ (r : Int32) (x' : wXS) (t' : wSt), REL x' t' → ((r = r → wplaw_1176 k18 L xs x3 (x', t')) ∧ (¬ r = r → False))) : wplaw_359 k18 L xs x3 (x, t) := by
  unfold wplaw_359
  refine ⟨V 1 (by omega), V 2 (by omega), V 3 (by omega), op_type h (fun r x' g => ?_)⟩
  rintro z1 rfl
  refine ⟨V 1 (by omega), V 2 (by omega), V 3 (by omega), g (fun t' h' => ?_)⟩
  rintro z2 rfl
  exact E r x' t' h'
theorem law_village {k18 : Int32 → (wXS × wSt) → Prop} {L : Nat} {xs : Nat → Int32} {x3 : Int32} {x : wXS} {t : wSt} (h : REL x t) (V : ∀ d : Nat, d < 7 → vp_in (x3 + nI d) L) (E : ∀ (r : Int32) (x' : wXS) (t' : wSt), REL x' t' → ((r = r → wplaw_1176 k18 L xs x3 (x', t')) ∧ (¬ r = r → False))) : wplaw_422 k18 L xs x3 (x, t) := by
  unfold wplaw_422
  refine op_village h (fun r x' g => ?_)
  rintro z1 rfl
  refine g (fun t' h' => ?_)
  rintro z2 rfl
  exact E r x' t' h'
theorem law_plan {k18 : Int32 → (wXS × wSt) → Prop} {L : Nat} {xs : Nat → Int32} {x3 : Int32} {x : wXS} {t : wSt} (h : REL x t) (V : ∀ d : Nat, d < 7 → vp_in (x3 + nI d) L) (E : ∀ (r : Int32) (x' : wXS) (t' : wSt), REL x' t' → ((r = r → wplaw_1176 k18 L xs x3 (x', t')) ∧ (¬ r = r → False))) : wplaw_435 k18 L xs x3 (x, t) := by
  unfold wplaw_435
  refine op_plan h (fun r x' g => ?_)
  rintro z1 rfl
  refine g (fun t' h' => ?_)
  rintro z2 rfl
  exact E r x' t' h'
theorem law_may {k18 : Int32 → (wXS × wSt) → Prop} {L : Nat} {xs : Nat → Int32} {x3 : Int32} {x : wXS} {t : wSt} (h : REL x t) (V : ∀ d : Nat, d < 7 → vp_in (x3 + nI d) L) (E : ∀ (r : Int32) (x' : wXS) (t' : wSt), REL x' t' → ((r = r → wplaw_1176 k18 L xs x3 (x', t')) ∧ (¬ r = r → False))) : wplaw_448 k18 L xs x3 (x, t) := by
  unfold wplaw_448
  exact op_may h (fun r g => g (E r x t h))
theorem law_draw {k18 : Int32 → (wXS × wSt) → Prop} {L : Nat} {xs : Nat → Int32} {x3 : Int32} {x : wXS} {t : wSt} (h : REL x t) (V : ∀ d : Nat, d < 7 → vp_in (x3 + nI d) L) (E : ∀ (r : Int32) (x' : wXS) (t' : wSt), REL x' t' → ((r = r → wplaw_1176 k18 L xs x3 (x', t')) ∧ (¬ r = r → False))) : wplaw_461 k18 L xs x3 (x, t) := by
  unfold wplaw_461
  refine ⟨V 1 (by omega), op_draw h (fun r x' g => ?_)⟩
  rintro z1 rfl
  refine ⟨V 1 (by omega), g (fun t' h' => ?_)⟩
  rintro z2 rfl
  exact E r x' t' h'
theorem law_pass {k18 : Int32 → (wXS × wSt) → Prop} {L : Nat} {xs : Nat → Int32} {x3 : Int32} {x : wXS} {t : wSt} (h : REL x t) (V : ∀ d : Nat, d < 7 → vp_in (x3 + nI d) L) (E : ∀ (r : Int32) (x' : wXS) (t' : wSt), REL x' t' → ((r = r → wplaw_1176 k18 L xs x3 (x', t')) ∧ (¬ r = r → False))) : wplaw_484 k18 L xs x3 (x, t) := by
  unfold wplaw_484
  refine ⟨V 1 (by omega), op_pass h (fun r x' g => ?_)⟩
  rintro z1 rfl
  refine ⟨V 1 (by omega), g (fun t' h' => ?_)⟩
  rintro z2 rfl
  exact E r x' t' h'
theorem law_run {k18 : Int32 → (wXS × wSt) → Prop} {L : Nat} {xs : Nat → Int32} {x3 : Int32} {x : wXS} {t : wSt} (h : REL x t) (V : ∀ d : Nat, d < 7 → vp_in (x3 + nI d) L) (E : ∀ (r : Int32) (x' : wXS) (t' : wSt), REL x' t' → ((r = r → wplaw_1176 k18 L xs x3 (x', t')) ∧ (¬ r = r → False))) : wplaw_507 k18 L xs x3 (x, t) := by
  unfold wplaw_507
  refine op_run h (fun r x' g => ?_)
  rintro z1 rfl
  refine g (fun t' h' => ?_)
  rintro z2 rfl
  exact E r x' t' h'
theorem law_most {k18 : Int32 → (wXS × wSt) → Prop} {L : Nat} {xs : Nat → Int32} {x3 : Int32} {x : wXS} {t : wSt} (h : REL x t) (V : ∀ d : Nat, d < 7 → vp_in (x3 + nI d) L) (E : ∀ (r : Int32) (x' : wXS) (t' : wSt), REL x' t' → ((r = r → wplaw_1176 k18 L xs x3 (x', t')) ∧ (¬ r = r → False))) : wplaw_520 k18 L xs x3 (x, t) := by
  unfold wplaw_520
  refine ⟨V 1 (by omega), op_most h (fun r x' g => ?_)⟩
  rintro z1 rfl
  refine ⟨V 1 (by omega), g (fun t' h' => ?_)⟩
  rintro z2 rfl
  exact E r x' t' h'
theorem law_row {k18 : Int32 → (wXS × wSt) → Prop} {L : Nat} {xs : Nat → Int32} {x3 : Int32} {x : wXS} {t : wSt} (h : REL x t) (V : ∀ d : Nat, d < 7 → vp_in (x3 + nI d) L) (E : ∀ (r : Int32) (x' : wXS) (t' : wSt), REL x' t' → ((r = r → wplaw_1176 k18 L xs x3 (x', t')) ∧ (¬ r = r → False))) : wplaw_543 k18 L xs x3 (x, t) := by
  unfold wplaw_543
  refine ⟨V 1 (by omega), V 2 (by omega), op_row h (fun r x' g => ?_)⟩
  rintro z1 rfl
  refine ⟨V 1 (by omega), V 2 (by omega), g (fun t' h' => ?_)⟩
  rintro z2 rfl
  exact E r x' t' h'
theorem law_fewest {k18 : Int32 → (wXS × wSt) → Prop} {L : Nat} {xs : Nat → Int32} {x3 : Int32} {x : wXS} {t : wSt} (h : REL x t) (V : ∀ d : Nat, d < 7 → vp_in (x3 + nI d) L) (E : ∀ (r : Int32) (x' : wXS) (t' : wSt), REL x' t' → ((r = r → wplaw_1176 k18 L xs x3 (x', t')) ∧ (¬ r = r → False))) : wplaw_576 k18 L xs x3 (x, t) := by
  unfold wplaw_576
  refine ⟨V 1 (by omega), op_fewest h (fun r x' g => ?_)⟩
  rintro z1 rfl
  refine ⟨V 1 (by omega), g (fun t' h' => ?_)⟩
  rintro z2 rfl
  exact E r x' t' h'
theorem law_peace {k18 : Int32 → (wXS × wSt) → Prop} {L : Nat} {xs : Nat → Int32} {x3 : Int32} {x : wXS} {t : wSt} (h : REL x t) (V : ∀ d : Nat, d < 7 → vp_in (x3 + nI d) L) (E : ∀ (r : Int32) (x' : wXS) (t' : wSt), REL x' t' → ((r = r → wplaw_1176 k18 L xs x3 (x', t')) ∧ (¬ r = r → False))) : wplaw_599 k18 L xs x3 (x, t) := by
  unfold wplaw_599
  refine op_peace h (fun r x' g => ?_)
  rintro z1 rfl
  refine g (fun t' h' => ?_)
  rintro z2 rfl
  exact E r x' t' h'
theorem law_gives {k18 : Int32 → (wXS × wSt) → Prop} {L : Nat} {xs : Nat → Int32} {x3 : Int32} {x : wXS} {t : wSt} (h : REL x t) (V : ∀ d : Nat, d < 7 → vp_in (x3 + nI d) L) (E : ∀ (r : Int32) (x' : wXS) (t' : wSt), REL x' t' → ((r = r → wplaw_1176 k18 L xs x3 (x', t')) ∧ (¬ r = r → False))) : wplaw_612 k18 L xs x3 (x, t) := by
  unfold wplaw_612
  exact ⟨V 1 (by omega), V 2 (by omega), op_gives h (fun r g => ⟨V 1 (by omega), V 2 (by omega), g (E r x t h)⟩)⟩
theorem law_stranger {k18 : Int32 → (wXS × wSt) → Prop} {L : Nat} {xs : Nat → Int32} {x3 : Int32} {x : wXS} {t : wSt} (h : REL x t) (V : ∀ d : Nat, d < 7 → vp_in (x3 + nI d) L) (E : ∀ (r : Int32) (x' : wXS) (t' : wSt), REL x' t' → ((r = r → wplaw_1176 k18 L xs x3 (x', t')) ∧ (¬ r = r → False))) : wplaw_645 k18 L xs x3 (x, t) := by
  unfold wplaw_645
  exact ⟨V 1 (by omega), V 2 (by omega), V 3 (by omega), op_stranger h (fun r g => ⟨V 1 (by omega), V 2 (by omega), V 3 (by omega), g (E r x t h)⟩)⟩
theorem law_liar {k18 : Int32 → (wXS × wSt) → Prop} {L : Nat} {xs : Nat → Int32} {x3 : Int32} {x : wXS} {t : wSt} (h : REL x t) (V : ∀ d : Nat, d < 7 → vp_in (x3 + nI d) L) (E : ∀ (r : Int32) (x' : wXS) (t' : wSt), REL x' t' → ((r = r → wplaw_1176 k18 L xs x3 (x', t')) ∧ (¬ r = r → False))) : wplaw_688 k18 L xs x3 (x, t) := by
  unfold wplaw_688
  exact ⟨V 1 (by omega), V 2 (by omega), V 3 (by omega), V 4 (by omega), V 5 (by omega), V 6 (by omega), op_liar h (fun r g => ⟨V 1 (by omega), V 2 (by omega), V 3 (by omega), V 4 (by omega), V 5 (by omega), V 6 (by omega), g (E r x t h)⟩)⟩
theorem law_other {k18 : Int32 → (wXS × wSt) → Prop} {L : Nat} {xs : Nat → Int32} {x3 : Int32} {x : wXS} {t : wSt} (h : REL x t) (V : ∀ d : Nat, d < 7 → vp_in (x3 + nI d) L) (E : ∀ (r : Int32) (x' : wXS) (t' : wSt), REL x' t' → ((r = r → wplaw_1176 k18 L xs x3 (x', t')) ∧ (¬ r = r → False))) : wplaw_763 k18 L xs x3 (x, t) := by
  unfold wplaw_763
  refine ⟨V 1 (by omega), op_other h (fun r x' g => ?_)⟩
  rintro z1 rfl
  refine ⟨V 1 (by omega), g (fun t' h' => ?_)⟩
  rintro z2 rfl
  exact E r x' t' h'
theorem law_drawn {k18 : Int32 → (wXS × wSt) → Prop} {L : Nat} {xs : Nat → Int32} {x3 : Int32} {x : wXS} {t : wSt} (h : REL x t) (V : ∀ d : Nat, d < 7 → vp_in (x3 + nI d) L) (E : ∀ (r : Int32) (x' : wXS) (t' : wSt), REL x' t' → ((r = r → wplaw_1176 k18 L xs x3 (x', t')) ∧ (¬ r = r → False))) : wplaw_786 k18 L xs x3 (x, t) := by
  unfold wplaw_786
  refine ⟨V 1 (by omega), op_drawn h (fun r x' g => ?_)⟩
  rintro z1 rfl
  refine ⟨V 1 (by omega), g (fun t' h' => ?_)⟩
  rintro z2 rfl
  exact E r x' t' h'
theorem law_seed {k18 : Int32 → (wXS × wSt) → Prop} {L : Nat} {xs : Nat → Int32} {x3 : Int32} {x : wXS} {t : wSt} (h : REL x t) (V : ∀ d : Nat, d < 7 → vp_in (x3 + nI d) L) (E : ∀ (r : Int32) (x' : wXS) (t' : wSt), REL x' t' → ((r = r → wplaw_1176 k18 L xs x3 (x', t')) ∧ (¬ r = r → False))) : wplaw_809 k18 L xs x3 (x, t) := by
  unfold wplaw_809
  refine ⟨V 1 (by omega), op_seed h (fun r x' g => ?_)⟩
  rintro z1 rfl
  refine ⟨V 1 (by omega), g (fun t' h' => ?_)⟩
  rintro z2 rfl
  exact E r x' t' h'
theorem law_image {k18 : Int32 → (wXS × wSt) → Prop} {L : Nat} {xs : Nat → Int32} {x3 : Int32} {x : wXS} {t : wSt} (h : REL x t) (V : ∀ d : Nat, d < 7 → vp_in (x3 + nI d) L) (E : ∀ (r : Int32) (x' : wXS) (t' : wSt), REL x' t' → ((r = r → wplaw_1176 k18 L xs x3 (x', t')) ∧ (¬ r = r → False))) : wplaw_832 k18 L xs x3 (x, t) := by
  unfold wplaw_832
  refine op_image h (fun r x' g => ?_)
  rintro z1 rfl
  refine g (fun t' h' => ?_)
  rintro z2 rfl
  exact E r x' t' h'
theorem law_restore {k18 : Int32 → (wXS × wSt) → Prop} {L : Nat} {xs : Nat → Int32} {x3 : Int32} {x : wXS} {t : wSt} (h : REL x t) (V : ∀ d : Nat, d < 7 → vp_in (x3 + nI d) L) (E : ∀ (r : Int32) (x' : wXS) (t' : wSt), REL x' t' → ((r = r → wplaw_1176 k18 L xs x3 (x', t')) ∧ (¬ r = r → False))) : wplaw_845 k18 L xs x3 (x, t) := by
  unfold wplaw_845
  refine op_restore h (fun r x' g => ?_)
  rintro z1 rfl
  refine g (fun t' h' => ?_)
  rintro z2 rfl
  exact E r x' t' h'
theorem law_fit {k18 : Int32 → (wXS × wSt) → Prop} {L : Nat} {xs : Nat → Int32} {x3 : Int32} {x : wXS} {t : wSt} (h : REL x t) (V : ∀ d : Nat, d < 7 → vp_in (x3 + nI d) L) (E : ∀ (r : Int32) (x' : wXS) (t' : wSt), REL x' t' → ((r = r → wplaw_1176 k18 L xs x3 (x', t')) ∧ (¬ r = r → False))) : wplaw_858 k18 L xs x3 (x, t) := by
  unfold wplaw_858
  exact ⟨V 1 (by omega), V 2 (by omega), V 3 (by omega), V 4 (by omega), op_fit h (fun r g => ⟨V 1 (by omega), V 2 (by omega), V 3 (by omega), V 4 (by omega), g (E r x t h)⟩)⟩
theorem law_film {k18 : Int32 → (wXS × wSt) → Prop} {L : Nat} {xs : Nat → Int32} {x3 : Int32} {x : wXS} {t : wSt} (h : REL x t) (V : ∀ d : Nat, d < 7 → vp_in (x3 + nI d) L) (E : ∀ (r : Int32) (x' : wXS) (t' : wSt), REL x' t' → ((r = r → wplaw_1176 k18 L xs x3 (x', t')) ∧ (¬ r = r → False))) : wplaw_911 k18 L xs x3 (x, t) := by
  unfold wplaw_911
  refine ⟨V 1 (by omega), V 2 (by omega), V 3 (by omega), V 4 (by omega), op_film h (fun r x' g => ?_)⟩
  rintro z1 rfl
  refine ⟨V 1 (by omega), V 2 (by omega), V 3 (by omega), V 4 (by omega), g (fun t' h' => ?_)⟩
  rintro z2 rfl
  exact E r x' t' h'
theorem law_sheet {k18 : Int32 → (wXS × wSt) → Prop} {L : Nat} {xs : Nat → Int32} {x3 : Int32} {x : wXS} {t : wSt} (h : REL x t) (V : ∀ d : Nat, d < 7 → vp_in (x3 + nI d) L) (E : ∀ (r : Int32) (x' : wXS) (t' : wSt), REL x' t' → ((r = r → wplaw_1176 k18 L xs x3 (x', t')) ∧ (¬ r = r → False))) : wplaw_964 k18 L xs x3 (x, t) := by
  unfold wplaw_964
  refine ⟨V 1 (by omega), V 2 (by omega), V 3 (by omega), op_sheet h (fun r x' g => ?_)⟩
  rintro z1 rfl
  refine ⟨V 1 (by omega), V 2 (by omega), V 3 (by omega), g (fun t' h' => ?_)⟩
  rintro z2 rfl
  exact E r x' t' h'
theorem law_drop {k18 : Int32 → (wXS × wSt) → Prop} {L : Nat} {xs : Nat → Int32} {x3 : Int32} {x : wXS} {t : wSt} (h : REL x t) (V : ∀ d : Nat, d < 7 → vp_in (x3 + nI d) L) (E : ∀ (r : Int32) (x' : wXS) (t' : wSt), REL x' t' → ((r = r → wplaw_1176 k18 L xs x3 (x', t')) ∧ (¬ r = r → False))) : wplaw_1007 k18 L xs x3 (x, t) := by
  unfold wplaw_1007
  refine ⟨V 1 (by omega), op_drop h (fun r x' g => ?_)⟩
  rintro z1 rfl
  refine ⟨V 1 (by omega), g (fun t' h' => ?_)⟩
  rintro z2 rfl
  exact E r x' t' h'
theorem law_item {k18 : Int32 → (wXS × wSt) → Prop} {L : Nat} {xs : Nat → Int32} {x3 : Int32} {x : wXS} {t : wSt} (h : REL x t) (V : ∀ d : Nat, d < 7 → vp_in (x3 + nI d) L) (E : ∀ (r : Int32) (x' : wXS) (t' : wSt), REL x' t' → ((r = r → wplaw_1176 k18 L xs x3 (x', t')) ∧ (¬ r = r → False))) : wplaw_1030 k18 L xs x3 (x, t) := by
  unfold wplaw_1030
  refine ⟨V 1 (by omega), V 2 (by omega), V 3 (by omega), V 4 (by omega), V 5 (by omega), op_item h (fun r x' g => ?_)⟩
  rintro z1 rfl
  refine ⟨V 1 (by omega), V 2 (by omega), V 3 (by omega), V 4 (by omega), V 5 (by omega), g (fun t' h' => ?_)⟩
  rintro z2 rfl
  exact E r x' t' h'
theorem law_copy {k18 : Int32 → (wXS × wSt) → Prop} {L : Nat} {xs : Nat → Int32} {x3 : Int32} {x : wXS} {t : wSt} (h : REL x t) (V : ∀ d : Nat, d < 7 → vp_in (x3 + nI d) L) (E : ∀ (r : Int32) (x' : wXS) (t' : wSt), REL x' t' → ((r = r → wplaw_1176 k18 L xs x3 (x', t')) ∧ (¬ r = r → False))) : wplaw_1113 k18 L xs x3 (x, t) := by
  unfold wplaw_1113
  refine ⟨V 1 (by omega), V 2 (by omega), V 3 (by omega), V 4 (by omega), V 5 (by omega), op_copy h (fun r x' g => ?_)⟩
  rintro z1 rfl
  refine ⟨V 1 (by omega), V 2 (by omega), V 3 (by omega), V 4 (by omega), V 5 (by omega), g (fun t' h' => ?_)⟩
  rintro z2 rfl
  exact E r x' t' h'
theorem law_all {L : Nat} {xs : Nat → Int32} (hL : L ≤ 3584) : ∀ (k i : Nat) (x : wXS) (t : wSt), i + k = 513 → REL x t → wplaw_L18 L xs (k + 1) (nI (7 * i)) (x, t) := by
  have n7 := tn7
  have eL : (nI L).toInt = (L : Int) := nI_toInt (by omega)
  have eL7 : (nI L - 7).toInt = (L : Int) - 7 := by rw [t_sub (by omega), eL, n7]
  intro k
  induction k with
  | zero =>
    intro i x t hi h
    have ex : (nI (7 * i)).toInt = ((7 * i : Nat) : Int) := nI_toInt (by omega)
    show wplaw_18 _ _ _ _ _
    unfold wplaw_18
    rw [t_lt, eL7, ex]
    exact ⟨fun _ => trivial, fun q => by exfalso; omega⟩
  | succ k ih =>
    intro i x t hi h
    have ex : (nI (7 * i)).toInt = ((7 * i : Nat) : Int) := nI_toInt (by omega)
    have e7 : nI (7 * i) + 7 = nI (7 * (i + 1)) := by
      have ex2 : (nI (7 * (i + 1))).toInt = ((7 * (i + 1) : Nat) : Int) := nI_toInt (by omega)
      rw [t_eq, t_add (by omega), ex, n7, ex2]; omega
    have T : ∀ (x' : wXS) (t' : wSt), REL x' t' → wplaw_1176 (wplaw_L18 L xs (k + 1)) L xs (nI (7 * i)) (x', t') := by
      intro x' t' h'
      unfold wplaw_1176
      rw [e7]
      exact ih (i + 1) x' t' (by omega) h'
    have E : ∀ (r : Int32) (x' : wXS) (t' : wSt), REL x' t' → ((r = r → wplaw_1176 (wplaw_L18 L xs (k + 1)) L xs (nI (7 * i)) (x', t')) ∧ (¬ r = r → False)) := fun r x' t' h' => ⟨fun _ => T x' t' h', fun q => q rfl⟩
    show wplaw_18 _ _ _ _ _
    unfold wplaw_18
    rw [t_lt, eL7, ex]
    refine ⟨fun _ => trivial, fun q => ?_⟩
    have V : ∀ d : Nat, d < 7 → vp_in (nI (7 * i) + nI d) L := by
      intro d hd
      have ed : (nI d).toInt = (d : Int) := nI_toInt (by omega)
      refine t_in ?_
      rw [t_add (by omega), ex, ed]; omega
    refine ⟨t_in (by omega), fun _ => T x t h, fun _ => law_folk h V E, fun _ => law_told h V E, fun _ => law_quarrel h V E, fun _ => law_set h V E, fun _ => law_is h V E, fun _ => law_type h V E, fun _ => law_village h V E, fun _ => law_plan h V E, fun _ => law_may h V E, fun _ => law_draw h V E, fun _ => law_pass h V E, fun _ => law_run h V E, fun _ => law_most h V E, fun _ => law_row h V E, fun _ => law_fewest h V E, fun _ => law_peace h V E, fun _ => law_gives h V E, fun _ => law_stranger h V E, fun _ => law_liar h V E, fun _ => law_other h V E, fun _ => law_drawn h V E, fun _ => law_seed h V E, fun _ => law_image h V E, fun _ => law_restore h V E, fun _ => law_fit h V E, fun _ => law_film h V E, fun _ => law_sheet h V E, fun _ => law_drop h V E, fun _ => law_item h V E, fun _ => law_copy h V E⟩
theorem law_pure (L : Nat) (xs : Nat → Int32) (hL : L ≤ 3584) : ∃ n, wplaw_L18 L xs n (0 : Int32) (zX, zM) := ⟨513 + 1, law_all hL 513 0 zX zM (by omega) REL_0⟩
