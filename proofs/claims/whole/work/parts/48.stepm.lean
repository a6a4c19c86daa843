theorem w_ai {x : wSt} {k : Nat} {f : Nat → Int32} : w_a (w_sa x k f) k = f := by rw [g_aa, if_pos rfl]
-- the reference's try
theorem r_beginL {t : wSt} {post : wSt → Prop} : ∀ (k i : Nat) (g : Nat → Int32), i + k = 6 → (∀ g' : Nat → Int32, (∀ j, j < i → g' j = g j) → (∀ j, i ≤ j → j < 6 → g' j = w_a t 4 j) → post (w_sa t 27 g')) → ∃ f, wpX6_begin_L34 post f (nI i) (w_sa t 27 g) := by
  intro k
  induction k with
  | zero =>
    intro i g hi h
    refine ⟨1, ?_⟩
    show wpX6_begin_34 _ post _ _
    unfold wpX6_begin_34
    rw [t_le, tn6, nI_toInt (by omega)]
    exact ⟨fun _ => h g (fun _ _ => rfl) (fun j h1 h2 => by omega), fun q => by exfalso; omega⟩
  | succ k ih =>
    intro i g hi h
    have ei : (nI i).toInt = (i : Int) := nI_toInt (by omega)
    obtain ⟨f, hf⟩ := ih (i + 1) (upd g i (w_a t 4 i)) (by omega) (fun g' h1 h2 => h g' (fun j hj => by rw [h1 j (by omega), g_u, if_neg (by omega)]) (fun j h3 h4 => by
      by_cases e : j = i
      · rw [h1 j (by omega), g_u, if_pos e, e]
      · exact h2 j (by omega) h4))
    refine ⟨f + 1, ?_⟩
    show wpX6_begin_34 _ post _ _
    unfold wpX6_begin_34
    rw [t_le, tn6, ei, t_cl ei]
    refine ⟨fun q => by exfalso; omega, fun _ => ⟨t_in (by omega), t_in (by omega), ?_⟩⟩
    rintro z1 rfl
    rw [w_ai, w_sa_sa, nI_1]
    exact hf
theorem r_keepL {t : wSt} {post : wSt → Prop} : ∀ (k i : Nat) (g : Nat → Int32), i + k = 6 → (∀ g' : Nat → Int32, (∀ j, j < i → g' j = g j) → (∀ j, i ≤ j → j < 6 → g' j = w_a t 27 j) → post (w_sa t 4 g')) → ∃ f, wpX6_keep_L82 post f (nI i) (w_sa t 4 g) := by
  intro k
  induction k with
  | zero =>
    intro i g hi h
    refine ⟨1, ?_⟩
    show wpX6_keep_82 _ post _ _
    unfold wpX6_keep_82
    rw [t_le, tn6, nI_toInt (by omega)]
    exact ⟨fun _ => h g (fun _ _ => rfl) (fun j h1 h2 => by omega), fun q => by exfalso; omega⟩
  | succ k ih =>
    intro i g hi h
    have ei : (nI i).toInt = (i : Int) := nI_toInt (by omega)
    obtain ⟨f, hf⟩ := ih (i + 1) (upd g i (w_a t 27 i)) (by omega) (fun g' h1 h2 => h g' (fun j hj => by rw [h1 j (by omega), g_u, if_neg (by omega)]) (fun j h3 h4 => by
      by_cases e : j = i
      · rw [h1 j (by omega), g_u, if_pos e, e]
      · exact h2 j (by omega) h4))
    refine ⟨f + 1, ?_⟩
    show wpX6_keep_82 _ post _ _
    unfold wpX6_keep_82
    rw [t_le, tn6, ei, t_cl ei]
    refine ⟨fun q => by exfalso; omega, fun _ => ⟨t_in (by omega), t_in (by omega), ?_⟩⟩
    rintro z1 rfl
    rw [w_ai, w_sa_sa, nI_1]
    exact hf
/-- the try begins at what is -/
def MB (t t' : wSt) : Prop := MF [21, 22, 23, 24] [27] t t' ∧ w_i t' 21 = w_i t 6 ∧ w_i t' 22 = w_i t 7 ∧ w_i t' 23 = w_i t 11 ∧ w_i t' 24 = w_i t 12 ∧ ∀ j, j < 6 → w_a t' 27 j = w_a t 4 j
theorem r_begin {t : wSt} {post : wSt → Prop} (h : ∀ t', MB t t' → post t') : wpX6_begin t post := by
  unfold wpX6_begin
  rintro z1 rfl
  rintro z2 rfl
  rintro z3 rfl
  rintro z4 rfl
  obtain ⟨W, eW⟩ : ∃ W, W = w_si (w_si (w_si (w_si t 21 (w_i t 6)) 22 (w_i (w_si t 21 (w_i t 6)) 7)) 23 (w_i (w_si (w_si t 21 (w_i t 6)) 22 (w_i (w_si t 21 (w_i t 6)) 7)) 11)) 24 (w_i (w_si (w_si (w_si t 21 (w_i t 6)) 22 (w_i (w_si t 21 (w_i t 6)) 7)) 23 (w_i (w_si (w_si t 21 (w_i t 6)) 22 (w_i (w_si t 21 (w_i t 6)) 7)) 11)) 12) := ⟨_, rfl⟩
  rw [← eW]
  have key := r_beginL (t := W) (post := post) 6 0 (w_a W 27) (by omega) (fun g' _ h2 => h _ ?_)
  · rw [w_sa_self] at key
    exact key
  · subst eW
    refine ⟨⟨fun k hk => ?_, fun k hk => ?_, fun k => rfl⟩, rfl, rfl, rfl, rfl, fun j hj => ?_⟩
    · simp only [List.mem_cons, List.not_mem_nil, or_false, not_or] at hk
      show (if k = 24 then _ else if k = 23 then _ else if k = 22 then _ else if k = 21 then _ else _) = _
      rw [if_neg hk.2.2.2, if_neg hk.2.2.1, if_neg hk.2.1, if_neg hk.1] <;> rfl
    · simp only [List.mem_cons, List.not_mem_nil, or_false] at hk
      show (if k = 27 then _ else _) = _
      rw [if_neg hk] <;> rfl
    · rw [w_ai]; exact h2 j (by omega) hj
/-- nobody draws in the try -/
def TB (one : Int32) (t t' : wSt) : Prop := MF [21, 22, 23, 24, 25, 26] [] t t' ∧ (w_i t' 21).toInt = m_wane (w_i t 21).toInt ∧ (w_i t' 22).toInt = m_rain (w_i t 22).toInt (w_i t 8).toInt ∧ w_i t' 23 = w_i t 23 + 1 ∧ w_i t' 24 = one ∧ w_i t' 25 = 0 ∧ w_i t' 26 = 0
/-- what one gets in the try -/
def TP (t : wSt) (i : Nat) (r : Int32) : Prop := (((w_i t 24).toInt ≠ 9 ∧ bt (w_a t 3 i) (w_i t 24).toInt.toNat = true) ∧ r.toInt = 0) ∨ (¬ ((w_i t 24).toInt ≠ 9 ∧ bt (w_a t 3 i) (w_i t 24).toInt.toNat = true) ∧ r.toInt = min (w_i t 22).toInt (m_pails (w_a t 0 i).toInt (w_i t 21).toInt))
/-- one draws in the try -/
def TA (i : Nat) (one : Int32) (t t' : wSt) : Prop := MF [21, 22, 23, 24, 25, 26] [27] t t' ∧ TP t i (w_i t' 25) ∧ ((m_swt (w_a t 0 i).toInt (w_i t 21).toInt ∧ w_i t' 26 = 1) ∨ (¬ m_swt (w_a t 0 i).toInt (w_i t 21).toInt ∧ w_i t' 26 = 0)) ∧ (w_i t' 21).toInt = m_wane (m_clamp ((w_i t 21).toInt + m_felt (w_a t 0 i).toInt (w_a t 1 i).toInt)) ∧ (w_i t' 22).toInt = m_rain ((w_i t 22).toInt - (w_i t' 25).toInt) (w_i t 8).toInt ∧ w_i t' 23 = w_i t 23 + 1 ∧ w_i t' 24 = one ∧ w_a t' 27 = upd (w_a t 27) i (w_i t 23 + w_a t 2 i)
theorem r_try215 {t : wSt} {v : Int32} {post : Int32 → wSt → Prop} (h : post 1 (w_si (w_si t 22 v) 23 (w_i t 23 + 1))) : wpX6_tryOne_215 post v t := by
  unfold wpX6_tryOne_215
  rintro z1 rfl
  rintro z2 rfl
  exact h
theorem r_try168 {t : wSt} {one : Int32} {post : Int32 → wSt → Prop} (hm : -100 ≤ (w_i t 21).toInt ∧ (w_i t 21).toInt ≤ 100) (hl : -100 ≤ (w_i t 22).toInt ∧ (w_i t 22).toInt ≤ 999) (hr : 0 ≤ (w_i t 8).toInt ∧ (w_i t 8).toInt ≤ 9) (h : ∀ (m l : Int32), m.toInt = m_wane (w_i t 21).toInt → l.toInt = m_rain (w_i t 22).toInt (w_i t 8).toInt → post 1 (w_si (w_si (w_si (w_si t 24 one) 21 m) 22 l) 23 (w_i t 23 + 1))) : wpX6_tryOne_168 post one t := by
  unfold wpX6_tryOne_168
  rintro z1 rfl
  refine r_wane (by show -1000 ≤ (w_i t 21).toInt ∧ (w_i t 21).toInt ≤ 1000; omega) (fun m hm' => ?_)
  rintro z2 rfl
  have hs : (w_i t 22 + w_i t 8).toInt = (w_i t 22).toInt + (w_i t 8).toInt := t_add (by omega)
  have e22 : w_i (w_si (w_si t 24 one) 21 m) 22 = w_i t 22 := rfl
  have e8 : w_i (w_si (w_si t 24 one) 21 m) 8 = w_i t 8 := rfl
  rw [e22, e8, t_le, hs, tn999]
  refine ⟨fun c => r_try215 (h m _ hm' ?_), fun c => r_try215 (h m _ hm' ?_)⟩
  · rw [hs]; unfold m_rain; omega
  · rw [tn999]; unfold m_rain; omega
theorem r_tryOne {one : Int32} {t : wSt} {post : Int32 → wSt → Prop} (hm : -9 ≤ (w_i t 21).toInt ∧ (w_i t 21).toInt ≤ 9) (hl : 0 ≤ (w_i t 22).toInt ∧ (w_i t 22).toInt ≤ 999) (hr : 0 ≤ (w_i t 8).toInt ∧ (w_i t 8).toInt ≤ 9) (hah : (w_i t 24).toInt = 9 ∨ (0 ≤ (w_i t 24).toInt ∧ (w_i t 24).toInt < 6))
    (hB : one.toInt = 9 → ∀ t', TB one t t' → post 1 t')
    (hC : ∀ i : Nat, one.toInt = (i : Int) → one.toInt ≠ 9 → (w_i t 23).toInt < (w_a t 27 i).toInt → ∀ t', MF [25, 26] [] t t' → post 0 t')
    (hA : ∀ i : Nat, one.toInt = (i : Int) → one.toInt ≠ 9 → (w_a t 27 i).toInt ≤ (w_i t 23).toInt → ∀ t', TA i one t t' → post 1 t')
    (h1 : one.toInt = 9 ∨ (0 ≤ one.toInt ∧ one.toInt < 6)) (hfe : ∀ i : Nat, one.toInt = (i : Int) → one.toInt ≠ 9 → (-3 ≤ (w_a t 1 i).toInt ∧ (w_a t 1 i).toInt ≤ 3)) : wpX6_tryOne one t post := by
  unfold wpX6_tryOne
  rintro z1 rfl
  rintro z2 rfl
  rw [t_eq, tn9]
  refine ⟨fun c => ?_, fun c => ?_⟩
  · refine r_try168 (by show -100 ≤ (w_i t 21).toInt ∧ (w_i t 21).toInt ≤ 100; omega) (by show -100 ≤ (w_i t 22).toInt ∧ (w_i t 22).toInt ≤ 999; omega) hr (fun m l hm' hl' => hB c _ ⟨⟨fun k hk => ?_, fun k hk => rfl, fun k => rfl⟩, hm', hl', rfl, rfl, rfl, rfl⟩)
    simp only [List.mem_cons, List.not_mem_nil, or_false, not_or] at hk
    show (if k = 23 then _ else if k = 22 then _ else if k = 21 then _ else if k = 24 then _ else if k = 26 then _ else if k = 25 then _ else _) = _
    rw [if_neg hk.2.2.1, if_neg hk.2.1, if_neg hk.1, if_neg hk.2.2.2.1, if_neg hk.2.2.2.2.2, if_neg hk.2.2.2.2.1] <;> rfl
  · obtain ⟨i, hi⟩ := nat_of (x := one) (by omega)
    have hin : vp_in one 6 := t_in (by omega)
    have hf := hfe i hi c
    have e27 : w_a (w_si (w_si t 25 0) 26 0) 27 = w_a t 27 := rfl
    have e23 : w_i (w_si (w_si t 25 0) 26 0) 23 = w_i t 23 := rfl
    have e24 : w_i (w_si (w_si t 25 0) 26 0) 24 = w_i t 24 := rfl
    have e3 : w_a (w_si (w_si t 25 0) 26 0) 3 = w_a t 3 := rfl
    rw [t_cl hi, e27, e23, e24, e3, t_le, t_eq, tn9]
    refine ⟨hin, fun d => ?_, fun d => hC i hi c (by omega) _ ⟨fun k hk => ?_, fun k hk => rfl, fun k => rfl⟩⟩
    · -- the draw
      have k101 : ∀ r : Int32, TP t i r → wpX6_tryOne_101 post one r (w_si (w_si t 25 0) 26 0) := by
        intro r hr'
        have hpr := m_pails_rng (w_a t 0 i).toInt (w_i t 21).toInt
        have hrr : 0 ≤ r.toInt ∧ r.toInt ≤ 9 ∧ r.toInt ≤ (w_i t 22).toInt := by
          rcases hr' with ⟨-, hr'⟩ | ⟨-, hr'⟩ <;> rw [hr'] <;> omega
        have hcl := m_clamp_rng ((w_i t 21).toInt + m_felt (w_a t 0 i).toInt (w_a t 1 i).toInt)
        have hfel : -3 ≤ m_felt (w_a t 0 i).toInt (w_a t 1 i).toInt ∧ m_felt (w_a t 0 i).toInt (w_a t 1 i).toInt ≤ 3 := by unfold m_felt; split <;> omega
        have hs : (w_i t 22 - r).toInt = (w_i t 22).toInt - r.toInt := t_sub (by omega)
        have goon : ∀ (sv : Int32), ((m_swt (w_a t 0 i).toInt (w_i t 21).toInt ∧ sv = 1) ∨ (¬ m_swt (w_a t 0 i).toInt (w_i t 21).toInt ∧ sv = 0)) → ∀ z2 : wSt, z2 = w_si (w_si (w_si (w_si t 25 0) 26 0) 25 r) 26 sv → ∀ z3 : wSt, z3 = w_si z2 22 (w_i z2 22 - w_i z2 25) → wpX6_feltBy one z3 (fun r2 => wpX6_most9 (w_i z3 21 + r2) (fun r3 => ∀ z4 : wSt, z4 = w_si z3 21 r3 → vp_in one 6 ∧ vp_in one 6 ∧ ∀ z5 : wSt, z5 = w_sa z4 27 (upd (w_a z4 27) i (w_i z4 23 + w_a z4 2 i)) → wpX6_tryOne_168 post one z5)) := by
          intro sv hsv
          rintro z2 rfl
          rintro z3 rfl
          refine r_feltBy hi (by omega) hf (fun r2 hr2 => r_most9 (fun r3 hr3 => ?_))
          have e21 : w_i (w_si (w_si (w_si (w_si (w_si t 25 0) 26 0) 25 r) 26 sv) 22 (w_i (w_si (w_si (w_si (w_si t 25 0) 26 0) 25 r) 26 sv) 22 - w_i (w_si (w_si (w_si (w_si t 25 0) 26 0) 25 r) 26 sv) 25)) 21 = w_i t 21 := rfl
          have hr2' : r2.toInt = m_felt (w_a t 0 i).toInt (w_a t 1 i).toInt := hr2
          rw [e21, t_add (by omega), hr2'] at hr3
          rintro z4 rfl
          refine ⟨hin, hin, ?_⟩
          rintro z5 rfl
          refine r_try168 (by show -100 ≤ r3.toInt ∧ r3.toInt ≤ 100; omega) (by show -100 ≤ (w_i t 22 - r).toInt ∧ (w_i t 22 - r).toInt ≤ 999; omega) hr (fun m l hm' hl' => hA i hi c d _ ⟨⟨fun k hk => ?_, fun k hk => ?_, fun k => rfl⟩, hr', hsv, ?_, ?_, rfl, rfl, rfl⟩)
          · simp only [List.mem_cons, List.not_mem_nil, or_false, not_or] at hk
            show (if k = 23 then _ else if k = 22 then _ else if k = 21 then _ else if k = 24 then _ else if k = 21 then _ else if k = 22 then _ else if k = 26 then _ else if k = 25 then _ else if k = 26 then _ else if k = 25 then _ else _) = _
            rw [if_neg hk.2.2.1, if_neg hk.2.1, if_neg hk.1, if_neg hk.2.2.2.1, if_neg hk.1, if_neg hk.2.1, if_neg hk.2.2.2.2.2, if_neg hk.2.2.2.2.1, if_neg hk.2.2.2.2.2, if_neg hk.2.2.2.2.1] <;> rfl
          · simp only [List.mem_cons, List.not_mem_nil, or_false] at hk
            show (if k = 27 then _ else _) = _
            rw [if_neg hk] <;> rfl
          · show m.toInt = _
            rw [hm']
            show m_wane r3.toInt = _
            rw [hr3]
          · show l.toInt = _
            rw [hl']
            show m_rain (w_i t 22 - r).toInt (w_i t 8).toInt = _
            rw [hs]
            rfl
        unfold wpX6_tryOne_101
        rintro z1 rfl
        rw [t_cl hi]
        have e0 : w_a (w_si (w_si (w_si t 25 0) 26 0) 25 r) 0 i = w_a t 0 i := rfl
        have e21 : w_i (w_si (w_si (w_si t 25 0) 26 0) 25 r) 21 = w_i t 21 := rfl
        rw [e0, e21]
        exact ⟨hin, r_isSweet (fun s => ⟨zb1, goon 1 (Or.inl ⟨s, rfl⟩)⟩) (fun s => ⟨zb0, goon 0 (Or.inr ⟨s, rfl⟩)⟩)⟩
      have k61 : ∀ v : Int32, ((v = 1 ∧ ((w_i t 24).toInt ≠ 9 ∧ bt (w_a t 3 i) (w_i t 24).toInt.toNat = true)) ∨ (v = 0 ∧ ¬ ((w_i t 24).toInt ≠ 9 ∧ bt (w_a t 3 i) (w_i t 24).toInt.toNat = true))) → wpX6_tryOne_61 post one v (w_si (w_si t 25 0) 26 0) := by
        intro v hv
        unfold wpX6_tryOne_61
        rw [t_cl hi]
        have e0 : w_a (w_si (w_si t 25 0) 26 0) 0 i = w_a t 0 i := rfl
        have e21 : w_i (w_si (w_si t 25 0) 26 0) 21 = w_i t 21 := rfl
        have e22 : w_i (w_si (w_si t 25 0) 26 0) 22 = w_i t 22 := rfl
        rw [e0, e21, e22]
        refine ⟨hin, r_pailsOf (by omega) (fun r hr' => ?_)⟩
        rcases hv with ⟨rfl, hv⟩ | ⟨rfl, hv⟩
        · exact c1 (k101 0 (Or.inl ⟨hv, tn0⟩))
        · refine c0 ?_
          rw [t_le]
          exact ⟨fun q => k101 _ (Or.inr ⟨hv, by omega⟩), fun q => k101 _ (Or.inr ⟨hv, by omega⟩)⟩
      refine ⟨fun q => ?_, fun q => ⟨hin, ?_⟩⟩
      · unfold wpX6_tryOne_60
        exact k61 0 (Or.inr ⟨rfl, fun z => z.1 q⟩)
      · obtain ⟨j, hj⟩ := nat_of (x := w_i t 24) (by omega)
        have ej : (w_i t 24).toInt.toNat = j := by omega
        refine r_has hj (by omega) (fun hb => c1 (k61 1 (Or.inl ⟨rfl, q, by rw [ej]; exact hb⟩))) (fun hb => c0 ?_)
        unfold wpX6_tryOne_60
        exact k61 0 (Or.inr ⟨rfl, fun z => hb (by rw [← ej]; exact z.2)⟩)
    · simp only [List.mem_cons, List.not_mem_nil, or_false, not_or] at hk
      show (if k = 26 then _ else if k = 25 then _ else _) = _
      rw [if_neg hk.2, if_neg hk.1] <;> rfl
