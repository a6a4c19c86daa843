theorem r_planL {t0 : wSt} {n : Nat} (hn : n ≤ 24) (h19 : w_i t0 19 = nI n) {post : Int32 → wSt → Prop} (hp : ∀ t', MF [] [13] t0 t' → (∀ j, j < n → w_a t' 13 j = w_a t0 20 j) → post (w_i t' 14) t') : ∀ (k i : Nat) (t : wSt), i + k = n → MF [] [13] t0 t → (∀ j, j < i → w_a t 13 j = w_a t0 20 j) → wpX6_plan_L41 post (k + 1) (nI i) t := by
  intro k
  induction k with
  | zero =>
    intro i t hi hF hj
    have e : i = n := by omega
    subst e
    show wpX6_plan_41 _ post _ _
    unfold wpX6_plan_41
    rw [hF.1 19 (by decide), h19, t_le]
    exact ⟨fun _ => hp t hF hj, fun q => by exfalso; omega⟩
  | succ k ih =>
    intro i t hi hF hj
    have ei := nIe (i := i) (by omega)
    have en := nIe (i := n) (by omega)
    show wpX6_plan_41 _ post _ _
    unfold wpX6_plan_41
    rw [hF.1 19 (by decide), h19, t_le, ei, en, t_cl ei, hF.2.1 20 (by decide)]
    refine ⟨fun q => by exfalso; omega, fun _ => ⟨t_in (by omega), t_in (by omega), ?_⟩⟩
    rintro z1 rfl
    rw [nI_1]
    refine ih (i + 1) _ (by omega) ((hF.tr MF.sa).up (by decide) (by decide)) (fun j hj' => ?_)
    rw [w_ai, g_u]
    by_cases e : j = i
    · rw [if_pos e, e]
    · rw [if_neg e]; exact hj j (by omega)
theorem op_plan {x : wXS} {t : wSt} (h : REL x t) {post : Int32 → wXS → Prop} (hp : ∀ r x', (∀ {p2 : Int32 → wSt → Prop}, (∀ t', REL x' t' → p2 r t') → wpX6_plan t p2) → post r x') : wpX5_plan x post := by
  have n24 := tn24
  have hT := TX.st h
  have hm6 := h.m6
  have kM : ∀ {p2 : Int32 → wSt → Prop}, (wpX6_readPlan_L10 (fun r1 u => ∀ z1 : wSt, z1 = u → ((¬ r1 = 0 → (wpX6_plan_14  p2 r1 z1)) ∧ (r1 = 0 → (wpX6_nextByte z1 (fun r2 u => ∀ z2 : wSt, z2 = u → (wpX6_plan_14  p2 r1 z2)))))) (24 + 1) (w_si (w_si t 18 0) 19 0)) → wpX6_plan t p2 := by
    intro p2 hh
    unfold wpX6_plan wpX6_readPlan
    rintro z1 rfl
    rintro z2 rfl
    exact ⟨25, hh⟩
  unfold wpX5_plan wpX3_readPlan
  rintro z1 rfl
  refine ⟨25, b_planL 24 0 (w_si (x_t x) 2 0) (w_si (w_si t 18 0) 19 0) (w_a (x_o x) 5) _ (by omega) hT rfl ⟨h.cnt, hm6⟩ (fun j hj => by omega) (fun s' t' pl' a1 a2 a3 a4 => ?_) (fun n s' t' pl' n1 n24' a1 a2 a3 a4 a5 => ?_)⟩
  · rintro z1 rfl
    rintro z2 rfl
    have hpl := a1.2.2.2.1
    have h60 := a1.2.2.1
    have er := r_nz (r := w_i t' 18) (by omega)
    rw [a1.2.1, t_le, tn0, er]
    refine ⟨fun _ => ?_, fun q => by exfalso; omega⟩
    refine hp _ _ (fun {p2} hp2 => kM (a4 ?_))
    rintro z1 rfl
    refine d0 ?_
    obtain ⟨v, v', hv⟩ := a2
    refine r_again hv ⟨hpl.1, h60.2⟩ ?_
    rintro z2 rfl
    unfold wpX6_plan_14
    rintro z3 rfl
    refine d0 (hp2 _ ?_)
    exact h.rd (((((MF.si (j := 18) (v := 0)).tr (MF.si (j := 19) (v := 0))).tr a3).tr MF.si).up (by decide) (by decide)) rfl rfl rfl rfl rfl rfl
  · rintro z1 rfl
    rintro z2 rfl
    have en := nIe (i := n) (by omega)
    have e24 : (if (24 : Int32) < nI n then (24 : Int32) else nI n) = nI n := by
      rw [if_neg]
      rw [t_lt, n24, en]; omega
    rw [t_le, tn0, en]
    refine ⟨fun q => by exfalso; omega, fun _ => ?_⟩
    unfold wpX4_adopt
    rw [e24]
    rintro z1 rfl
    have e3 : ∀ (o : wSt), w_i (w_si o 3 (nI n)) 3 = nI n := fun o => rfl
    simp only [g_oo, e3]
    have c0 : (0 : Int32).toNatClampNeg = 0 := by decide
    rw [c0, t_cl en]
    refine ⟨by decide, by decide, fun q => by (rw [t_lt, en, tn0] at q; omega), by omega, by omega, ?_⟩
    rintro z2 rfl
    rintro z3 rfl
    refine hp _ _ (fun {p2} hp2 => kM (a5 ?_))
    intro z1 e
    subst z1
    refine d1 ?_
    unfold wpX6_plan_14
    rintro z2 rfl
    refine d1 ?_
    rintro z3 rfl
    obtain ⟨T, eT⟩ : ∃ T, T = w_si (w_si t' 17 0) 14 (w_i (w_si t' 17 0) 19) := ⟨_, rfl⟩
    rw [← eT]
    have eT19 : w_i T 19 = nI n := by rw [eT]; exact a2
    have eT14 : w_i T 14 = nI n := by rw [eT]; exact a2
    have F1 : MF [17, 18, 19, 14] [20] t T := by
      rw [eT]
      exact (((((MF.si (j := 18) (v := 0)).tr (MF.si (j := 19) (v := 0))).tr a4).tr MF.si).tr MF.si).up (by decide) (by decide)
    refine ⟨n + 1, r_planL n24' eT19 (fun t2 F2 hj => ?_) n 0 T (by omega) (MF.rf.up (by decide) (by decide)) (fun j hj => by omega)⟩
    have e14 : w_i t2 14 = nI n := by rw [F2.1 14 (by decide), eT14]
    rw [e14]
    refine hp2 t2 ?_
    have F : MF [17, 18, 19, 14] [20, 13] t t2 := (F1.tr F2).up (by decide) (by decide)
    have e17 : w_i t2 17 = 0 := by rw [F2.1 17 (by decide), eT]; rfl
    have eT20 : w_a T 20 = w_a t' 20 := by rw [eT]; rfl
    have et5 : w_i t' 5 = w_i t 5 := a4.1 5 (by decide)
    rw [eT20] at hj
    have K : ∀ q, q ∉ [17, 18, 19, 14] → w_i t2 q = w_i t q := F.1
    have KA : ∀ q, q ∉ [20, 13] → w_a t2 q = w_a t q := F.2.1
    obtain ⟨hRF, ⟨hA1, hA2⟩, ⟨o4, o5, o6, o7, o8, o9, o10, o3, o11⟩, ⟨r6, r7, r8, r11, r12, r14, r15⟩, -⟩ := id h.1
    refine ⟨⟨?_, ⟨?_, ?_⟩, ⟨?_, ?_, ?_, ?_, ?_, ?_, ?_, ?_, ?_⟩, ⟨?_, ?_, ?_, ?_, ?_, ?_, ?_⟩, fun i hi => ?_⟩, ?_, ⟨?_, ?_, fun i hi => ?_⟩, ?_⟩
    · exact RF.eq (f := w_f (x_w x)) hRF (K 5 (by decide)) (KA 0 (by decide)) (KA 1 (by decide)) (KA 2 (by decide)) (KA 3 (by decide))
    · rw [K 5 (by decide), K 11 (by decide), KA 4 (by decide)]; exact hA1
    · rw [K 5 (by decide), K 11 (by decide), KA 4 (by decide)]; exact hA2
    · rw [K 6 (by decide)]; exact o4
    · rw [K 7 (by decide)]; exact o5
    · rw [K 8 (by decide)]; exact o6
    · rw [K 9 (by decide)]; exact o7
    · rw [K 10 (by decide)]; exact o8
    · rw [K 11 (by decide)]; exact o9
    · rw [K 12 (by decide)]; exact o10
    · rw [e14]; rfl
    · rw [K 15 (by decide)]; exact o11
    · rw [K 6 (by decide)]; exact r6
    · rw [K 7 (by decide)]; exact r7
    · rw [K 8 (by decide)]; exact r8
    · rw [K 11 (by decide)]; exact r11
    · rw [K 12 (by decide), K 5 (by decide)]; exact r12
    · rw [e14, en]; omega
    · rw [K 15 (by decide)]; exact r15
    · rw [e14, en] at hi
      obtain ⟨g1, g2⟩ := a3 i (by omega)
      rw [hj i (by omega), K 5 (by decide)]
      rw [et5] at g2
      refine ⟨?_, by rw [← g1]; exact g2⟩
      show va_cpy pl' (w_a (w_o (x_w x)) 2) 0 0 n i = _
      rw [cpy_at (by omega)]
      exact g1
    · exact h.2.1.eq (K 30 (by decide)) (KA 31 (by decide))
    · rw [e17]; rfl
    · rw [e17, tn0]; omega
    · rw [e17, tn0] at hi; omega
    · exact h.2.2.2.eq (KA 32 (by decide)) (KA 33 (by decide)) (F.2.2 34)
