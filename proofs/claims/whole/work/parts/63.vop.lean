theorem TX.st {x : wXS} {t : wSt} (h : REL x t) : TX (w_si (x_t x) 2 0) (w_si t 18 0) := ⟨h.2.2.1.1, rfl, h.2.2.1.2.1, ⟨by show 0 ≤ (0 : Int32).toInt; decide, by show (0 : Int32).toInt ≤ (w_i t 17).toInt; rw [tn0]; exact h.2.2.1.2.1.1⟩, h.2.2.1.2.2⟩
/-- the tape has been read: the rest stands -/
theorem REL.rd {x x' : wXS} {t t' : wSt} (h : REL x t) (F : MF [17, 18, 19] [20] t t') (e17 : w_i t' 17 = 0) (ew : x_w x' = x_w x) (eo : w_i (x_o x') 2 = w_i (x_o x) 2) (ek : x_k x' = x_k x) (eh : x_h x' = x_h x) (et : w_i (x_t x') 1 = 0) : REL x' t' := by
  refine ⟨?_, ?_, ⟨by rw [et, e17], by rw [e17, tn0]; omega, fun i hi => by rw [e17, tn0] at hi; omega⟩, ?_⟩
  · rw [ew]; exact h.1.eq (EQW.mf F (by decide) (by decide))
  · have := h.2.1.eq (F.1 30 (by decide)) (F.2.1 31 (by decide))
    unfold KR at *
    rw [ek, eo]; exact this
  · rw [eh]; exact h.2.2.2.eq (F.2.1 32 (by decide)) (F.2.1 33 (by decide)) (F.2.2 34)
theorem r_nz {r : Int32} (h : 0 ≤ r.toInt ∧ r.toInt ≤ 60) : (-20 - r).toInt = -20 - r.toInt := by
  have : (-20 : Int32).toInt = -20 := by decide
  rw [t_sub (by omega), this]
theorem op_village {x : wXS} {t : wSt} (h : REL x t) {post : Int32 → wXS → Prop} (hp : ∀ r x', (∀ {p2 : Int32 → wSt → Prop}, (∀ t', REL x' t' → p2 r t') → wpX6_village t p2) → post r x') : wpX5_village x post := by
  have hT := TX.st h
  have kM : ∀ {p2 : Int32 → wSt → Prop}, (wpX6_readVillage_L7 (fun r1 u => ∀ z1 : wSt, z1 = u → ((¬ r1 = 0 → (wpX6_village_14  p2 r1 z1)) ∧ (r1 = 0 → (wpX6_nextByte z1 (fun r2 u => ∀ z2 : wSt, z2 = u → (wpX6_village_14  p2 r1 z2)))))) (5 + 1) (nI 0) (w_si t 18 0)) → wpX6_village t p2 := by
    intro p2 hh
    unfold wpX6_village wpX6_readVillage
    rintro z1 rfl
    exact ⟨6, hh⟩
  unfold wpX5_village wpX3_readFolk
  rintro z1 rfl
  rintro z2 rfl
  refine ⟨6, b_folkL 5 0 (w_si (x_t x) 2 0) (w_si (x_n x) 4 0) (w_si t 18 0) _ (by omega) hT ⟨rfl, fun j hj => by omega⟩ (fun s' t' f' a1 a2 a3 a4 => ?_) (fun n s' t' f' n1 n6 a1 a2 a3 a4 a5 => ?_)⟩
  · rintro z1 rfl
    rintro z2 rfl
    have hpl := a1.2.2.2.1
    have h60 := a1.2.2.1
    have er := r_nz (r := w_i t' 18) (by omega)
    rw [a1.2.1, t_le, tn0, er]
    refine ⟨fun _ => ?_, fun q => by exfalso; omega⟩
    refine hp _ _ (fun {p2} hp2 => kM (a4 ?_))
    rintro z1 rfl
    refine d0 ?_
    obtain ⟨v, v', hv⟩ := a2
    refine r_again hv ⟨hpl.1, h60.2⟩ ?_
    rintro z2 rfl
    unfold wpX6_village_14
    rintro z3 rfl
    refine d0 (hp2 _ ?_)
    exact h.rd ((((MF.si (j := 18) (v := 0)).tr a3).tr MF.si).up (by decide) (by decide)) rfl rfl rfl rfl rfl rfl
  · rintro z1 rfl
    rintro z2 rfl
    have en := nIe (i := n) (by omega)
    rw [t_le, tn0, en]
    refine ⟨fun q => by exfalso; omega, fun _ => ?_⟩
    unfold wpX4_settle
    refine q_become0 (fun a' h4 ha => ?_)
    rintro z1 rfl
    refine ⟨7, q_settleL 6 0 _ (by omega) (fun j hj => by omega) (fun w' g1 g2 g3 g4 g5 g6 => ?_)⟩
    rintro z3 rfl
    refine hp _ _ (fun {p2} hp2 => kM (a5 ?_))
    intro z1 e
    subst z1
    refine d1 ?_
    unfold wpX6_village_14
    rintro z2 rfl
    refine d1 ?_
    rintro z3 rfl
    rintro z4 rfl
    rintro z5 rfl
    obtain ⟨T, eT⟩ : ∃ T, T = w_si (w_si (w_si (w_si t' 17 0) 5 0) 14 0) 12 9 := ⟨_, rfl⟩
    rw [← eT]
    have eT19 : w_i T 19 = nI n := by rw [eT]; exact a3
    have F1 : MF [17, 18, 19, 5, 14, 12] [20] t T := by
      rw [eT]
      exact ((((((MF.si (j := 18) (v := 0)).tr a4).tr MF.si).tr MF.si).tr MF.si).tr MF.si).up (by decide) (by decide)
    refine ⟨n + 1, r_villageL n6 eT19 (fun t2 e5 F2 hj => hp2 t2 ?_) n 0 T (by omega) (by rw [eT]; rfl) (MF.rf.up (by decide) (by decide)) (fun j hj => by omega)⟩
    have F : MF [17, 18, 19, 5, 14, 12] [20, 0, 1, 2, 3, 4] t t2 := (F1.tr F2).up (by decide) (by decide)
    have e12 : w_i t2 12 = 9 := by rw [F2.1 12 (by decide), eT]; rfl
    have e14 : w_i t2 14 = 0 := by rw [F2.1 14 (by decide), eT]; rfl
    have e17 : w_i t2 17 = 0 := by rw [F2.1 17 (by decide), eT]; rfl
    have e5' : (w_i t2 5).toInt = (n : Int) := by rw [e5, en]
    have eT20 : w_a T 20 = w_a t' 20 := by rw [eT]; rfl
    rw [eT20] at hj
    have efa : w_f w' = a' := g1
    have h4' : w_i a' 4 = nI n := by rw [h4]; exact a2.1
    obtain ⟨-, -, ⟨o4, o5, o6, o7, o8, o9, o10, o3, o11⟩, ⟨r6, r7, r8, r11, r12, r14, r15⟩, -⟩ := id h.1
    have K : ∀ q, q ∉ [17, 18, 19, 5, 14, 12] → w_i t2 q = w_i t q := F.1
    have hb : ∀ q j : Nat, q < 4 → j < 6 → w_a a' q j = w_a f' q j := ha
    have rows : ∀ j, j < n → (w_a a' 0 j = w_a t2 0 j ∧ w_a a' 1 j = w_a t2 1 j ∧ w_a a' 2 j = w_a t2 2 j ∧ w_a a' 3 j = w_a t2 3 j) ∧ w_a t2 3 j = 0 ∧ w_a t2 4 j = 0 := fun j hjn => by
      obtain ⟨⟨q0, q1, q2, q3⟩, -⟩ := a2.2 j hjn
      obtain ⟨u0, u1, u2, u3, u4⟩ := hj j hjn
      rw [hb 0 j (by omega) (by omega), hb 1 j (by omega) (by omega), hb 2 j (by omega) (by omega), hb 3 j (by omega) (by omega), q0, q1, q2, q3, u0, u1, u2, u3]
      exact ⟨⟨rfl, rfl, rfl, rfl⟩, rfl, u4⟩
    refine ⟨⟨⟨?_, ?_, fun i hi => ?_, fun i j hi hj' => ?_, fun i j hi hj' => ?_⟩, ⟨fun i hi => ?_, fun i hi => ?_⟩, ⟨?_, ?_, ?_, ?_, ?_, ?_, ?_, ?_, ?_⟩, ⟨?_, ?_, ?_, ?_, ?_, ?_, ?_⟩, fun i hi => ?_⟩, ?_, ⟨?_, ?_, fun i hi => ?_⟩, ?_⟩
    · refine ⟨?_, fun i hi => ?_⟩
      · show 0 ≤ (w_i (w_f w') 4).toInt ∧ (w_i (w_f w') 4).toInt ≤ 6
        rw [efa, h4', en]; omega
      · have hi' : (i : Int) < (w_i (w_f w') 4).toInt := hi
        rw [efa, h4', en] at hi'
        show (0 ≤ (w_a (w_f w') 0 i).toInt ∧ (w_a (w_f w') 0 i).toInt ≤ 3) ∧ (-3 ≤ (w_a (w_f w') 1 i).toInt ∧ (w_a (w_f w') 1 i).toInt ≤ 3) ∧ (1 ≤ (w_a (w_f w') 2 i).toInt ∧ (w_a (w_f w') 2 i).toInt ≤ 9)
        rw [efa, hb 0 i (by omega) (by omega), hb 1 i (by omega) (by omega), hb 2 i (by omega) (by omega)]
        exact (a2.2 i (by omega)).2
    · show w_i (w_f w') 4 = _
      rw [efa, h4', e5]
    · rw [e5'] at hi
      show w_a (w_f w') 0 i = _ ∧ w_a (w_f w') 1 i = _ ∧ w_a (w_f w') 2 i = _ ∧ w_a (w_f w') 3 i = _
      rw [efa]
      exact (rows i (by omega)).1
    · rw [e5'] at hi hj'
      rw [(rows i (by omega)).2.1, (rows j (by omega)).2.1, b_0, b_0]
    · rw [e5'] at hi
      rw [(rows i (by omega)).2.1, b_0]
    · show (w_a (w_o w') 1 i).toInt = _
      rw [g6 i hi, e5', tn0]
      have e11 := K 11 (by decide)
      by_cases c : (i : Int) < (n : Int)
      · rw [if_pos c, (rows i (by omega)).2.2, tn0, e11]; omega
      · rw [if_neg c]
    · rw [e5'] at hi
      rw [(rows i (by omega)).2.2, tn0, K 11 (by decide)]; omega
    · show w_i (w_o w') 4 = _
      rw [g2 4 (by decide) (by decide), K 6 (by decide)]; exact o4
    · show w_i (w_o w') 5 = _
      rw [g2 5 (by decide) (by decide), K 7 (by decide)]; exact o5
    · show w_i (w_o w') 6 = _
      rw [g2 6 (by decide) (by decide), K 8 (by decide)]; exact o6
    · show w_i (w_o w') 7 = _
      rw [g2 7 (by decide) (by decide), K 9 (by decide)]; exact o7
    · show w_i (w_o w') 8 = _
      rw [g2 8 (by decide) (by decide), K 10 (by decide)]; exact o8
    · show w_i (w_o w') 9 = _
      rw [g2 9 (by decide) (by decide), K 11 (by decide)]; exact o9
    · show w_i (w_o w') 10 = _
      rw [g3, e12]
    · show w_i (w_o w') 3 = _
      rw [g4, e14]
    · show w_i (w_o w') 11 = _
      rw [g2 11 (by decide) (by decide), K 15 (by decide)]; exact o11
    · rw [K 6 (by decide)]; exact r6
    · rw [K 7 (by decide)]; exact r7
    · rw [K 8 (by decide)]; exact r8
    · rw [K 11 (by decide)]; exact r11
    · left; rw [e12]; exact tn9
    · rw [e14, tn0]; omega
    · rw [K 15 (by decide)]; exact r15
    · rw [e14, tn0] at hi; omega
    · exact h.2.1.eq (K 30 (by decide)) (F.2.1 31 (by decide))
    · rw [e17]; rfl
    · rw [e17, tn0]; omega
    · rw [e17, tn0] at hi; omega
    · exact h.2.2.2.eq (F.2.1 32 (by decide)) (F.2.1 33 (by decide)) (F.2.2 34)
