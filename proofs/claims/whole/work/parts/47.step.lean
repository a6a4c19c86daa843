theorem w_sa_sa {x : wSt} {k : Nat} {f g : Nat → Int32} : w_sa (w_sa x k f) k g = w_sa x k g := by
  unfold w_sa vf_upd
  refine Prod.ext rfl (Prod.ext ?_ rfl)
  funext j
  by_cases h : j = k
  · simp [h]
  · simp [h]
theorem w_sa_self {x : wSt} {k : Nat} : w_sa x k (w_a x k) = x := by
  unfold w_sa w_a vf_upd
  refine Prod.ext rfl (Prod.ext ?_ rfl)
  funext j
  by_cases h : j = k
  · simp [h]
  · simp [h]
theorem w_so_so {x : wP2} {a b : wSt} : w_so (w_so x a) b = w_so x b := rfl
-- the end of an hour
def XE (w w' : wP2) : Prop := w_f w' = w_f w ∧ (∀ k, k ≠ 4 → k ≠ 5 → k ≠ 9 → w_i (w_o w') k = w_i (w_o w) k) ∧ (∀ k, k ≠ 1 → w_a (w_o w') k = w_a (w_o w) k) ∧ (w_i (w_o w') 4).toInt = m_wane (w_i (w_o w) 4).toInt ∧ (w_i (w_o w') 5).toInt = m_rain (w_i (w_o w) 5).toInt (w_i (w_o w) 6).toInt ∧ w_i (w_o w') 9 = w_i (w_o w) 9 + 1 ∧ ∀ j, (w_a (w_o w') 1 j).toInt = if (j : Int) < (w_i (w_f w) 4).toInt then max 0 ((w_a (w_o w) 1 j).toInt - 1) else (w_a (w_o w) 1 j).toInt
theorem q_endHourL {w : wP2} {post : wP2 → Prop} {n : Nat} (hn : (w_i (w_f w) 4).toInt = (n : Int)) (h6 : n ≤ 6) : ∀ (k i : Nat) (g : Nat → Int32), i + k = n → (∀ j : Nat, j < n → -1000 ≤ (g j).toInt ∧ (g j).toInt ≤ 1000) → (∀ g' : Nat → Int32, (∀ j : Nat, (g' j).toInt = if i ≤ j ∧ j < n then max 0 ((g j).toInt - 1) else (g j).toInt) → post (w_so w (w_sa (w_o w) 1 g'))) → ∃ f, wpX4_endHour_L38 post f (nI i) (w_so w (w_sa (w_o w) 1 g)) := by
  have n1 := tn1
  intro k
  induction k with
  | zero =>
    intro i g hi hg h
    refine ⟨1, ?_⟩
    show wpX4_endHour_38 _ post _ _
    unfold wpX4_endHour_38
    rw [g_fo, t_le, hn, nI_toInt (by omega)]
    refine ⟨fun _ => h g (fun j => ?_), fun q => by exfalso; omega⟩
    rw [if_neg (by omega)]
  | succ k ih =>
    intro i g hi hg h
    have ei : (nI i).toInt = (i : Int) := nI_toInt (by omega)
    have hgi := hg i (by omega)
    have ev : (if (0 : Int32) < g i - 1 then g i - 1 else 0).toInt = max 0 ((g i).toInt - 1) := by
      simp (disch := omega) only [t_ite, t_lt, t_sub, tn0, tn1]
      omega
    obtain ⟨f, hf⟩ := ih (i + 1) (upd g i (if (0 : Int32) < g i - 1 then g i - 1 else 0)) (by omega) (fun j hj => by
      rw [g_u]
      by_cases e : j = i
      · rw [if_pos e, ev]; omega
      · rw [if_neg e]; exact hg j hj) (fun g' hg' => h g' (fun j => by
      rw [hg' j, g_u]
      by_cases e : j = i
      · subst e
        have q1 : ¬ (j + 1 ≤ j ∧ j < n) := by omega
        have q2 : j ≤ j ∧ j < n := by omega
        rw [if_neg q1, if_pos q2, if_pos rfl, ev]
      · rw [if_neg e]
        by_cases e2 : i + 1 ≤ j ∧ j < n
        · rw [if_pos e2, if_pos (by omega)]
        · rw [if_neg e2, if_neg (by omega)]))
    refine ⟨f + 1, ?_⟩
    show wpX4_endHour_38 _ post _ _
    unfold wpX4_endHour_38
    rw [g_fo, t_le, hn, ei, t_cl ei]
    refine ⟨fun q => by exfalso; omega, fun _ => ⟨t_in (by omega), t_in (by omega), ?_⟩⟩
    rintro z1 rfl
    rw [g_oo, w_so_so, w_sa_sa, nI_1]
    exact hf
theorem q_endHour {w : wP2} {post : wP2 → Prop} (hf : FK (w_f w)) (hm : -100 ≤ (w_i (w_o w) 4).toInt ∧ (w_i (w_o w) 4).toInt ≤ 100) (hl : -100 ≤ (w_i (w_o w) 5).toInt ∧ (w_i (w_o w) 5).toInt ≤ 999) (hr : 0 ≤ (w_i (w_o w) 6).toInt ∧ (w_i (w_o w) 6).toInt ≤ 9) (hw : ∀ j : Nat, (j : Int) < (w_i (w_f w) 4).toInt → -1000 ≤ (w_a (w_o w) 1 j).toInt ∧ (w_a (w_o w) 1 j).toInt ≤ 1000) (h : ∀ w', XE w w' → post w') : wpX4_endHour w post := by
  obtain ⟨n, hn⟩ := nat_of hf.1.1
  have h6 := hf.1.2
  unfold wpX4_endHour
  refine q_waned (by omega) (fun r1 hr1 => ?_)
  rintro z1 rfl
  refine q_rained (by show -1000 ≤ (w_i (w_o w) 5).toInt ∧ (w_i (w_o w) 5).toInt ≤ 1000; omega) (by show -1000 ≤ (w_i (w_o w) 6).toInt ∧ (w_i (w_o w) 6).toInt ≤ 1000; omega) (fun r2 hr2 => ?_)
  rintro z2 rfl
  rintro z3 rfl
  obtain ⟨W0, eW⟩ : ∃ W0, W0 = w_so (w_so (w_so w (w_si (w_o w) 4 r1)) (w_si (w_o (w_so w (w_si (w_o w) 4 r1))) 5 r2)) (w_si (w_o (w_so (w_so w (w_si (w_o w) 4 r1)) (w_si (w_o (w_so w (w_si (w_o w) 4 r1))) 5 r2))) 9 (w_i (w_o (w_so (w_so w (w_si (w_o w) 4 r1)) (w_si (w_o (w_so w (w_si (w_o w) 4 r1))) 5 r2))) 9 + 1)) := ⟨_, rfl⟩
  rw [← eW]
  have key := q_endHourL (w := W0) (post := post) (n := n) (by rw [eW]; exact hn) (by omega) n 0 (w_a (w_o W0) 1) (by omega) (fun j hj => by rw [eW]; exact hw j (by omega)) (fun g' hg' => h _ ?_)
  · rw [w_sa_self] at key
    have e : w_so W0 (w_o W0) = W0 := rfl
    rw [e] at key
    exact key
  · subst eW
    refine ⟨rfl, fun k h4 h5 h9 => ?_, fun k h1 => ?_, hr1, hr2, rfl, fun j => ?_⟩
    · show (if k = 9 then _ else if k = 5 then _ else if k = 4 then _ else _) = _
      rw [if_neg h9, if_neg h5, if_neg h4] <;> rfl
    · show (if k = 1 then _ else _) = _
      rw [if_neg h1] <;> rfl
    · show (g' j).toInt = _
      rw [hg' j, hn]
      by_cases e : j < n
      · rw [if_pos (by omega), if_pos (by omega)]; rfl
      · rw [if_neg (by omega), if_neg (by omega)]; rfl
-- an hour of the class' well
/-- nobody draws -/
def XB (w w' : wP2) : Prop := w_f w' = w_f w ∧ (∀ k, k ≠ 4 → k ≠ 5 → k ≠ 9 → k ≠ 10 → w_i (w_o w') k = w_i (w_o w) k) ∧ (∀ k, k ≠ 1 → w_a (w_o w') k = w_a (w_o w) k) ∧ (w_i (w_o w') 4).toInt = m_wane (w_i (w_o w) 4).toInt ∧ (w_i (w_o w') 5).toInt = m_rain (w_i (w_o w) 5).toInt (w_i (w_o w) 6).toInt ∧ w_i (w_o w') 9 = w_i (w_o w) 9 + 1 ∧ w_i (w_o w') 10 = 9 ∧ ∀ j, (w_a (w_o w') 1 j).toInt = if (j : Int) < (w_i (w_f w) 4).toInt then max 0 ((w_a (w_o w) 1 j).toInt - 1) else (w_a (w_o w) 1 j).toInt
/-- what one gets: r pails -/
def XP (f : wSt) (last mood level : Int32) (i : Nat) (r : Int32) : Prop := ((∃ j : Nat, last.toInt = (j : Int) ∧ (j : Int) < (w_i f 4).toInt ∧ m_foe f j i) ∧ r.toInt = 0) ∨ ((∀ j : Nat, last.toInt = (j : Int) → (j : Int) < (w_i f 4).toInt → ¬ m_foe f j i) ∧ r.toInt = min level.toInt (m_pails (w_a f 0 i).toInt mood.toInt))
/-- one draws -/
def XA (w : wP2) (i : Nat) (one r : Int32) (w' : wP2) : Prop := w_f w' = w_f w ∧ (∀ k, k ≠ 4 → k ≠ 5 → k ≠ 7 → k ≠ 8 → k ≠ 9 → k ≠ 10 → w_i (w_o w') k = w_i (w_o w) k) ∧ (∀ k, k ≠ 1 → w_a (w_o w') k = w_a (w_o w) k) ∧ XP (w_f w) (w_i (w_o w) 10) (w_i (w_o w) 4) (w_i (w_o w) 5) i r ∧ ((m_swt (w_a (w_f w) 0 i).toInt (w_i (w_o w) 4).toInt ∧ w_i (w_o w') 7 = w_i (w_o w) 7 + r ∧ w_i (w_o w') 8 = w_i (w_o w) 8) ∨ (¬ m_swt (w_a (w_f w) 0 i).toInt (w_i (w_o w) 4).toInt ∧ w_i (w_o w') 7 = w_i (w_o w) 7 ∧ w_i (w_o w') 8 = w_i (w_o w) 8 + r)) ∧ (w_i (w_o w') 4).toInt = m_wane (m_clamp ((w_i (w_o w) 4).toInt + m_felt (w_a (w_f w) 0 i).toInt (w_a (w_f w) 1 i).toInt)) ∧ (w_i (w_o w') 5).toInt = m_rain ((w_i (w_o w) 5).toInt - r.toInt) (w_i (w_o w) 6).toInt ∧ w_i (w_o w') 9 = w_i (w_o w) 9 + 1 ∧ w_i (w_o w') 10 = one ∧ ∀ j, (w_a (w_o w') 1 j).toInt = if (j : Int) < (w_i (w_f w) 4).toInt then max 0 ((if j = i then (w_a (w_f w) 2 i).toInt else (w_a (w_o w) 1 j).toInt) - 1) else (w_a (w_o w) 1 j).toInt
theorem XP.rng {f : wSt} {last mood level : Int32} {i : Nat} {r : Int32} (h : XP f last mood level i r) (hl : 0 ≤ level.toInt) : 0 ≤ r.toInt ∧ r.toInt ≤ 9 ∧ r.toInt ≤ level.toInt := by
  have := m_pails_rng (w_a f 0 i).toInt mood.toInt
  rcases h with ⟨-, h⟩ | ⟨-, h⟩ <;> rw [h] <;> omega
theorem q_passHour {one : Int32} {w : wP2} {post : Int32 → wP2 → Prop} (hf : FK (w_f w)) (hm : -9 ≤ (w_i (w_o w) 4).toInt ∧ (w_i (w_o w) 4).toInt ≤ 9) (hl : 0 ≤ (w_i (w_o w) 5).toInt ∧ (w_i (w_o w) 5).toInt ≤ 999) (hr : 0 ≤ (w_i (w_o w) 6).toInt ∧ (w_i (w_o w) 6).toInt ≤ 9) (hw : ∀ j : Nat, (j : Int) < (w_i (w_f w) 4).toInt → 0 ≤ (w_a (w_o w) 1 j).toInt ∧ (w_a (w_o w) 1 j).toInt ≤ 9)
    (hA : ∀ (i : Nat) (r : Int32) (w' : wP2), one.toInt = (i : Int) → (i : Int) < (w_i (w_f w) 4).toInt → (w_a (w_o w) 1 i).toInt = 0 → XA w i one r w' → post r w')
    (hB : ∀ w', (∀ i : Nat, one.toInt = (i : Int) → (i : Int) < (w_i (w_f w) 4).toInt → (w_a (w_o w) 1 i).toInt ≠ 0) → XB w w' → post 0 w') : wpX4_passHour one w post := by
  unfold wpX4_passHour wpX4_passHour_30
  refine q_mayDraw hf (fun i hi hc hz => c1 ?_) (fun hz => c0 ?_)
  · have hin : vp_in one 6 := t_in (by have := hf.1; omega)
    have hfe := (hf.2 i hc).2.1
    have hre := (hf.2 i hc).2.2
    have k59 : ∀ (r : Int32) (w1 : wP2), XP (w_f w) (w_i (w_o w) 10) (w_i (w_o w) 4) (w_i (w_o w) 5) i r → w_f w1 = w_f w → (∀ k, k ≠ 7 → k ≠ 8 → w_i (w_o w1) k = w_i (w_o w) k) → (∀ k, w_a (w_o w1) k = w_a (w_o w) k) → ((m_swt (w_a (w_f w) 0 i).toInt (w_i (w_o w) 4).toInt ∧ w_i (w_o w1) 7 = w_i (w_o w) 7 + r ∧ w_i (w_o w1) 8 = w_i (w_o w) 8) ∨ (¬ m_swt (w_a (w_f w) 0 i).toInt (w_i (w_o w) 4).toInt ∧ w_i (w_o w1) 7 = w_i (w_o w) 7 ∧ w_i (w_o w1) 8 = w_i (w_o w) 8 + r)) → wpX4_drawBy_59 (fun r2 u => ∀ z2 : wP2, z2 = u → ∀ z3 : wP2, z3 = w_so z2 (w_si (w_o z2) 10 one) → wpX4_endHour z3 (fun u => ∀ z1 : wP2, z1 = u → post r2 z1)) one r w1 := by
      intro r w1 hXP ef ei ea hsw
      have hrr := hXP.rng hl.1
      unfold wpX4_drawBy_59
      rintro z1 rfl
      have e5 : w_i (w_o w1) 5 = w_i (w_o w) 5 := ei 5 (by decide) (by decide)
      have e4 : w_i (w_o w1) 4 = w_i (w_o w) 4 := ei 4 (by decide) (by decide)
      have e6 : w_i (w_o w1) 6 = w_i (w_o w) 6 := ei 6 (by decide) (by decide)
      have s5 : (w_i (w_o w) 5 - r).toInt = (w_i (w_o w) 5).toInt - r.toInt := t_sub (by omega)
      rw [g_fo, ef]
      have e4' : w_i (w_o (w_so w1 (w_si (w_o w1) 5 (w_i (w_o w1) 5 - r)))) 4 = w_i (w_o w) 4 := e4
      rw [e4']
      refine q_moodBehind hf hi hc (by omega) (fun r1 hr1 => ?_)
      have hcl := m_clamp_rng ((w_i (w_o w) 4).toInt + m_felt (w_a (w_f w) 0 i).toInt (w_a (w_f w) 1 i).toInt)
      rintro z2 rfl
      refine ⟨hin, hin, ?_⟩
      rintro z3 rfl
      rintro z4 rfl
      rintro z5 rfl
      simp only [g_oo, g_fo, w_so_so, ef, t_cl hi]
      refine q_endHour ?_ ?_ ?_ ?_ ?_ ?_
      · show FK (w_f w1); rw [ef]; exact hf
      · show -100 ≤ r1.toInt ∧ r1.toInt ≤ 100; omega
      · show -100 ≤ (w_i (w_o w1) 5 - r).toInt ∧ (w_i (w_o w1) 5 - r).toInt ≤ 999; rw [e5, s5]; omega
      · show 0 ≤ (w_i (w_o w1) 6).toInt ∧ (w_i (w_o w1) 6).toInt ≤ 9; rw [e6]; exact hr
      · intro j hj
        have hj' : (j : Int) < (w_i (w_f w) 4).toInt := by rw [← ef]; exact hj
        show -1000 ≤ (upd (w_a (w_o w1) 1) i (w_a (w_f w) 2 i) j).toInt ∧ (upd (w_a (w_o w1) 1) i (w_a (w_f w) 2 i) j).toInt ≤ 1000
        rw [g_u, ea 1]
        by_cases e : j = i
        · rw [if_pos e]; omega
        · rw [if_neg e]; have := hw j hj'; omega
      · rintro w' ⟨x1, x2, x3, x4, x5, x6, x7⟩
        rintro z6 rfl
        refine hA i r _ hi hc hz ⟨x1.trans ef, fun k k4 k5 k7 k8 k9 k10 => ?_, fun k k1 => ?_, hXP, ?_, ?_, ?_, ?_, ?_, fun j => ?_⟩
        · rw [x2 k k4 k5 k9]
          show (if k = 10 then _ else if k = 4 then _ else if k = 5 then _ else _) = _
          rw [if_neg k10, if_neg k4, if_neg k5]; exact ei k k7 k8
        · rw [x3 k k1]
          show (if k = 1 then _ else _) = _
          rw [if_neg k1]; exact ea k
        · rw [x2 7 (by decide) (by decide) (by decide), x2 8 (by decide) (by decide) (by decide)]; exact hsw
        · rw [x4]
          show m_wane r1.toInt = _
          rw [hr1]
        · rw [x5]
          show m_rain (w_i (w_o w1) 5 - r).toInt (w_i (w_o w1) 6).toInt = _
          rw [e5, e6, s5]
        · rw [x6]
          show w_i (w_o w1) 9 + 1 = _
          rw [ei 9 (by decide) (by decide)]
        · rw [x2 10 (by decide) (by decide) (by decide)]; rfl
        · rw [x7 j]
          have ec : w_f (w_so w1 (w_si (w_sa (w_si (w_si (w_o w1) 5 (w_i (w_o w1) 5 - r)) 4 r1) 1 (upd (w_a (w_si (w_si (w_o w1) 5 (w_i (w_o w1) 5 - r)) 4 r1) 1) i (w_a (w_f w) 2 i))) 10 one)) = w_f w := ef
          rw [ec]
          have eu : w_a (w_o (w_so w1 (w_si (w_sa (w_si (w_si (w_o w1) 5 (w_i (w_o w1) 5 - r)) 4 r1) 1 (upd (w_a (w_si (w_si (w_o w1) 5 (w_i (w_o w1) 5 - r)) 4 r1) 1) i (w_a (w_f w) 2 i))) 10 one))) 1 j = if j = i then w_a (w_f w) 2 i else w_a (w_o w) 1 j := by
            show upd (w_a (w_o w1) 1) i (w_a (w_f w) 2 i) j = _
            rw [g_u, ea 1]
          rw [eu]
          by_cases e : j = i
          · subst e; simp only [if_pos rfl]; split <;> first | rfl | (exfalso; omega)
          · simp only [if_neg e]
    unfold wpX4_drawBy
    refine q_pailsBehind hf hi hc (by omega) (fun j r hj hcj hfo hr0 => ?_) (fun r hno hrr => ?_)
    · refine q_isSweet hf hi hc (fun s => c1 ?_) (fun s => c0 ?_)
      · rintro z1 rfl
        exact k59 r _ (Or.inl ⟨⟨j, hj, hcj, hfo⟩, hr0⟩) rfl (fun k k7 k8 => by show (if k = 7 then _ else _) = _; rw [if_neg k7] <;> rfl) (fun k => rfl) (Or.inl ⟨s, rfl, rfl⟩)
      · rintro z1 rfl
        exact k59 r _ (Or.inl ⟨⟨j, hj, hcj, hfo⟩, hr0⟩) rfl (fun k k7 k8 => by show (if k = 8 then _ else _) = _; rw [if_neg k8] <;> rfl) (fun k => rfl) (Or.inr ⟨s, rfl, rfl⟩)
    · refine q_isSweet hf hi hc (fun s => c1 ?_) (fun s => c0 ?_)
      · rintro z1 rfl
        exact k59 r _ (Or.inr ⟨hno, hrr⟩) rfl (fun k k7 k8 => by show (if k = 7 then _ else _) = _; rw [if_neg k7] <;> rfl) (fun k => rfl) (Or.inl ⟨s, rfl, rfl⟩)
      · rintro z1 rfl
        exact k59 r _ (Or.inr ⟨hno, hrr⟩) rfl (fun k k7 k8 => by show (if k = 8 then _ else _) = _; rw [if_neg k8] <;> rfl) (fun k => rfl) (Or.inr ⟨s, rfl, rfl⟩)
  · rintro z1 rfl
    refine q_endHour hf ?_ ?_ hr ?_ ?_
    · show -100 ≤ (w_i (w_o w) 4).toInt ∧ (w_i (w_o w) 4).toInt ≤ 100; omega
    · show -100 ≤ (w_i (w_o w) 5).toInt ∧ (w_i (w_o w) 5).toInt ≤ 999; omega
    · intro j hj; have := hw j hj; show -1000 ≤ (w_a (w_o w) 1 j).toInt ∧ (w_a (w_o w) 1 j).toInt ≤ 1000; omega
    · rintro w' ⟨x1, x2, x3, x4, x5, x6, x7⟩
      rintro z6 rfl
      refine hB _ hz ⟨x1, fun k k4 k5 k9 k10 => ?_, x3, x4, x5, x6, ?_, x7⟩
      · rw [x2 k k4 k5 k9]
        show (if k = 10 then _ else _) = _
        rw [if_neg k10] <;> rfl
      · rw [x2 10 (by decide) (by decide) (by decide)]; rfl
