theorem n46 : (46 : Int32).toInt = 46 := by decide
theorem n48 : (48 : Int32).toInt = 48 := by decide
theorem NV.sub {t : wSt} {q v v' : Int32} (h : NV t q v v') : ((v - 48).toInt = v.toInt - 48 ∧ (v' - 48).toInt = v'.toInt - 48) ∧ ((v = v' ∧ q.toInt < (w_i t 17).toInt ∧ 33 ≤ v.toInt ∧ v.toInt ≤ 126) ∨ (v.toInt = 0 ∧ v'.toInt = -1 ∧ v = 0 ∧ v' = -1)) := by
  rcases h with ⟨-, e, e'⟩ | ⟨l, e, -, e3, e4⟩
  · have a : v.toInt = 0 := by rw [e, tn0]
    have b : v'.toInt = -1 := by rw [e', tnm1]
    exact ⟨⟨by rw [t_sub (by rw [n48]; omega), n48], by rw [t_sub (by rw [n48]; omega), n48]⟩, Or.inr ⟨a, b, e, e'⟩⟩
  · exact ⟨⟨by rw [t_sub (by rw [n48]; omega), n48], by rw [← e, t_sub (by rw [n48]; omega), n48]⟩, Or.inl ⟨e, l, e3, e4⟩⟩
/-- the plan as far as it has been read -/
def PR (pl : Nat → Int32) (t : wSt) (i : Nat) : Prop := ∀ j : Nat, j < i → pl j = w_a t 20 j ∧ ((pl j).toInt = 9 ∨ (0 ≤ (pl j).toInt ∧ (pl j).toInt < (w_i t 5).toInt))
theorem b_planL {F : wSt} : ∀ (k i : Nat) (s t : wSt) (pl : Nat → Int32) (post : Int32 → wSt × (Nat → Int32) × wSt → Prop), i + k = 24 → TX s t → w_i t 19 = nI i → (w_i F 4 = w_i t 5 ∧ 0 ≤ (w_i t 5).toInt ∧ (w_i t 5).toInt ≤ 6) → PR pl t i →
    (∀ s' t' pl', TX s' t' → NB t' → MF [18, 19] [20] t t' → (∀ {p2 : Int32 → wSt → Prop}, p2 0 t' → wpX6_readPlan_L10 p2 (k + 1) t) → post (-20 - w_i s' 2) (s', pl', F)) →
    (∀ n s' t' pl', 1 ≤ n → n ≤ 24 → TX s' t' → w_i t' 19 = nI n → PR pl' t' n → MF [18, 19] [20] t t' → (∀ {p2 : Int32 → wSt → Prop}, p2 1 t' → wpX6_readPlan_L10 p2 (k + 1) t) → post (nI n) (s', pl', F)) → wpX3_readPlan_L7 post (k + 1) (nI i) (s, pl, F) := by
  have n1 := tn1
  intro k
  induction k with
  | zero =>
    intro i s t pl post hi h h19 hc hR hp0 hp1
    have ei : i = 24 := by omega
    subst ei
    have h24 := nIe (i := 24) (by omega)
    show wpX3_readPlan_7 _ post _ _
    unfold wpX3_readPlan_7 wpX3_fault
    rw [t_le, tn24, h24]
    refine ⟨fun _ => b_next h (fun q v v' q1 q2 hv hM => ?_), fun q => by exfalso; omega⟩
    have hq0 : 0 ≤ q.toInt := by have := h.2.2.2.1; omega
    have hU : TX (w_si s 2 q) (w_si t 18 q) := h.pl hq0 q2
    have FU : MF [18, 19] [20] t (w_si t 18 q) := MF.si.up (by decide) (by decide)
    obtain ⟨⟨hs, hs'⟩, hvv⟩ := hv.sub
    have kM : ∀ {p2 : Int32 → wSt → Prop}, (v'.toInt < 0 → p2 1 (w_si t 18 q)) → (0 ≤ v'.toInt → p2 0 (w_si t 18 q)) → wpX6_readPlan_L10 p2 (0 + 1) t := by
      intro p2 g1 g0
      show wpX6_readPlan_10 _ p2 _
      unfold wpX6_readPlan_10
      rw [h19]
      refine ⟨fun e => absurd e (by decide), fun _ => hM ?_⟩
      rintro z1 rfl
      rw [t_lt, tn0]
      refine ⟨fun c => g1 c, fun c => ?_⟩
      unfold wpX6_readPlan_24
      refine r_again hv.at ⟨hq0, h.2.2.1.2⟩ ?_
      rintro z2 rfl
      have k46 : wpX6_readPlan_46 (wpX6_readPlan_L10 p2 0) p2 v' (w_si t 18 q) := by
        unfold wpX6_readPlan_46
        have e19 : w_i (w_si t 18 q) 19 = 24 := h19
        rw [e19]
        exact ⟨fun q => absurd rfl q, fun _ => g0 (by omega)⟩
      exact ⟨fun _ => k46, fun _ => r_isOne (by show -1000 ≤ (w_i t 5).toInt ∧ (w_i t 5).toInt ≤ 1000; omega) (fun _ _ => d1 k46 |> fun w => ⟨w.2, w.1⟩) (fun _ => ⟨fun _ => g0 (by omega), fun q => absurd rfl q⟩)⟩
    rintro z1 rfl
    refine ⟨fun ne => hp0 _ _ pl hU ⟨v, v', hv.at⟩ FU (fun {p2} hp2 => kM (fun c => ?_) (fun _ => hp2)), fun e => ?_⟩
    · exfalso
      rcases hvv with ⟨e, -, e3, -⟩ | ⟨-, -, e, -⟩
      · rw [← e] at c; omega
      · exact ne e
    · refine hp1 24 _ _ pl (by omega) (by omega) hU h19 hR FU (fun {p2} hp2 => kM (fun _ => hp2) (fun c => ?_))
      exfalso
      rcases hvv with ⟨-, -, e3, -⟩ | ⟨-, e', -⟩
      · rw [e, tn0] at e3; omega
      · omega
  | succ k ih =>
    intro i s t pl post hi h h19 hc hR hp0 hp1
    have ei := nIe (i := i) (by omega)
    show wpX3_readPlan_7 _ post _ _
    unfold wpX3_readPlan_7
    rw [t_le, tn24, ei]
    refine ⟨fun q => by exfalso; omega, fun _ => b_next h (fun q v v' q1 q2 hv hM => ?_)⟩
    have hq0 : 0 ≤ q.toInt := by have := h.2.2.2.1; omega
    have h60 := h.2.2.1
    have hU : TX (w_si s 2 q) (w_si t 18 q) := h.pl hq0 q2
    have FU : MF [18, 19] [20] t (w_si t 18 q) := MF.si.up (by decide) (by decide)
    obtain ⟨⟨hs, hs'⟩, hvv⟩ := hv.sub
    have kM : ∀ {p2 : Int32 → wSt → Prop}, (v'.toInt < 0 → i ≠ 0 → p2 1 (w_si t 18 q)) → ((0 ≤ v'.toInt ∨ i = 0) → ((v' = 46 → wpX6_readPlan_46 (wpX6_readPlan_L10 p2 (k + 1)) p2 v' (w_si t 18 q)) ∧ (¬ v' = 46 → wpX6_isOne (v' - 48) (w_si t 18 q) (fun r2 => ((r2 = 0 → p2 0 (w_si t 18 q)) ∧ (¬ r2 = 0 → wpX6_readPlan_46 (wpX6_readPlan_L10 p2 (k + 1)) p2 v' (w_si t 18 q))))))) → wpX6_readPlan_L10 p2 (k + 1 + 1) t := by
      intro p2 g1 g0
      show wpX6_readPlan_10 _ p2 _
      unfold wpX6_readPlan_10 wpX6_readPlan_24
      rw [h19]
      refine ⟨fun e => hM ?_, fun e => hM ?_⟩
      · have e0 : i = 0 := by rw [t_eq, ei, tn0] at e; omega
        rintro z1 rfl
        exact g0 (Or.inr e0)
      · have e0 : i ≠ 0 := fun q => e (by rw [q]; rfl)
        rintro z1 rfl
        rw [t_lt, tn0]
        refine ⟨fun c => g1 c e0, fun c => r_again hv.at ⟨hq0, h60.2⟩ ?_⟩
        rintro z2 rfl
        exact g0 (Or.inl (by omega))
    have h5 : -1000 ≤ (w_i (w_si t 18 q) 5).toInt ∧ (w_i (w_si t 18 q) 5).toInt ≤ 1000 := by show -1000 ≤ (w_i t 5).toInt ∧ (w_i t 5).toInt ≤ 1000; omega
    have e5 : w_i (w_si t 18 q) 5 = w_i t 5 := rfl
    -- one item more
    have k70 : ∀ (c : Int32), (c.toInt = 9 ∨ (0 ≤ c.toInt ∧ c.toInt < (w_i t 5).toInt)) → q.toInt < (w_i t 17).toInt → (∀ {p2 : Int32 → wSt → Prop}, wpX6_readPlan_80 (wpX6_readPlan_L10 p2 (k + 1)) p2 c (nI i) (w_si t 18 q) → wpX6_readPlan_L10 p2 (k + 1 + 1) t) → wpX3_readPlan_70 (wpX3_readPlan_L7 post (k + 1)) post (nI i) c (w_si s 2 q, pl, F) := by
      intro c hcr hlt hM2
      have eq1 : (q + 1).toInt = q.toInt + 1 := by rw [t_add (by omega), n1]
      unfold wpX3_readPlan_70
      rw [t_cl ei]
      refine ⟨t_in (by omega), ?_⟩
      rintro z1 rfl
      rintro z2 rfl
      rw [nI_1]
      obtain ⟨T, eT⟩ : ∃ T, T = w_si (w_si (w_sa (w_si t 18 q) 20 (upd (w_a (w_si t 18 q) 20) i c)) 19 (nI (i + 1))) 18 (q + 1) := ⟨_, rfl⟩
      have FT : MF [18, 19] [20] t T := by rw [eT]; exact (((MF.si.tr MF.sa).tr MF.si).tr MF.si).up (by decide) (by decide)
      have hT : TX (w_si (w_si s 2 q) 2 (w_i (w_si s 2 q) 2 + 1)) T := by
        rw [w_ii, w_si_si, eT]
        exact h.pl (q := q + 1) (by omega) (by omega)
      have eT19 : w_i T 19 = nI (i + 1) := by rw [eT]; rfl
      have eT5 : w_i T 5 = w_i t 5 := FT.1 5 (by decide)
      have kM3 : ∀ {p2 : Int32 → wSt → Prop}, wpX6_readPlan_L10 p2 (k + 1) T → wpX6_readPlan_L10 p2 (k + 1 + 1) t := by
        intro p2 hh
        refine hM2 ?_
        unfold wpX6_readPlan_80
        rw [t_cl ei]
        refine ⟨t_in (by omega), ?_⟩
        rintro z1 rfl
        rintro z2 rfl
        intro z3 e
        have e' : z3 = T := by
          rw [e, eT, ← nI_1, ← h19]; rfl
        clear e
        subst e'
        exact hh
      refine ih (i + 1) _ T (upd pl i c) post (by omega) hT eT19 (by rw [eT5]; exact hc) (fun j hj => ?_) (fun s' t' pl' a1 a2 a3 a4 => hp0 s' t' pl' a1 a2 ((FT.tr a3).up (by decide) (by decide)) (fun {p2} hp2 => kM3 (a4 hp2))) (fun n s' t' pl' a1 a2 a3 a4 a5 a6 a7 => hp1 n s' t' pl' a1 a2 a3 a4 a5 ((FT.tr a6).up (by decide) (by decide)) (fun {p2} hp2 => kM3 (a7 hp2)))
      have e20 : w_a T 20 j = if j = i then c else w_a t 20 j := by rw [eT]; rfl
      rw [eT5, e20, g_u]
      by_cases e : j = i
      · rw [if_pos e, if_pos e]
        exact ⟨rfl, hcr⟩
      · rw [if_neg e, if_neg e]
        exact hR j (by omega)
    have e24 : ¬ (nI i = 24) := fun e => by rw [t_eq, ei, tn24] at e; omega
    have fault : wpX3_fault (w_si s 2 q) (fun r2 => post r2 (w_si s 2 q, pl, F)) → post (-20 - w_i (w_si s 2 q) 2) (w_si s 2 q, pl, F) := fun w => w
    have go30 : (i = 0 ∨ v ≠ 0) → wpX3_readPlan_30 (wpX3_readPlan_L7 post (k + 1)) post (nI i) v (w_si s 2 q, pl, F) := by
      intro h0
      have hor : 0 ≤ v'.toInt ∨ i = 0 := by
        rcases h0 with c | c
        · exact Or.inr c
        · rcases hvv with ⟨e, -, e3, -⟩ | ⟨-, -, e, -⟩
          · left; rw [← e]; omega
          · exact absurd e c
      have no1 : v'.toInt < 0 → i ≠ 0 → False := fun c d => by
        rcases hor with e | e
        · omega
        · exact d e
      unfold wpX3_readPlan_30 wpX3_readPlan_47
      refine ⟨fun ne => ⟨fun e => absurd e ne, fun _ => q_has (fun w1 w2 => d1 ?_) (fun w => d0 ?_)⟩, fun e => ⟨fun _ => ?_, fun ne => absurd e ne⟩⟩
      · have w2' : (v - 48).toInt < (w_i F 4).toInt := w2
        rw [hc.1] at w2'
        have evv : v = v' ∧ q.toInt < (w_i t 17).toInt := by
          rcases hvv with ⟨e, l, -⟩ | ⟨e, -⟩
          · exact ⟨e, l⟩
          · exfalso; omega
        refine k70 (v - 48) (Or.inr ⟨w1, w2'⟩) evv.2 (fun {p2} hh => kM (fun c d => absurd (no1 c d) id) (fun _ => ?_))
        rw [← evv.1]
        refine ⟨fun e => absurd e ne, fun _ => r_isOne h5 (fun _ _ => c1 ?_) (fun w => absurd ⟨w1, by rw [e5]; exact w2'⟩ w)⟩
        unfold wpX6_readPlan_46
        have e19 : w_i (w_si t 18 q) 19 = nI i := h19
        rw [e19]
        exact ⟨fun _ => ⟨fun _ => hh, fun e => absurd e ne⟩, fun e => absurd e e24⟩
      · have w' : ¬ (0 ≤ (v - 48).toInt ∧ (v - 48).toInt < (w_i F 4).toInt) := w
        rw [hc.1] at w'
        refine hp0 _ _ pl hU ⟨v, v', hv.at⟩ FU (fun {p2} hp2 => kM (fun c d => absurd (no1 c d) id) (fun _ => ⟨fun e => ?_, fun _ => r_isOne h5 (fun u1 u2 => ?_) (fun _ => c0 hp2)⟩))
        · exfalso
          rcases hvv with ⟨e', -⟩ | ⟨-, -, -, e'⟩
          · rw [e'] at ne; exact ne e
          · rw [e'] at e; exact absurd e (by decide)
        · exfalso
          rw [e5] at u2
          rcases hvv with ⟨e', -⟩ | ⟨-, e', -⟩
          · rw [← e'] at u1 u2; exact w' ⟨u1, u2⟩
          · omega
      · have evv : v = v' ∧ q.toInt < (w_i t 17).toInt := by
          rcases hvv with ⟨e', l, -⟩ | ⟨e', -⟩
          · exact ⟨e', l⟩
          · rw [e, n46] at e'; exfalso; omega
        refine k70 9 (Or.inl tn9) evv.2 (fun {p2} hh => kM (fun c d => absurd (no1 c d) id) (fun _ => ⟨fun _ => ?_, fun ne => absurd (evv.1 ▸ e) ne⟩))
        unfold wpX6_readPlan_46
        have e19 : w_i (w_si t 18 q) 19 = nI i := h19
        rw [e19]
        exact ⟨fun _ => ⟨fun ne => absurd (evv.1 ▸ e) ne, fun _ => hh⟩, fun e => absurd e e24⟩
    rintro z1 rfl
    refine ⟨fun ne => go30 (Or.inr ne), fun e => ?_⟩
    rw [t_le, ei, tn0]
    refine ⟨fun c => go30 (Or.inl (by omega)), fun c => ?_⟩
    refine hp1 i _ _ pl (by omega) (by omega) hU h19 hR FU (fun {p2} hp2 => kM (fun _ _ => hp2) (fun d => ?_))
    exfalso
    rcases hvv with ⟨-, -, e3, -⟩ | ⟨-, e', -⟩
    · rw [e, tn0] at e3; omega
    · omega
